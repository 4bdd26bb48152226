section Feq
set_option maxRecDepth 20000 in
theorem F85_0 {K : Nat → List sV → sM → Option sV → sM → Prop} {L : Nat} {xs : Int → Int} {Q : Option sV → sM → Prop} (a0 x1 : Int) {c : Nat} {v : sF} (h : ckt (tyT a0 == 19) (brb (decide (v a0 1 = 0)) (Q (some (1, w8 (w32 x1))) (c, v)) (brb (decide (v a0 1 = 1)) (Q (some (1, w16 (w32 x1))) (c, v)) (brb (decide (v a0 1 = 2)) (Q (some (1, w32 x1)) (c, v)) (Q (some (1, x1)) (c, v)))))) : Wp K L xs 85 Q 0 [(2, a0), (1, x1), (9, 0)] [] c v :=
  sx_sound [] 8 h
set_option maxRecDepth 20000 in
theorem F289_0 {K : Nat → List sV → sM → Option sV → sM → Prop} {L : Nat} {xs : Int → Int} {Q : Option sV → sM → Prop} (x0 x2 : Int) {c : Nat} {v : sF} (h : brb (!decide (x2 = 0)) (brb (!decide (x2 = 1)) (brb (!decide (x2 = 2)) (Q (some (1, x0)) (c, v)) (Q (some (1, w32 x0)) (c, v))) (Q (some (1, w16 (w32 x0))) (c, v))) (Q (some (1, w8 (w32 x0))) (c, v))) : Wp K L xs 289 Q 0 [(1, x0), (9, 0), (0, x2)] [] c v :=
  sx_sound [] 13 h
end Feq
