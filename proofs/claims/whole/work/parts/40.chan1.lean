section Chan1
variable {d c : Nat}
def aw (al : Int → Int) (p k : Int) : Int := if k = al (30 + p) then 0 else if sdA al (-1) p k (-1) = -1 then 0 else al (21 + sdA al (-1) p k (-1))
def scd (al : Int → Int) (p k : Int) : Int := if k = al (30 + p) then k else if sdA al (-1) p k (-1) = -1 then k else if sdA al (-1) p k (sdA al (-1) p k (-1)) = -1 then k else wlA al (sdA al (-1) p k (sdA al (-1) p k (-1))) p
/-- in how many of 10 ^ n it is given in n days -/
def lkl (al : Int → Int) (p : Int) : Nat → Int → Int
  | 0, k => if k = al (30 + p) then 1 else 0
  | n + 1, k => lkl al p n (nxA al (-1) p k) * (10 - aw al p k) + lkl al p n (scd al p k) * aw al p k
theorem lkl_s (al : Int → Int) (p : Int) (n : Nat) (k : Int) : lkl al p (n + 1) k = lkl al p n (nxA al (-1) p k) * (10 - aw al p k) + lkl al p n (scd al p k) * aw al p k := rfl
theorem aw_rng {al : Int → Int} (hT : okT al) (p k : Int) : 0 ≤ aw al p k ∧ aw al p k ≤ 10 := by
  unfold aw
  split
  · omega
  · split
    · omega
    · rename_i h
      have h2 := hT.2.1
      have := sdA_ok (al := al) h2.1 h
      exact (hT.2.2.1 _ this.1.1 (by omega)).2.2
theorem scd_rng {al : Int → Int} (hT : okT al) {p k : Int} (hp : 0 ≤ p ∧ p < 6) (hk : 0 ≤ k ∧ k < al 1) : 0 ≤ scd al p k ∧ scd al p k < al 1 := by
  unfold scd
  split
  · exact hk
  · split
    · exact hk
    · split
      · exact hk
      · exact wlA_rng hT hp
theorem wsum {a x y W : Int} (ha : 0 ≤ a ∧ a ≤ 10) (hx : 0 ≤ x ∧ x ≤ W) (hy : 0 ≤ y ∧ y ≤ W) : (0 ≤ x * (10 - a) ∧ x * (10 - a) ≤ 10 * W) ∧ (0 ≤ y * a ∧ y * a ≤ 10 * W) ∧ 0 ≤ x * (10 - a) + y * a ∧ x * (10 - a) + y * a ≤ 10 * W := by
  rcases (show a = 0 ∨ a = 1 ∨ a = 2 ∨ a = 3 ∨ a = 4 ∨ a = 5 ∨ a = 6 ∨ a = 7 ∨ a = 8 ∨ a = 9 ∨ a = 10 by omega) with rfl | rfl | rfl | rfl | rfl | rfl | rfl | rfl | rfl | rfl | rfl <;> omega
theorem p10 (n : Nat) : (10 : Int) ^ (n + 1) = 10 * 10 ^ n := by rw [Int.pow_succ, Int.mul_comm]
theorem p10_le : ∀ n : Fin 18, (1 : Int) ≤ 10 ^ n.val ∧ (10 : Int) ^ n.val ≤ 100000000000000000 := by decide +kernel
theorem p10_b {n : Nat} (h : n ≤ 17) : (1 : Int) ≤ 10 ^ n ∧ (10 : Int) ^ n ≤ 100000000000000000 := p10_le ⟨n, by omega⟩
theorem p10_c {n : Nat} (h : n ≤ 15) : (1 : Int) ≤ 10 ^ n ∧ (10 : Int) ^ n ≤ 1000000000000000 := by
  have : ∀ n : Fin 16, (1 : Int) ≤ 10 ^ n.val ∧ (10 : Int) ^ n.val ≤ 1000000000000000 := by decide +kernel
  exact this ⟨n, by omega⟩
theorem lkl_rng {al : Int → Int} (hT : okT al) {p : Int} (hp : 0 ≤ p ∧ p < 6) : ∀ (n : Nat) {k : Int}, 0 ≤ k ∧ k < al 1 → 0 ≤ lkl al p n k ∧ lkl al p n k ≤ 10 ^ n := by
  intro n
  induction n with
  | zero => intro k _; show 0 ≤ (if k = al (30 + p) then (1 : Int) else 0) ∧ (if k = al (30 + p) then (1 : Int) else 0) ≤ 1; split <;> omega
  | succ n ih =>
    intro k hk
    rw [lkl_s, p10]
    exact (wsum (aw_rng hT p k) (ih (nxA_rng hT hp hk)) (ih (scd_rng hT hp hk))).2.2
theorem lkl_t {al : Int → Int} (p : Int) : ∀ n : Nat, lkl al p n (al (30 + p)) = 10 ^ n := by
  intro n
  induction n with
  | zero => show (if al (30 + p) = al (30 + p) then (1 : Int) else 0) = 1; rw [if_pos rfl]
  | succ n ih =>
    rw [lkl_s]
    have e1 : aw al p (al (30 + p)) = 0 := by unfold aw; rw [if_pos rfl]
    have e2 : nxA al (-1) p (al (30 + p)) = al (30 + p) := by unfold nxA; rw [if_pos rfl]
    rw [e1, e2, ih, p10]
    omega
theorem cpy_in (v : sF) {s sp d dp n j : Int} (h : dp ≤ j ∧ j < dp + n) : cpy v s sp d dp n d j = v s (sp + (j - dp)) := by unfold cpy; rw [if_pos ⟨rfl, h.1, h.2⟩]
theorem cpy_of (v : sF) {s sp d dp n a : Int} (h : a ≠ d) : cpy v s sp d dp n a = v a := by funext j; unfold cpy; rw [if_neg (fun q => h q.1)]
theorem cpy_out (v : sF) {s sp d dp n j : Int} (h : j < dp ∨ dp + n ≤ j) : cpy v s sp d dp n d j = v d j := by unfold cpy; rw [if_neg (by omega)]
theorem bg_loop {t : Int} {Q : sQ} (v0 : sF) (ht : v0 140 3 = t) (hQ : ∀ v, Off [149] v0 v → (∀ j : Int, 0 ≤ j → j < 6 → v 149 j = if j = t then 1 else 0) → Q none (c, v)) : ∀ (m : Nat) (k : Int) (v : sF), 0 ≤ k → k + m = 6 → Off [149] v0 v → (∀ j : Int, 0 ≤ j → j < k → v 149 j = if j = t then 1 else 0) → Wp (Ev d) 0 (fun _ => 0) 1 Q 7 [(2, 148), (0, k)] [] c v := by
  intro m
  induction m with
  | zero =>
    intro k v k0 hk ho hj
    exact E1_7 _ (brbI (fun _ => hQ v ho (fun j j0 j1 => hj j j0 (by omega))) (fun q => absurd q (by omega)))
  | succ m ih =>
    intro k v k0 hk ho hj
    have hgo : ∀ x, x = (if k = t then (1 : Int) else 0) → Wp (Ev d) 0 (fun _ => 0) 1 Q 7 [(2, 148), (0, k + 1)] [] c (up v 149 k x) := fun x hx => ih (k + 1) _ (by omega) (by omega) (ho.up (by decide)) (fun j j0 j1 => by
      by_cases e : j = k
      · rw [e, up_same]; exact hx
      · rw [up_ne _ e]; exact hj j j0 (by omega))
    refine E1_7 _ ?_
    rw [ho 140 (by decide), ht]
    refine brbI (fun q => absurd q (by omega)) (fun _ => brbN (fun q => chkI (inbI (by omega) (by omega)) (rngI (by omega) (hgo _ (by rw [if_neg q])))) (fun q => chkI (inbI (by omega) (by omega)) (rngI (by omega) (hgo _ (by rw [if_pos q])))))
/-- what the class has reckoned -/
def ChX (v : sF) (al : Int → Int) (p : Int) (n : Nat) : Prop := v 148 2 = 10 ^ n ∧ ∀ k : Int, 0 ≤ k → k < al 1 → v 149 k = lkl al p n k
theorem C_begin {v : sF} {al : Int → Int} {p : Int} (h1 : al 1 ≤ 6) (ht : v 140 3 = al (30 + p)) : ∃ v', Ev (d + 1) 1 [(2, 148)] (c, v) none (c, v') ∧ Off [148, 149, 150] v v' ∧ ChX v' al p 0 := by
  refine CV_of loc1 (E1_0 (bg_loop _ (t := al (30 + p)) (by rw [up_ne2 _ (by decide)]; exact ht) (fun v2 ho hj => ⟨rfl, _, rfl, ((Off.rf _ v).up (by decide)).tr (ho.wk (by decide)), ?_, fun k k0 k1 => hj k k0 (by omega)⟩) 6 0 _ (by omega) (by omega) (Off.rf _ _) (fun j j0 j1 => absurd j0 (by omega))))
  rw [ho 148 (by decide), up_same]; rfl
theorem C_onFrom {v : sF} {al f : Int → Int} {p k W : Int} (hT : okT al) (hp : 0 ≤ p ∧ p < 6) (hG : WG v al p (-1) (-1)) (h6 : ∀ j : Int, 0 ≤ j → j < 6 → v 6 j = al (21 + j)) (hk : 0 ≤ k ∧ k < al 1) (hkt : k ≠ al (30 + p)) (hW : W ≤ 100000000000000000) (hf : ∀ j : Int, 0 ≤ j → j < al 1 → v 150 j = f j ∧ 0 ≤ f j ∧ f j ≤ W) : Ev (d + 2) 3 [(2, 148), (0, k)] (c, v) (some (1, f (nxA al (-1) p k) * (10 - aw al p k) + f (scd al p k) * aw al p k)) (c, v) := by
  have h1 := hT.1
  have h2 := hT.2.1
  have hP : 0 ≤ v 3 1 ∧ v 3 1 ≤ 6 := by rw [hG.2.1]; exact h2
  have hb1 := C_bestAt (d := d) (c := c) (v := v) (place := k) (but := -1) hP
  have hb2 := C_bestAt (d := d) (c := c) (v := v) (place := k) (but := sdA al (-1) p k (-1)) hP
  rw [sdW_e hG (Or.inl rfl) (but := -1) (fun q q0 => by omega) h2.1] at hb1
  rw [sdW_e hG (Or.inl rfl) (but := sdA al (-1) p k (-1)) (fun q q0 => by omega) h2.1] at hb2
  have hgoal : ∀ but, sdA al (-1) p k but ≠ -1 → v 143 (sdA al (-1) p k but * 6 + k) = wlA al (sdA al (-1) p k but) p := fun but hne => by
    have hs := sdA_ok h2.1 hne
    have hj := ((hG.2.2.2.2.2 _ hs.1.1 hs.1.2 hs.2.1).2 (Or.inl rfl)).2
    rw [hs.2.2.2.2.1] at hj
    exact hj
  have ha := aw_rng hT p k
  have hn := nxA_rng (idle := -1) hT hp hk
  have hs := scd_rng hT hp hk
  have hw := wsum ha (hf _ hn.1 hn.2).2 (hf _ hs.1 hs.2).2
  have hfk := hf k hk.1 hk.2
  refine Ev_of (loc3 k) (E3_0 k ⟨_, c, v, hb1, brbN (fun q => ⟨_, c, v, hb2, ?_⟩) (fun q => ?_)⟩)
  · have hs1 := sdA_ok h2.1 q
    have en : nxA al (-1) p k = wlA al (sdA al (-1) p k (-1)) p := by unfold nxA; rw [if_neg hkt, if_neg q]
    have ea : aw al p k = al (21 + sdA al (-1) p k (-1)) := by unfold aw; rw [if_neg hkt, if_neg q]
    rw [hgoal _ q, h6 _ hs1.1.1 (by omega), ← ea, ← en, (hf _ hn.1 hn.2).1]
    have m1 : (10 - aw al p k) * f (nxA al (-1) p k) = f (nxA al (-1) p k) * (10 - aw al p k) := Int.mul_comm _ _
    rw [m1]
    refine rngI (by omega) (rngI (by omega) (chkI (inbI (by omega) (by omega)) (brbN (fun q2 => ?_) (fun q2 => ?_))))
    · have hs2 := sdA_ok h2.1 q2
      have es : scd al p k = wlA al (sdA al (-1) p k (sdA al (-1) p k (-1))) p := by unfold scd; rw [if_neg hkt, if_neg q, if_neg q2]
      rw [hgoal _ q2, ← es, (hf _ hs.1 hs.2).1]
      have m2 : aw al p k * f (scd al p k) = f (scd al p k) * aw al p k := Int.mul_comm _ _
      rw [m2]
      exact rngI (by omega) (rngI (by omega) (chkI (inbI (by omega) (by omega)) (chkI (inbI (by omega) (by omega)) (rngI (by omega) (chkI (inbI (by omega) (by omega)) (rnlI (by omega) (chkI (inbI (by omega) (by omega)) (rnlI (by omega) (rnlI (by omega) ⟨rfl, rfl⟩)))))))))
    · have es : scd al p k = k := by unfold scd; rw [if_neg hkt, if_neg q, if_pos q2]
      have m2 : aw al p k * v 150 k = f (scd al p k) * aw al p k := by rw [es, hfk.1]; exact Int.mul_comm _ _
      rw [m2]
      exact chkI (inbI (by omega) (by omega)) (rngI (by omega) (chkI (inbI (by omega) (by omega)) (rnlI (by omega) (chkI (inbI (by omega) (by omega)) (rnlI (by omega) (rnlI (by omega) ⟨rfl, rfl⟩))))))
  · have en : nxA al (-1) p k = k := by unfold nxA; rw [if_neg hkt, if_pos q]
    have ea : aw al p k = 0 := by unfold aw; rw [if_neg hkt, if_pos q]
    rw [hfk.1]
    refine chkI (inbI (by omega) (by omega)) (rnlI (by omega) ⟨?_, rfl⟩)
    rw [en, ea, Int.mul_zero, Int.sub_zero, Int.add_zero, Int.mul_comm]
theorem ad2_loop {al : Int → Int} {p dn day : Int} {n : Nat} {Q : sQ} (v0 : sF) (hT : okT al) (hp : 0 ≤ p ∧ p < 6) (hn : n ≤ 15) (hG : WG v0 al p (-1) (-1)) (h6 : ∀ j : Int, 0 ≤ j → j < 6 → v0 6 j = al (21 + j)) (hwh : v0 148 2 = 10 ^ (n + 1)) (hwas : ∀ j : Int, 0 ≤ j → j < al 1 → v0 150 j = lkl al p n j) (hd : 0 ≤ day ∧ day ≤ 100) (hQ : ∀ v, Off [149] v0 v → (∀ j : Int, 0 ≤ j → j < al 1 → v 149 j = lkl al p (n + 1) j) → Wp (Ev (d + 2)) 0 (fun _ => 0) 2 Q 2 [(2, 148), (0, dn), (0, day + 1), (9, 0)] [] c v) : ∀ (m : Nat) (k : Int) (v : sF), 0 ≤ k → k + m = al 1 → Off [149] v0 v → (∀ j : Int, 0 ≤ j → j < k → v 149 j = lkl al p (n + 1) j) → Wp (Ev (d + 2)) 0 (fun _ => 0) 2 Q 36 [(2, 148), (0, dn), (0, day), (0, k)] [] c v := by
  have h1 := hT.1
  have hb := p10_b (n := n) (by omega)
  intro m
  induction m with
  | zero =>
    intro k v k0 hk ho hj
    refine E2_36 _ _ _ ?_
    rw [ho 3 (by decide), hG.1]
    exact brbI (fun _ => rngI (by omega) (hQ v ho (fun j j0 j1 => hj j j0 (by omega)))) (fun q => absurd q (by omega))
  | succ m ih =>
    intro k v k0 hk ho hj
    have hgo : ∀ x, x = lkl al p (n + 1) k → Wp (Ev (d + 2)) 0 (fun _ => 0) 2 Q 36 [(2, 148), (0, dn), (0, day), (0, k + 1)] [] c (up v 149 k x) := fun x hx => ih (k + 1) _ (by omega) (by omega) (ho.up (by decide)) (fun j j0 j1 => by
      by_cases e : j = k
      · rw [e, up_same]; exact hx
      · rw [up_ne _ e]; exact hj j j0 (by omega))
    refine E2_36 _ _ _ ?_
    rw [ho 3 (by decide), hG.1, ho 140 (by decide), hG.2.2.2.1, ho 148 (by decide), hwh]
    refine brbI (fun q => absurd q (by omega)) (fun _ => brbN (fun q => ?_) (fun q => chkI (inbI (by omega) (by omega)) (rngI (by omega) (hgo _ ?_))))
    · have hE := C_onFrom (d := d) (c := c) (v := v) (f := lkl al p n) (W := 10 ^ n) hT hp (hG.off ho (by decide)) (fun j j0 j1 => by rw [ho 6 (by decide)]; exact h6 j j0 j1) ⟨k0, by omega⟩ q hb.2 (fun j j0 j1 => ⟨by rw [ho 150 (by decide)]; exact hwas j j0 j1, lkl_rng hT hp n ⟨j0, j1⟩⟩)
      exact ⟨_, c, v, hE, chkI (inbI (by omega) (by omega)) (rngI (by omega) (hgo _ (by rw [lkl_s])))⟩
    · rw [q, lkl_t]
theorem ad1_loop {al : Int → Int} {p dn : Int} {nF : Nat} {Q : sQ} (v0 : sF) (hT : okT al) (hp : 0 ≤ p ∧ p < 6) (hn : nF ≤ 16) (hdn : dn ≤ 100) (hG : WG v0 al p (-1) (-1)) (h6 : ∀ j : Int, 0 ≤ j → j < 6 → v0 6 j = al (21 + j)) (hQ : ∀ v, Off [148, 149, 150] v0 v → ChX v al p nF → Q none (c, v)) : ∀ (m n : Nat) (day : Int) (v : sF), 0 ≤ day → day + m = dn → n + m = nF → Off [148, 149, 150] v0 v → ChX v al p n → Wp (Ev (d + 2)) 0 (fun _ => 0) 2 Q 2 [(2, 148), (0, dn), (0, day), (9, 0)] [] c v := by
  have h1 := hT.1
  intro m
  induction m with
  | zero =>
    intro n day v d0 hd hnn ho hC
    have hnn : n = nF := hnn
    subst hnn
    exact E2_2 _ _ (brbI (fun _ => hQ v ho hC) (fun q => absurd q (by omega)))
  | succ m ih =>
    intro n day v d0 hd hnn ho hC
    have hb := p10_b (n := n) (by omega)
    refine E2_2 _ _ ?_
    rw [hC.1]
    refine brbI (fun q => absurd q (by omega)) (fun _ => rnlI (by omega) ?_)
    have ho2 : Off [148, 150] v (up (cpy v 149 0 150 0 6) 148 2 (10 ^ n * 10)) := fun a ha => by
      rw [up_off a (fun q => ha (by rw [q]; decide)), cpy_of v (fun q => ha (by rw [q]; decide))]
    refine ad2_loop (n := n) (al := al) (p := p) _ hT hp (by omega) ((hG.off ho (by decide)).off ho2 (by decide)) (fun j j0 j1 => by rw [ho2 6 (by decide), ho 6 (by decide)]; exact h6 j j0 j1) (by rw [up_same, p10, Int.mul_comm]) (fun j j0 j1 => ?_) (by omega) (fun v2 ho3 hj3 => ih (n + 1) (day + 1) v2 (by omega) (by omega) (by omega) (ho.tr ((ho2.wk (by decide)).tr (ho3.wk (by decide)))) ⟨?_, hj3⟩) (al 1).toNat 0 _ (by omega) (by omega) (Off.rf _ _) (fun j j0 j1 => absurd j0 (by omega))
    · rw [up_off 150 (by decide), cpy_in v (by omega), show 0 + (j - 0) = j by omega]
      exact hC.2 j j0 j1
    · rw [ho3 148 (by decide), up_same, p10, Int.mul_comm]
theorem C_addDays {v : sF} {al : Int → Int} {p : Int} {n m : Nat} (hT : okT al) (hp : 0 ≤ p ∧ p < 6) (hn : n + m ≤ 16) (hG : WG v al p (-1) (-1)) (h6 : ∀ j : Int, 0 ≤ j → j < 6 → v 6 j = al (21 + j)) (hC : ChX v al p n) : ∃ v', Ev (d + 3) 2 [(2, 148), (0, (m : Int))] (c, v) none (c, v') ∧ Off [148, 149, 150] v v' ∧ ChX v' al p (n + m) := CV_of (loc2 m) (E2_0 m (ad1_loop v hT hp hn (by omega) hG h6 (fun v2 ho hC2 => ⟨rfl, _, rfl, ho, hC2⟩) m n 0 v (by omega) (by omega) rfl (Off.rf _ _) hC))
end Chan1
