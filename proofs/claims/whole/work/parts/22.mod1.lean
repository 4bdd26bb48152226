section Mod1
variable {d c : Nat} {v : sF}
theorem C_within (a lo hi : Int) : Ev (d + 1) 168 [(1, a), (1, lo), (1, hi)] (c, v) (some (0, if lo ≤ a ∧ a ≤ hi then 1 else 0)) (c, v) := by
  refine Ev_of (loc168 a lo hi) (E168_0 a lo hi (brbI (fun h => ⟨?_, rfl⟩) (fun h => brbI (fun h2 => ⟨?_, rfl⟩) (fun h2 => ⟨?_, rfl⟩))))
  · rw [lcm1_lt] at h; rw [if_neg (by omega)]
  · rw [lcm1_lt] at h; rw [lcm1_gt] at h2; rw [if_neg (by omega)]
  · rw [lcm1_lt] at h; rw [lcm1_gt] at h2; rw [if_pos (by omega)]
theorem if01 {p : Prop} [Decidable p] : (if p then (1 : Int) else 0) = 0 ∨ (if p then (1 : Int) else 0) = 1 := by split <;> simp
theorem chk01 {p : Prop} [Decidable p] {P : Prop} (h : P) : chk (decide ((if p then (1 : Int) else 0) = 0) || decide ((if p then (1 : Int) else 0) = 1)) P := by
  refine chkI ?_ h
  split <;> decide
theorem C_isPlaceM {x : Int} (hN : 0 ≤ v 164 1 ∧ v 164 1 ≤ 6) : Ev (d + 2) 200 [(2, 163), (1, x)] (c, v) (some (0, if 0 ≤ x ∧ x < v 164 1 then 1 else 0)) (c, v) := by
  refine Ev_of (loc200 x) (E200_0 x (rngI (by omega) ⟨_, c, v, C_within _ _ _, chk01 ⟨?_, rfl⟩⟩))
  congr 2
  by_cases h : 0 ≤ x ∧ x < v 164 1
  · rw [if_pos h, if_pos (by omega)]
  · rw [if_neg h, if_neg (by omega)]
theorem C_isPersonM {x : Int} (hN : 0 ≤ v 164 2 ∧ v 164 2 ≤ 6) : Ev (d + 2) 201 [(2, 163), (1, x)] (c, v) (some (0, if 0 ≤ x ∧ x < v 164 2 then 1 else 0)) (c, v) := by
  refine Ev_of (loc201 x) (E201_0 x (rngI (by omega) ⟨_, c, v, C_within _ _ _, chk01 ⟨?_, rfl⟩⟩))
  congr 2
  by_cases h : 0 ≤ x ∧ x < v 164 2
  · rw [if_pos h, if_pos (by omega)]
  · rw [if_neg h, if_neg (by omega)]
theorem C_areTwoM {x y : Int} (hN : 0 ≤ v 164 2 ∧ v 164 2 ≤ 6) : Ev (d + 3) 202 [(2, 163), (1, x), (1, y)] (c, v) (some (0, if (0 ≤ x ∧ x < v 164 2) ∧ (0 ≤ y ∧ y < v 164 2) ∧ x ≠ y then 1 else 0)) (c, v) := by
  refine Ev_of (loc202 x y) (E202_0 x y ⟨_, c, v, C_isPersonM hN, brbI (fun h => ⟨?_, rfl⟩) (fun h => ⟨_, c, v, C_isPersonM hN, brbI (fun h2 => ⟨?_, rfl⟩) (fun h2 => brbI (fun h3 => ⟨?_, rfl⟩) (fun h3 => ⟨?_, rfl⟩))⟩)⟩)
  · rw [if_neg (fun q => by rw [if_pos q.1] at h; cases h)]
  · rw [if_neg (fun q => by rw [if_pos q.2.1] at h2; cases h2)]
  · rw [lcm1_eq] at h3; rw [if_neg (fun q => q.2.2 h3)]
  · rw [lcm1_eq] at h3
    have q1 : 0 ≤ x ∧ x < v 164 2 := Decidable.byContradiction fun q => by rw [if_neg q] at h; exact h rfl
    have q2 : 0 ≤ y ∧ y < v 164 2 := Decidable.byContradiction fun q => by rw [if_neg q] at h2; exact h2 rfl
    rw [if_pos ⟨q1, q2, h3⟩]
theorem C_isWayM {x y : Int} (hN : 0 ≤ v 164 1 ∧ v 164 1 ≤ 6) (hP : 0 ≤ v 164 2 ∧ v 164 2 ≤ 6) : Ev (d + 3) 245 [(2, 163), (0, x), (0, y)] (c, v) (some (0, if (0 ≤ x ∧ x < v 164 2) ∧ (0 ≤ y ∧ y < v 164 1) then 1 else 0)) (c, v) := by
  refine Ev_of (loc245 x y) (E245_0 x y ⟨_, c, v, C_isPersonM hP, brbI (fun h => ⟨?_, rfl⟩) (fun h => ⟨_, c, v, C_isPlaceM hN, brbI (fun h2 => ⟨?_, rfl⟩) (fun h2 => ⟨?_, rfl⟩)⟩)⟩)
  · rw [if_neg (fun q => by rw [if_pos q.1] at h; cases h)]
  · rw [if_neg (fun q => by rw [if_pos q.2] at h2; cases h2)]
  · have q1 : 0 ≤ x ∧ x < v 164 2 := Decidable.byContradiction fun q => by rw [if_neg q] at h; exact h rfl
    have q2 : 0 ≤ y ∧ y < v 164 1 := Decidable.byContradiction fun q => by rw [if_neg q] at h2; exact h2 rfl
    rw [if_pos ⟨q1, q2⟩]
theorem C_caresOf {p q : Int} (hp : 0 ≤ p ∧ p < 6) (hq : 0 ≤ q ∧ q < 6) : Ev (d + 1) 204 [(2, 163), (0, p), (0, q)] (c, v) (some (0, v 164 (42 + 6 * p + q))) (c, v) := by
  refine Ev_of (loc204 p q) (E204_0 p q ?_)
  (repeat' (first | (refine brbI (fun _ => ?_) (fun _ => ?_) <;> try (exfalso; omega)) | (refine brbN (fun _ => ?_) (fun _ => ?_) <;> try (exfalso; omega)) | refine rngI (by omega) ?_ | refine rnlI (by omega) ?_ | refine chkI (inbI (by omega) (by omega)) ?_))
  exact ⟨rfl, rfl⟩
theorem mul_rng {a b : Int} (ha : -1000000 ≤ a ∧ a ≤ 1000000) (hb : -1000000 ≤ b ∧ b ≤ 1000000) : -1000000000000 ≤ a * b ∧ a * b ≤ 1000000000000 := by
  have h := Int.natAbs_mul a b
  have h1 : a.natAbs ≤ 1000000 := by omega
  have h2 : b.natAbs ≤ 1000000 := by omega
  have h3 := Nat.mul_le_mul h1 h2
  omega
theorem kp_e (x : Int) : kp x = if x ≤ 1000000 then (if -1000000 ≤ x then x else -1000000) else 1000000 := by
  unfold kp
  split <;> split <;> (try split) <;> omega
theorem C_between {code a b : Int} (hc : 3000 ≤ code ∧ code ≤ 3008 ∧ code ≠ 3006) (ha : -1000000 ≤ a ∧ a ≤ 1000000) (hb : -1000000 ≤ b ∧ b ≤ 1000000) : Ev (d + 1) 205 [(0, code), (0, a), (0, b)] (c, v) (some (0, bop code a b)) (c, v) := by
  have hm := mul_rng ha hb
  refine Ev_of (loc205 code a b) (E205_0 code a b ?_)
  rcases (show code = 3000 ∨ code = 3001 ∨ code = 3002 ∨ code = 3003 ∨ code = 3004 ∨ code = 3005 ∨ code = 3007 ∨ code = 3008 by omega) with rfl | rfl | rfl | rfl | rfl | rfl | rfl | rfl
  all_goals ((repeat' (first | (refine blt (fun _ => ?_) (fun _ => ?_) <;> try (exfalso; omega)) | (refine bgt (fun _ => ?_) (fun _ => ?_) <;> try (exfalso; omega)) | (refine ble (fun _ => ?_) (fun _ => ?_) <;> try (exfalso; omega)) | (refine bge (fun _ => ?_) (fun _ => ?_) <;> try (exfalso; omega)) | (refine beq0 (fun _ => ?_) (fun _ => ?_) <;> try (exfalso; omega)) | (refine bne0 (fun _ => ?_) (fun _ => ?_) <;> try (exfalso; omega)) | (refine brbI (fun _ => ?_) (fun _ => ?_) <;> try (exfalso; omega)) | (refine brbN (fun _ => ?_) (fun _ => ?_) <;> try (exfalso; omega)) | refine rngI (by omega) ?_ | refine rnlI (by omega) ?_ | refine chkI (inbI (by omega) (by omega)) ?_)))
  all_goals (refine ⟨?_, rfl⟩; congr 2; try (unfold bop; simp [kp_e, *]))
def stR (f : Int → Int) : List Int → Prop
  | [] => True
  | x :: r => f (r.length : Int) = x ∧ stR f r
theorem stR_congr {f g : Int → Int} : ∀ {r : List Int}, (∀ i : Int, 0 ≤ i → i < r.length → g i = f i) → stR f r → stR g r := by
  intro r
  induction r with
  | nil => intro _ _; trivial
  | cons x r ih =>
    intro h hs
    refine ⟨(h _ (by omega) (by simp; omega)).trans hs.1, ih (fun i h0 h1 => h i h0 (by simp; omega)) hs.2⟩
theorem stR_up {v : sF} {r : List Int} {i x : Int} (h : stR (v 168) r) (hi : (r.length : Int) ≤ i) : stR (up v 168 i x 168) r := stR_congr (fun j _ hj => up_ne v (by omega)) h
theorem tck_cases {code : Int} {ts ts' : List Bool} (h : tck code ts = some ts') : (0 ≤ code ∧ code < 1008 ∧ ts' = false :: ts) ∨ ((3000 ≤ code ∧ code ≤ 3008 ∧ code ≠ 3006) ∧ ∃ t1 t2 t3 r, ts = t1 :: t2 :: r ∧ ts' = t3 :: r) ∨ (code = 3006 ∧ ∃ r, ts = true :: r ∧ ts' = true :: r) ∨ (code = 3009 ∧ ∃ r, ts = false :: false :: true :: r ∧ ts' = false :: r) := by
  unfold tck at h
  split at h
  · cases h
  split at h
  · cases h; left; exact ⟨by omega, by omega, rfl⟩
  split at h
  · cases h; left; exact ⟨by omega, by omega, rfl⟩
  split at h
  · rename_i h1 h2 h3 h4
    split at h
    · cases h
      exact Or.inr (Or.inl ⟨by omega, _, _, _, _, rfl, rfl⟩)
    · cases h
  split at h
  · rename_i h1 h2 h3 h4 h5
    split at h
    · cases h
      exact Or.inr (Or.inl ⟨by omega, _, _, _, _, rfl, rfl⟩)
    · cases h
  split at h
  · rename_i h6
    split at h
    · cases h
      exact Or.inr (Or.inr (Or.inl ⟨h6, _, rfl, rfl⟩))
    · cases h
  split at h
  · rename_i h6 h7
    split at h
    · cases h
      exact Or.inr (Or.inl ⟨by omega, _, _, _, _, rfl, rfl⟩)
    · cases h
  split at h
  · rename_i h8
    split at h
    · cases h
      exact Or.inr (Or.inr (Or.inr ⟨h8, _, rfl, rfl⟩))
    · cases h
  · cases h
theorem tyd_num {t1 t2 : Bool} {r : List Bool} {xs : List Int} (h : tyd (t1 :: t2 :: r) xs) : ∃ b a ys, xs = b :: a :: ys ∧ (-1000000 ≤ b ∧ b ≤ 1000000) ∧ (-1000000 ≤ a ∧ a ≤ 1000000) ∧ tyd r ys := by
  match xs, h with
  | [], h => cases t1 <;> exact h.elim
  | [x], h => cases t1 <;> cases t2 <;> exact h.2.elim
  | b :: a :: ys, h =>
    refine ⟨b, a, ys, rfl, ?_⟩
    cases t1 <;> cases t2
    · exact ⟨h.1, h.2.1, h.2.2⟩
    · exact ⟨h.1, by have := h.2.1; omega, h.2.2⟩
    · exact ⟨by have := h.1; omega, h.2.1, h.2.2⟩
    · exact ⟨by have := h.1; omega, by have := h.2.1; omega, h.2.2⟩
end Mod1
