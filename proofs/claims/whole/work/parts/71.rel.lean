section Rel
variable {c : Nat}
/-- how late it can be behind n calls -/
def dB (n : Nat) : Int := 1000 + 99 * (n : Int)
/-- class and model agree (but for the machine's own conditions) -/
def Rl0 (n c : Nat) (v : sF) : Prop := CR v 13 (v 164) ∧ St (v 164) ∧ v 164 27 ≤ dB n ∧ PsR v (v 164) (dB n) ∧ ImR v (v 164) (dB n) ∧ ImC c v ∧ TrR v ∧ TpR v ∧ (v 37 2 = v 163 13 ∧ v 37 3 = v 163 14) ∧ v 163 18 = -1
theorem TrR_cong {v v' : sF} (h : TrR v) (he : ∀ k : Int, (155 ≤ k ∧ k ≤ 162) ∨ (179 ≤ k ∧ k ≤ 181) → v' k = v k) : TrR v' := fun t t0 t1 => by
  have hh := h t t0 t1
  rw [he 179 (by omega), he 180 (by omega), he (155 + 2 * t) (by omega)]
  refine ⟨hh.1, hh.2.1, hh.2.2.1, fun q => ⟨(hh.2.2.2 q).1, ?_⟩⟩
  have hx := (hh.2.2.2 q).2
  unfold TrX at hx ⊢
  rw [he 181 (by omega), he (155 + 2 * t) (by omega), he (155 + 2 * t + 1) (by omega)]
  exact hx
theorem Rl0_cong {n c : Nat} {v v' : sF} (h : Rl0 n c v) (he : ∀ k : Int, ((3 ≤ k ∧ k ≤ 6) ∨ (8 ≤ k ∧ k ≤ 10) ∨ (13 ≤ k ∧ k ≤ 20) ∨ (58 ≤ k ∧ k ≤ 139) ∨ k = 1 ∨ k = 2 ∨ k = 37 ∨ k = 152 ∨ k = 153 ∨ (155 ≤ k ∧ k ≤ 162) ∨ (164 ≤ k ∧ k ≤ 166) ∨ (179 ≤ k ∧ k ≤ 181) ∨ 182 ≤ k) → v' k = v k) (h163 : ∀ i : Int, (i = 5 ∨ i = 13 ∨ i = 14 ∨ i = 18) → v' 163 i = v 163 i) : Rl0 n c v' := by
  obtain ⟨h1, h2, h3, h4, h5, h6, h7, h8, h9, h10⟩ := h
  have e164 : v' 164 = v 164 := he 164 (by omega)
  unfold Rl0
  rw [e164, he 37 (by omega), h163 13 (by omega), h163 14 (by omega), h163 18 (by omega)]
  refine ⟨⟨h1.1.cong (fun k hk => he _ (by omega)), h1.2.cong (fun k k0 k1 => he _ (by omega))⟩, h2, h3, ?_, ?_, ?_, TrR_cong h7 (fun k hk => he k (by omega)), ?_, h9, h10⟩
  · unfold PsR at h4 ⊢
    rw [he 58 (by omega)]
    refine ⟨h4.1, h4.2.1, h4.2.2.1, fun j j0 j1 => ⟨(h4.2.2.2 j j0 j1).1.cong (fun k k0 k1 => he _ ?_), (h4.2.2.2 j j0 j1).2⟩⟩
    unfold slot; omega
  · intro i i0 i1
    rw [he 165 (by omega), he 152 (by omega), he 153 (by omega)]
    rcases h5 i i0 i1 with q | ⟨q1, q2, q3, q4, q5, q6, q7⟩
    · exact Or.inl q
    · exact Or.inr ⟨q1, q2, q3, q4.cong (fun k hk => he _ (by omega)), q5.cong (fun k k0 k1 => he _ (by omega)), q6, q7⟩
  · unfold ImC at h6 ⊢
    rw [he 165 (by omega), he 152 (by omega)]
    exact h6
  · unfold TpR at h8 ⊢
    rw [he 1 (by omega), he 2 (by omega), he 166 (by omega), h163 5 (by omega)]
    exact h8
theorem Rl0_X {n c : Nat} {v v' : sF} (h : Rl0 n c v) (ho : Off scX v v') : Rl0 n c v' := by
  have e : ∀ k : Int, ¬ (k = 7 ∨ k = 11 ∨ k = 12 ∨ (140 ≤ k ∧ k ≤ 150) ∨ k = 154) → v' k = v k := fun k hk => ho k (fun z => hk (by
    unfold scX at z
    simp only [List.mem_cons, List.not_mem_nil, or_false] at z
    omega))
  exact Rl0_cong h (fun k hk => e k (by omega)) (fun i _ => by rw [e 163 (by omega)])
theorem Rl0_M {n c : Nat} {v v' : sF} (h : Rl0 n c v) (ho : QN v v') : Rl0 n c v' := by
  have e : ∀ k : Int, ¬ (k = 163 ∨ (168 ≤ k ∧ k ≤ 178)) → v' k = v k := fun k hk => ho.1 k (fun z => hk (by
    unfold scM at z
    simp only [List.mem_cons, List.not_mem_nil, or_false] at z
    omega))
  exact Rl0_cong h (fun k hk => e k (by omega)) ho.2
theorem Rl0_n {n c : Nat} {v : sF} (h : Rl0 n c v) : Rl0 (n + 1) c v := by
  obtain ⟨h1, h2, h3, h4, h5, h6⟩ := h
  have hd : dB n ≤ dB (n + 1) := by unfold dB; omega
  exact ⟨h1, h2, Int.le_trans h3 hd, h4.kk (fun _ _ => rfl) hd, h5.off (Off.rf [] v) (fun k hk => by cases hk) (fun _ _ => rfl) hd, h6⟩
/-- both run, with the same answer, and agree again -/
def Prt (t D n c : Nat) (v : sF) (y : Nat) (as : List sV) (y' : Nat) (as' : List sV) : Prop := ∃ (x : Int) (c1 : Nat) (v1 v2 : sF), Ev D y as (c, v) (some (t, x)) (c1, v1) ∧ Ev D y' as' (c1, v1) (some (t, x)) (c1, v2) ∧ Rl0 (n + 1) c1 v2
abbrev Pr (D n c : Nat) (v : sF) (y : Nat) (as : List sV) (y' : Nat) (as' : List sV) : Prop := Prt 0 D n c v y as y' as'
theorem Pr_q {t D n c y y' : Nat} {as as' : List sV} {v : sF} {r : Int} (h : Rl0 n c v) (hx : ∃ v', Ev D y as (c, v) (some (t, r)) (c, v') ∧ Off scX v v') (hm : ∀ v1, Off scX v v1 → v1 164 = v 164 → v1 163 18 = -1 → Rl0 n c v1 → ∃ v2, Ev D y' as' (c, v1) (some (t, r)) (c, v2) ∧ QN v1 v2) : Prt t D n c v y as y' as' := by
  obtain ⟨v1, hE1, hO1⟩ := hx
  have h1 := Rl0_X h hO1
  obtain ⟨v2, hE2, hO2⟩ := hm v1 hO1 (hO1 164 (by decide)) h1.2.2.2.2.2.2.2.2.2 h1
  exact ⟨r, c, v1, v2, hE1, hE2, Rl0_n (Rl0_M h1 hO2)⟩
end Rel
