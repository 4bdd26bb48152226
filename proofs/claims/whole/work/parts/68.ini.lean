section Ini
variable {d : Nat}
theorem CW_of {d y : Nat} {as ls : List sV} {c c2 : Nat} {v : sF} {Post : sF → Prop} (hl : loc0 as (mMax y) = ls) (h : Wp (Ev d) 0 (fun _ => 0) y (fun r μ => r = none ∧ ∃ v', μ = (c2, v') ∧ Post v') 0 ls [] c v) : ∃ v', Ev (d + 1) y as (c, v) none (c2, v') ∧ Post v' := by
  subst hl
  obtain ⟨r, c', v', h1, h2, v2, h3, h4⟩ := Cl_of (Q := fun r c' v' => r = none ∧ ∃ v2, (c', v') = (c2, v2) ∧ Post v2) h
  subst h2; cases h3
  exact ⟨v', h1, h4⟩
theorem zer_of {v : sF} {k a : Int} (h : a ≠ k) : zer v k a = v a := by funext b; unfold zer; rw [if_neg h]
theorem zer_in (v : sF) (k b : Int) : zer v k k b = 0 := by unfold zer; rw [if_pos rfl]
theorem tyl {a : Int} {p : Nat} {l : Int} (h : tyT a = p ∧ lnT a = l) : (tyT a == p && lnT a == l) = true := by rw [h.1, h.2]; simp
theorem nz {a : Int} (h : a ≠ 0) : (!decide (a = 0)) = true := by simp [h]
theorem eqA {a k : Int} (h : k ≠ 0) : (a = a + k) ↔ False := ⟨fun q => by omega, False.elim⟩
theorem eqB {a k : Int} (h : k ≠ 0) : (a + k = a) ↔ False := ⟨fun q => by omega, False.elim⟩
/-- a new Now -/
theorem C_iN {n : Nat} {v : sF} {a : Int} (hn : (n : Int) = a) (ha : 1 ≤ a) (hN : NT a) : ∃ v', Ev (d + 1) 31 [(2, a)] (n, v) none (n + 1 + 1 + 1 + 1 + 1 + 1 + 1, v') ∧ Off (nOf a) v v' ∧ (v' a 0 = a + 1 ∧ v' a 1 = a + 2 ∧ v' a 2 = a + 3 ∧ v' a 3 = 0 ∧ v' a 4 = 0 ∧ v' a 5 = a + 4 ∧ v' a 6 = a + 5 ∧ v' a 7 = a + 6 ∧ v' a 8 = a + 7) ∧ ∀ k j : Int, 1 ≤ k → k ≤ 7 → v' (a + k) j = 0 := by
  obtain ⟨h0, h1, h2, h3, h4, h5, h6, h7⟩ := hN
  refine CW_of (loc31 a) (E31_0 a ?_)
  rw [hn, show a + 1 + 1 = a + 2 by omega, show a + 2 + 1 = a + 3 by omega, show a + 3 + 1 = a + 4 by omega, show a + 4 + 1 = a + 5 by omega, show a + 5 + 1 = a + 6 by omega, show a + 6 + 1 = a + 7 by omega]
  refine cktI (nz (by omega)) (cktI (tyl h1) (cktI (beqI h0) (cktI (tyl h2) (cktI (beqI h0) (cktI (tyl h3) (cktI (beqI h0) (cktI (beqI h0) (cktI (beqI h0) (cktI (tyl h4) (cktI (beqI h0) (cktI (tyl h5) (cktI (beqI h0) (cktI (tyl h6) (cktI (beqI h0) (cktI (tyl h7) (cktI (beqI h0) ⟨rfl, _, rfl, fun b hb => ?_, ⟨?_, ?_, ?_, ?_, ?_, ?_, ?_, ?_, ?_⟩, fun k j k1 k7 => ?_⟩))))))))))))))))
  · rw [nOf_mem] at hb
    simp only [up_off b (show b ≠ a by omega), zer_of (show b ≠ a + 1 by omega), zer_of (show b ≠ a + 2 by omega), zer_of (show b ≠ a + 3 by omega), zer_of (show b ≠ a + 4 by omega), zer_of (show b ≠ a + 5 by omega), zer_of (show b ≠ a + 6 by omega), zer_of (show b ≠ a + 7 by omega)]
  · simp [up, zer, eqA, eqB]
  · simp [up, zer, eqA, eqB]
  · simp [up, zer, eqA, eqB]
  · simp [up, zer, eqA, eqB]
  · simp [up, zer, eqA, eqB]
  · simp [up, zer, eqA, eqB]
  · simp [up, zer, eqA, eqB]
  · simp [up, zer, eqA, eqB]
  · simp [up, zer, eqA, eqB]
  · rcases (show k = 1 ∨ k = 2 ∨ k = 3 ∨ k = 4 ∨ k = 5 ∨ k = 6 ∨ k = 7 by omega) with e | e | e | e | e | e | e <;> (subst e; simp [up, zer, eqA, eqB])
/-- a Laws' and a Told's further cells -/
def TT2 (a : Int) : Prop := (tyT (a + 8) = 1 ∧ lnT (a + 8) = 64) ∧ (tyT (a + 9) = 1 ∧ lnT (a + 9) = 16)
def tOf2 (a : Int) : List Int := [a, a + 1, a + 2, a + 3, a + 4, a + 5, a + 6, a + 7, a + 8, a + 9]
theorem tOf2_mem {a b : Int} : b ∈ tOf2 a ↔ (a ≤ b ∧ b ≤ a + 9) := by unfold tOf2; simp only [List.mem_cons, List.not_mem_nil, or_false]; omega
theorem C_iL {n : Nat} {v : sF} {t : Int} (hn : (n : Int) = t + 4) (ha : 1 ≤ t) (hT : TT t) (hT2 : TT2 t) : ∃ v', Ev (d + 1) 18 [(2, t + 4)] (n, v) none (n + 1 + 1 + 1 + 1 + 1, v') ∧ Off [t + 4, t + 5, t + 6, t + 7, t + 8, t + 9] v v' ∧ (v' (t + 4) 0 = t + 5 ∧ v' (t + 4) 1 = 0 ∧ v' (t + 4) 2 = t + 6 ∧ v' (t + 4) 3 = t + 7 ∧ v' (t + 4) 4 = t + 8 ∧ v' (t + 4) 5 = 0 ∧ v' (t + 4) 6 = t + 9) ∧ ∀ k j : Int, 5 ≤ k → k ≤ 9 → v' (t + k) j = 0 := by
  obtain ⟨_, _, _, _, h4, h5, h6, h7⟩ := hT
  obtain ⟨h8, h9⟩ := hT2
  refine CW_of (loc18 (t + 4)) (E18_0 (t + 4) ?_)
  rw [hn, show t + 4 + 1 = t + 5 by omega, show t + 5 + 1 = t + 6 by omega, show t + 6 + 1 = t + 7 by omega, show t + 7 + 1 = t + 8 by omega, show t + 8 + 1 = t + 9 by omega]
  refine cktI (nz (by omega)) (cktI (tyl h5) (cktI (beqI h4) (cktI (beqI h4) (cktI (tyl h6) (cktI (beqI h4) (cktI (tyl h7) (cktI (beqI h4) (cktI (tyl h8) (cktI (beqI h4) (cktI (beqI h4) (cktI (tyl h9) (cktI (beqI h4) ⟨rfl, _, rfl, fun b hb => ?_, ⟨?_, ?_, ?_, ?_, ?_, ?_, ?_⟩, fun k j k1 k7 => ?_⟩))))))))))))
  · simp only [List.mem_cons, List.not_mem_nil, or_false, not_or] at hb
    simp only [up_off b (show b ≠ t + 4 by omega), zer_of (show b ≠ t + 5 by omega), zer_of (show b ≠ t + 6 by omega), zer_of (show b ≠ t + 7 by omega), zer_of (show b ≠ t + 8 by omega), zer_of (show b ≠ t + 9 by omega)]
  · simp [up, zer, eqA, eqB]
  · simp [up, zer, eqA, eqB]
  · simp [up, zer, eqA, eqB]
  · simp [up, zer, eqA, eqB]
  · simp [up, zer, eqA, eqB]
  · simp [up, zer, eqA, eqB]
  · simp [up, zer, eqA, eqB]
  · rcases (show k = 5 ∨ k = 6 ∨ k = 7 ∨ k = 8 ∨ k = 9 by omega) with e | e | e | e | e <;> (subst e; simp [up, zer, eqA, eqB])
/-- a new Told -/
theorem C_iT {n : Nat} {v : sF} {t : Int} (hn : (n : Int) = t) (ha : 1 ≤ t) (hT : TT t) (hT2 : TT2 t) : ∃ v', Ev (d + 2) 79 [(2, t)] (n, v) none (n + 1 + 1 + 1 + 1 + 1 + 1 + 1 + 1 + 1, v') ∧ Off (tOf2 t) v v' ∧ (v' t 0 = 2 ∧ v' t 1 = 0 ∧ v' t 2 = 0 ∧ v' t 3 = t + 1 ∧ v' t 4 = t + 2 ∧ v' t 5 = t + 3 ∧ v' t 6 = t + 4) ∧ (v' (t + 4) 0 = t + 5 ∧ v' (t + 4) 1 = 0 ∧ v' (t + 4) 2 = t + 6 ∧ v' (t + 4) 3 = t + 7 ∧ v' (t + 4) 4 = t + 8 ∧ v' (t + 4) 5 = 0 ∧ v' (t + 4) 6 = t + 9) ∧ ∀ k j : Int, 1 ≤ k → k ≤ 9 → k ≠ 4 → v' (t + k) j = 0 := by
  have hT3 := hT
  obtain ⟨h0, h1, h2, h3, h4, _⟩ := hT3
  refine CW_of (loc79 t) (E79_0 t ?_)
  rw [hn, show t + 1 + 1 = t + 2 by omega, show t + 2 + 1 = t + 3 by omega, show t + 3 + 1 = t + 4 by omega]
  obtain ⟨v1, hv1⟩ : ∃ v1, v1 = zer (up (zer (up (zer (up (zer (up (up (up v t 0 2) t 1 0) t 2 0) (t + 1)) t 3 (t + 1)) (t + 2)) t 4 (t + 2)) (t + 3)) t 5 (t + 3)) (t + 4) := ⟨_, rfl⟩
  rw [← hv1]
  obtain ⟨v2, hE, hO, hl, hz⟩ := C_iL (d := d) (n := n + 1 + 1 + 1 + 1) (v := v1) (t := t) (by omega) ha hT hT2
  have o2 : ∀ b : Int, b < t + 4 ∨ t + 9 < b → v2 b = v1 b := fun b hb => hO b (by simp only [List.mem_cons, List.not_mem_nil, or_false]; omega)
  refine cktI (nz (by omega)) (cktI (beqI h0) (cktI (beqI h0) (cktI (beqI h0) (cktI (tyl h1) (cktI (beqI h0) (cktI (tyl h2) (cktI (beqI h0) (cktI (tyl h3) (cktI (beqI h0) (cktI (beqI h4) (cktI (beqI h4) ⟨_, v2, hE, cktI (beqI h0) ⟨rfl, _, rfl, fun b hb => ?_, ⟨?_, ?_, ?_, ?_, ?_, ?_, ?_⟩, ?_, fun k j k1 k7 k4 => ?_⟩⟩)))))))))))
  · rw [tOf2_mem] at hb
    rw [up_off b (by omega), o2 b (by omega), hv1]
    simp only [up_off b (show b ≠ t by omega), zer_of (show b ≠ t + 1 by omega), zer_of (show b ≠ t + 2 by omega), zer_of (show b ≠ t + 3 by omega), zer_of (show b ≠ t + 4 by omega)]
  · rw [up_ne _ (by decide), o2 t (by omega), hv1]; simp [up, zer, eqA, eqB]
  · rw [up_ne _ (by decide), o2 t (by omega), hv1]; simp [up, zer, eqA, eqB]
  · rw [up_ne _ (by decide), o2 t (by omega), hv1]; simp [up, zer, eqA, eqB]
  · rw [up_ne _ (by decide), o2 t (by omega), hv1]; simp [up, zer, eqA, eqB]
  · rw [up_ne _ (by decide), o2 t (by omega), hv1]; simp [up, zer, eqA, eqB]
  · rw [up_ne _ (by decide), o2 t (by omega), hv1]; simp [up, zer, eqA, eqB]
  · rw [up_same]
  · rw [up_ne2 _ (by omega), up_ne2 _ (by omega), up_ne2 _ (by omega), up_ne2 _ (by omega), up_ne2 _ (by omega), up_ne2 _ (by omega), up_ne2 _ (by omega)]; exact hl
  · rw [up_ne2 _ (by omega)]
    by_cases e : 5 ≤ k
    · exact hz k j e k7
    · rw [o2 _ (by omega), hv1]
      rcases (show k = 1 ∨ k = 2 ∨ k = 3 by omega) with e | e | e <;> (subst e; simp [up, zer, eqA, eqB])
end Ini
