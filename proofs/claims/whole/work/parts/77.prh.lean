section Prh
variable {n c : Nat}
theorem pr_restore {v : sF} {i : Int} (h : Rl0 n c v) : Pr 120 n c v 158 [(2, 1), (0, i)] 294 [(2, 163), (0, i)] := by
  have hd : dB n ≤ dB (n + 1) := by unfold dB; omega
  obtain ⟨v0, _, _, _, hv0⟩ := M_restore (d := 118) (c := c) (v := v) (i := i)
  obtain ⟨v1, hE1, hO1, hC1, hP1, hS1, hB1⟩ := X_restore (d := 117) (c := c) h.2.1 h.1 h.2.2.2.1 h.2.2.1 h.2.2.2.2.1 hv0
  have o1 : ∀ k : Int, ¬ (k = 58 ∨ (3 ≤ k ∧ k ≤ 10) ∨ (13 ≤ k ∧ k ≤ 20)) → v1 k = v k := fun k hk => hO1 k (fun z => by rw [List.mem_cons, List.mem_append, tOf_mem, nOf_mem] at z; omega)
  obtain ⟨v2, hE2, hO2, hi2, hv2⟩ := M_restore (d := 118) (c := c) (v := v1) (i := i)
  rw [o1 165 (by omega)] at hE2 hv2
  rw [o1 164 (by omega)] at hv2
  have ea : v2 164 = v0 164 := by
    rcases hv0 with ⟨w, e⟩ | ⟨w1, w2, q⟩ <;> rcases hv2 with ⟨w', e'⟩ | ⟨w1', w2', q'⟩
    · rw [e, e']
    · exact absurd (by unfold rsA; rw [if_pos w1', if_neg w2']) w
    · exact absurd (by unfold rsA; rw [if_pos w1, if_neg w2]) w'
    · exact rsR_uq q q'
  have hout : ∀ k : Int, (k < 0 ∨ 1754 ≤ k) → v2 164 k = v 164 k := fun k hk => by
    rcases hv2 with ⟨_, e'⟩ | ⟨_, _, q'⟩
    · rw [e']
    · by_cases e : k < 0
      · rw [q'.1 k (by omega) (by omega)]
        unfold imgA
        rw [if_neg (by omega), if_pos e]
      · exact q'.2.2 k (by omega)
  rw [← ea] at hC1 hP1 hS1 hB1
  have o2 : ∀ k : Int, ¬ (k = 163 ∨ k = 164) → v2 k = v1 k := fun k hk => hO2 k (by simp only [List.mem_cons, List.not_mem_nil, or_false]; omega)
  obtain ⟨_, _, _, _, h5, h6, h7, h8, h9, h10⟩ := h
  refine ⟨_, c, v1, v2, hE1, hE2, ⟨hC1.1.cong (fun k hk => o2 _ (by omega)), hC1.2.cong (fun k k0 k1 => o2 _ (by omega))⟩, hS1, Int.le_trans hB1 hd, ?_, ?_, ?_, TrR_cong h7 (fun k hk => by rw [o2 k (by omega), o1 k (by omega)]), ?_, ?_, ?_⟩
  · exact (hP1.off hO2 (fun k hk => by simp only [List.mem_cons, List.not_mem_nil, or_false] at hk; omega)).kk (fun _ _ => rfl) hd
  · exact (h5.off hO1 (fun k hk => by rw [List.mem_cons, List.mem_append, tOf_mem, nOf_mem] at hk; omega) hout hd).off hO2 (fun k hk => by simp only [List.mem_cons, List.not_mem_nil, or_false] at hk; omega) (fun _ _ => rfl) (Int.le_refl _)
  · unfold ImC at h6 ⊢
    rw [o2 165 (by omega), o2 152 (by omega), o1 165 (by omega), o1 152 (by omega)]
    exact h6
  · unfold TpR at h8 ⊢
    rw [o2 1 (by omega), o2 2 (by omega), o2 166 (by omega), hi2 5 (by decide), o1 1 (by omega), o1 2 (by omega), o1 166 (by omega), o1 163 (by omega)]
    exact h8
  · rw [o2 37 (by omega), o1 37 (by omega), hi2 13 (by decide), hi2 14 (by decide), o1 163 (by omega)]
    exact h9
  · rw [hi2 18 (by decide), o1 163 (by omega)]
    exact h10
end Prh
