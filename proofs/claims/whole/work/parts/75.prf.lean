section Prf
variable {n c : Nat}
theorem pr_feed {v : sF} {x1 x2 x3 x4 x5 : Int} (h : Rl0 n c v) : Pr 120 n c v 108 [(2, 1), (0, x1), (0, x2), (0, x3), (0, x4), (0, x5)] 171 [(2, 163), (0, x1), (0, x2), (0, x3), (0, x4), (0, x5)] := by
  have ht := h.2.2.2.2.2.2.2.1
  obtain ⟨v1, hE1, hO1, hi1, hv1⟩ := X_feed (d := 118) (c := c) (v := v) (x1 := x1) (x2 := x2) (x3 := x3) (x4 := x4) (x5 := x5) ht.1 ht.2.1
  have e163 : v1 163 = v 163 := hO1 163 (by decide)
  obtain ⟨v2, hE2, hO2, hi2, hv2⟩ := M_feed (d := 119) (c := c) (v := v1) (x1 := x1) (x2 := x2) (x3 := x3) (x4 := x4) (x5 := x5) (by rw [e163]) ht.2.1
  have htp := TpR_feed ht hO1 hv1 hO2 hv2
  have e : ∀ k : Int, ¬ (k = 1 ∨ k = 2 ∨ k = 163 ∨ k = 166) → v2 k = v k := fun k hk => by
    rw [hO2 k (by simp only [List.mem_cons, List.not_mem_nil, or_false]; omega), hO1 k (by simp only [List.mem_cons, List.not_mem_nil, or_false]; omega)]
  have e2 : ∀ i : Int, i ≠ 0 → i ≠ 5 → v2 163 i = v 163 i := fun i i0 i5 => by rw [hi2 i i0 i5, e163]
  refine ⟨_, c, v1, v2, hE1, hE2, Rl0_n ?_⟩
  obtain ⟨h1, h2, h3, h4, h5, h6, h7, h8, h9, h10⟩ := h
  have e164 : v2 164 = v 164 := e 164 (by omega)
  unfold Rl0
  rw [e164, e 37 (by omega), e2 13 (by decide) (by decide), e2 14 (by decide) (by decide), e2 18 (by decide) (by decide)]
  refine ⟨⟨h1.1.cong (fun k hk => e _ (by omega)), h1.2.cong (fun k k0 k1 => e _ (by omega))⟩, h2, h3, ?_, ?_, ?_, TrR_cong h7 (fun k hk => e k (by omega)), htp, h9, h10⟩
  · exact (h4.off hO1 (fun k hk => by simp only [List.mem_cons, List.not_mem_nil, or_false] at hk; omega)).off hO2 (fun k hk => by simp only [List.mem_cons, List.not_mem_nil, or_false] at hk; omega)
  · exact (h5.off hO1 (fun k hk => by simp only [List.mem_cons, List.not_mem_nil, or_false] at hk; omega) (fun _ _ => rfl) (Int.le_refl _)).off hO2 (fun k hk => by simp only [List.mem_cons, List.not_mem_nil, or_false] at hk; omega) (fun _ _ => rfl) (Int.le_refl _)
  · unfold ImC at h6 ⊢
    rw [e 165 (by omega), e 152 (by omega)]
    exact h6
/-- a tray written, on both sides -/
theorem Rl0_tray {v v2 : sF} {t : Int} (h : Rl0 n c v) (e : ∀ k : Int, ¬ (k = 7 ∨ k = 11 ∨ k = 12 ∨ (140 ≤ k ∧ k ≤ 150) ∨ (155 ≤ k ∧ k ≤ 163) ∨ (168 ≤ k ∧ k ≤ 181)) → v2 k = v k) (e2 : ∀ i : Int, i ≠ 0 → v2 163 i = v 163 i) (hT : TrR v2) : Rl0 n c v2 := by
  obtain ⟨h1, h2, h3, h4, h5, h6, h7, h8, h9, h10⟩ := h
  have e164 : v2 164 = v 164 := e 164 (by omega)
  unfold Rl0
  rw [e164, e 37 (by omega), e2 13 (by decide), e2 14 (by decide), e2 18 (by decide)]
  refine ⟨⟨h1.1.cong (fun k hk => e _ (by omega)), h1.2.cong (fun k k0 k1 => e _ (by omega))⟩, h2, h3, ?_, ?_, ?_, hT, ?_, h9, h10⟩
  · unfold PsR at h4 ⊢
    rw [e 58 (by omega)]
    refine ⟨h4.1, h4.2.1, h4.2.2.1, fun j j0 j1 => ⟨(h4.2.2.2 j j0 j1).1.cong (fun k k0 k1 => e _ ?_), (h4.2.2.2 j j0 j1).2⟩⟩
    unfold slot; omega
  · intro i i0 i1
    rw [e 165 (by omega), e 152 (by omega), e 153 (by omega)]
    rcases h5 i i0 i1 with q | ⟨q1, q2, q3, q4, q5, q6, q7⟩
    · exact Or.inl q
    · exact Or.inr ⟨q1, q2, q3, q4.cong (fun k hk => e _ (by omega)), q5.cong (fun k k0 k1 => e _ (by omega)), q6, q7⟩
  · unfold ImC at h6 ⊢
    rw [e 165 (by omega), e 152 (by omega)]
    exact h6
  · unfold TpR at h8 ⊢
    rw [e 1 (by omega), e 2 (by omega), e 166 (by omega), e2 5 (by decide)]
    exact h8
theorem pr_numbers {v : sF} {t s m : Int} (h : Rl0 n c v) : Pr 120 n c v 154 [(2, 1), (0, t), (0, s), (0, m)] 290 [(2, 163), (0, t), (0, s), (0, m)] := by
  obtain ⟨v1, hE1, hv1⟩ := X_numbers (d := 117) (c := c) (v := v) (t := t) (s := s) (n := m)
  obtain ⟨v2, hE2, hO2, hi2, hv2⟩ := M_numbers (d := 118) (c := c) (v := v1) (t := t) (s := s) (n := m)
  have o2 : ∀ k : Int, ¬ (k = 163 ∨ k = 179 ∨ k = 180 ∨ k = 181) → v2 k = v1 k := fun k hk => hO2 k (by simp only [List.mem_cons, List.not_mem_nil, or_false]; omega)
  refine ⟨_, c, v1, v2, hE1, hE2, Rl0_n ?_⟩
  rcases hv1 with ⟨w, e⟩ | ⟨w1, w2, w3, hO1, q0, q1, q2, q3⟩
  · subst e
    rcases hv2 with ⟨_, p1, p2, p3⟩ | ⟨w1, w2, w3, _⟩
    · refine Rl0_tray (t := t) h (fun k hk => o2 k (by omega)) hi2 (TrR_cong h.2.2.2.2.2.2.1 (fun k hk => ?_))
      by_cases e1 : k = 179
      · rw [e1, p1]
      · by_cases e2 : k = 180
        · rw [e2, p2]
        · by_cases e3 : k = 181
          · rw [e3, p3]
          · exact o2 k (by omega)
    · exact absurd (by unfold nmA; rw [if_pos w1, if_pos w2, if_pos w3]) w
  · have o1 : ∀ k : Int, ¬ (k = 155 + 2 * t ∨ k = 155 + 2 * t + 1) → v1 k = v k := fun k hk => hO1 k (by simp only [List.mem_cons, List.not_mem_nil, or_false]; exact hk)
    rcases hv2 with ⟨w, _⟩ | ⟨_, _, _, p1, p2, p3, p4⟩
    · exact absurd (by unfold nmA; rw [if_pos w1, if_pos w2, if_pos w3]) w
    · refine Rl0_tray (t := t) h (fun k hk => by rw [o2 k (by omega), o1 k (by omega)]) (fun i hi => by rw [hi2 i hi, o1 163 (by omega)]) (TrR_upd (t := t) h.2.2.2.2.2.2.1 (fun u u0 u1 hu => ?_) (fun _ _ => ?_))
      · rw [p1, p2, ua_n hu, ua_n hu, o1 179 (by omega), o1 180 (by omega), o2 (155 + 2 * u) (by omega), o2 (155 + 2 * u + 1) (by omega), o1 (155 + 2 * u) (by omega), o1 (155 + 2 * u + 1) (by omega)]
        exact ⟨rfl, rfl, rfl, rfl, fun i i0 i1 => by rw [p4 _ (by omega), o1 181 (by omega)]⟩
      · rw [p1, p2, ua_s, ua_s, o2 (155 + 2 * t) (by omega), q0, q1]
        refine ⟨Or.inr w2, w3, by rw [if_neg (by omega)], fun _ => ⟨rfl, ?_, fun i i0 i1 => ?_⟩⟩
        · rw [o2 (155 + 2 * t) (by omega), q2]
        · (try dsimp only)
          rw [o2 (155 + 2 * t + 1) (by omega), q3 i i0 (by omega), p3 i i0 i1]
end Prf
