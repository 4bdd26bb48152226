section Prg
variable {n c : Nat}
theorem tr_z {v : sF} (hT : TrR v) : ∀ s : Int, 0 ≤ s → s < 4 → 0 ≤ v 180 s ∧ v 180 s ≤ 40 := fun s s0 s1 => (hT s s0 s1).2.1
theorem pr_write {v : sF} {t i x : Int} (h : Rl0 n c v) : Prt 1 120 n c v 155 [(2, 1), (0, t), (0, i), (1, x)] 291 [(2, 163), (0, t), (0, i), (1, x)] := by
  have hT := h.2.2.2.2.2.2.1
  obtain ⟨v1, hE1, hv1⟩ := X_write (d := 117) (c := c) (v := v) (t := t) (i := i) (x := x) hT
  have o1 : ∀ k : Int, ¬ (155 ≤ k ∧ k ≤ 162) → v1 k = v k := fun k hk => by
    rcases hv1 with ⟨_, e⟩ | ⟨w, e⟩
    · rw [e]
    · rw [e, up_off k (by omega)]
  have hz1 : ∀ s : Int, 0 ≤ s → s < 4 → 0 ≤ v1 180 s ∧ v1 180 s ≤ 40 := by rw [o1 180 (by omega)]; exact tr_z hT
  obtain ⟨v2, hE2, hO2, hi2, hv2⟩ := M_write (d := 117) (c := c) (v := v1) (t := t) (i := i) (x := x) hz1
  rw [o1 179 (by omega), o1 180 (by omega)] at hE2
  rw [o1 179 (by omega), o1 180 (by omega), o1 181 (by omega)] at hv2
  have o2 : ∀ k : Int, ¬ (k = 163 ∨ k = 181) → v2 k = v1 k := fun k hk => hO2 k (by simp only [List.mem_cons, List.not_mem_nil, or_false]; omega)
  refine ⟨_, c, v1, v2, hE1, hE2, Rl0_n (Rl0_tray (t := t) h (fun k hk => by rw [o2 k (by omega), o1 k (by omega)]) (fun j hj => by rw [hi2 j hj, o1 163 (by omega)]) ?_)⟩
  rcases hv1 with ⟨w, e⟩ | ⟨w, e⟩
  · rcases hv2 with ⟨_, p⟩ | ⟨w', _⟩
    · subst e
      refine TrR_cong hT (fun k hk => ?_)
      by_cases e3 : k = 181
      · rw [e3, p]
      · exact o2 k (by omega)
    · exact absurd w' w
  · rcases hv2 with ⟨w', _⟩ | ⟨_, p⟩
    · exact absurd w w'
    · have hth := hT t w.1.1 w.1.2
      refine TrR_upd (t := t) hT (fun u u0 u1 hu => ?_) (fun _ _ => ?_)
      · rw [p, o2 179 (by omega), o2 180 (by omega), o1 179 (by omega), o1 180 (by omega), o2 (155 + 2 * u) (by omega), o2 (155 + 2 * u + 1) (by omega), e, up_off (155 + 2 * u) (by omega), up_off (155 + 2 * u + 1) (by omega)]
        exact ⟨rfl, rfl, rfl, rfl, fun j j0 j1 => ua_n (by omega)⟩
      · rw [o2 179 (by omega), o2 180 (by omega), o1 179 (by omega), o1 180 (by omega), o2 (155 + 2 * t) (by omega), e, up_off (155 + 2 * t) (by omega)]
        refine ⟨hth.1, hth.2.1, hth.2.2.1, fun q => ⟨(hth.2.2.2 q).1, ?_, fun j j0 j1 => ?_⟩⟩
        · rw [o2 (155 + 2 * t) (by omega), e, up_off (155 + 2 * t) (by omega)]; exact (hth.2.2.2 q).2.1
        · (try dsimp only)
          rw [o2 (155 + 2 * t + 1) (by omega), e, p]
          by_cases ej : j = i
          · rw [ej, up_same, ua_s]
          · rw [up_ne _ ej, ua_n (by omega)]; exact (hth.2.2.2 q).2.2 j j0 j1
theorem pr_lists {v : sF} {t p x : Int} (h : Rl0 n c v) : Pr 120 n c v 156 [(2, 1), (0, t), (0, p), (0, x)] 292 [(2, 163), (0, t), (0, p), (0, x)] := by
  have hT := h.2.2.2.2.2.2.1
  obtain ⟨v1, hE1, hv1⟩ := X_lists (d := 113) (c := c) (v := v) (t := t) (p := p) (x := x) h.2.1 h.1 hT
  have o1 : ∀ k : Int, ¬ (k = 7 ∨ k = 11 ∨ k = 12 ∨ (140 ≤ k ∧ k ≤ 143) ∨ (155 ≤ k ∧ k ≤ 162)) → v1 k = v k := fun k hk => by
    rcases hv1 with ⟨_, e⟩ | ⟨w, ho, _⟩
    · rw [e]
    · have hw := w.1
      exact ho k (fun z => by rw [List.mem_cons, cW_mem] at z; omega)
  have hz1 : ∀ s : Int, 0 ≤ s → s < 4 → 0 ≤ v1 180 s ∧ v1 180 s ≤ 40 := by rw [o1 180 (by omega)]; exact tr_z hT
  obtain ⟨v2, hE2, hO2, hi2, hv2⟩ := M_lists (d := 113) (c := c) (v := v1) (t := t) (p := p) (x := x) (by rw [o1 164 (by omega)]; exact h.2.1) (by rw [o1 163 (by omega)]; exact h.2.2.2.2.2.2.2.2.2) hz1
  rw [o1 164 (by omega), o1 179 (by omega), o1 180 (by omega)] at hE2
  rw [o1 164 (by omega), o1 179 (by omega), o1 180 (by omega), o1 181 (by omega)] at hv2
  have o2 : ∀ k : Int, ¬ (k = 163 ∨ k = 168 ∨ k = 169 ∨ k = 171 ∨ k = 181) → v2 k = v1 k := fun k hk => hO2 k (by simp only [List.mem_cons, List.not_mem_nil, or_false]; omega)
  refine ⟨_, c, v1, v2, hE1, hE2, Rl0_n (Rl0_tray (t := t) h (fun k hk => by rw [o2 k (by omega), o1 k (by omega)]) (fun j hj => by rw [hi2 j hj, o1 163 (by omega)]) ?_)⟩
  rcases hv1 with ⟨w, e⟩ | ⟨w, ho, _, hl⟩
  · rcases hv2 with ⟨_, q⟩ | ⟨w', _⟩
    · subst e
      refine TrR_cong hT (fun k hk => ?_)
      by_cases e3 : k = 181
      · rw [e3, q]
      · exact o2 k (by omega)
    · exact absurd w' w
  · rcases hv2 with ⟨w', _⟩ | ⟨_, q1, q2⟩
    · exact absurd w w'
    · have hw := w.1
      have hth := hT t hw.1 hw.2
      have oo : ∀ k : Int, (k = 179 ∨ k = 180 ∨ (155 ≤ k ∧ k ≤ 162 ∧ k ≠ 155 + 2 * t + 1)) → v2 k = v k := fun k hk => by
        rw [o2 k (by omega), ho k (fun z => by rw [List.mem_cons, cW_mem] at z; omega)]
      refine TrR_upd (t := t) hT (fun u u0 u1 hu => ?_) (fun _ _ => ?_)
      · rw [oo 179 (by omega), oo 180 (by omega), oo (155 + 2 * u) (by omega), oo (155 + 2 * u + 1) (by omega)]
        exact ⟨rfl, rfl, rfl, rfl, fun j j0 j1 => q2 _ (by omega)⟩
      · rw [oo 179 (by omega), oo 180 (by omega), oo (155 + 2 * t) (by omega)]
        refine ⟨hth.1, hth.2.1, hth.2.2.1, fun q => ⟨(hth.2.2.2 q).1, ?_, fun j j0 j1 => ?_⟩⟩
        · rw [oo (155 + 2 * t) (by omega)]; exact (hth.2.2.2 q).2.1
        · (try dsimp only)
          obtain ⟨k, rfl⟩ := Int.eq_ofNat_of_zero_le j0
          rw [o2 (155 + 2 * t + 1) (by omega), hl k j1, q1 k j1]
end Prg
