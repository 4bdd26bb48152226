section Pre
variable {n c : Nat}
theorem pr_days {v : sF} {x : Int} (hn : n ≤ 600) (h : Rl0 n c v) : Pr 120 n c v 123 [(2, 1), (0, x)] 232 [(2, 163), (0, x)] := by
  have h0 := h.2.2.2.1.2.1
  have hb := dB_le hn
  have h27 := h.2.2.1
  have hd : dB n + 99 = dB (n + 1) := by unfold dB; omega
  refine Pr_d (R := fun r a => dyV (v 164) x r a) h (fun v1 e hi hT _ _ _ => ?_) (fun r al2 hR => ?_) (fun r a r' a' h1 h2 => ?_) (fun r a hR => ?_)
  · obtain ⟨r, v2, hE, hQ, hv⟩ := M_days (d := 113) (c := c) (v := v1) (x := x) (by rw [e]; exact h.2.1) hi (by rw [e]; omega) (by rw [e]; exact h0)
    rw [e] at hv
    exact ⟨r, v2, hE, hQ, hv⟩
  · exact X_days (d := 113) h.2.1 h.1 h.2.2.2.1 h27 (by omega) hR
  · rcases h1 with ⟨w, e, q⟩ | ⟨w, b, hb1, hK, hp, hr⟩ <;> rcases h2 with ⟨w', e', q'⟩ | ⟨w', b', hb1', hK', hp', hr'⟩
    · exact ⟨by rw [e, e'], by rw [q, q']⟩
    · exact absurd w' w
    · exact absurd w w'
    · have := DyR_uq h.2.1.2.2 hb1 hb1' hK hK'
      subst this
      exact ⟨by rw [hr, hr'], pshR_uq (by rw [DyR_kK h.2.1 hb1 102 (by omega)]; exact h0) hp hp'⟩
  · rcases hR with ⟨w, e, q⟩ | ⟨w, b, hb1, hK, hp, hr⟩
    · rw [q]; exact ⟨h.2.1, by omega, fun _ _ => rfl⟩
    · have hkk := DyR_kK h.2.1 hb1
      have hb0 : 0 ≤ b 102 ∧ b 102 ≤ 10 := by rw [hkk 102 (by omega)]; exact h0
      have hps := St_psh hb0 hp (St_Dy h.2.1 hb1)
      exact ⟨hps.1, by rw [hps.2.1, hb1.2.1]; omega, psh_b hb0 hp hkk⟩
theorem pr_undo {v : sF} {x : Int} (h : Rl0 n c v) : Pr 120 n c v 124 [(2, 1), (0, x)] 233 [(2, 163), (0, x)] := by
  have h0 := h.2.2.2.1.2.1
  have hd : dB n ≤ dB (n + 1) := by unfold dB; omega
  refine Pr_d (R := fun r a => r = (if 1 ≤ x ∧ x ≤ v 164 102 then v 164 102 - x else -3) ∧ ((1 ≤ x ∧ x ≤ v 164 102 ∧ uR (v 164) x a) ∨ (¬ (1 ≤ x ∧ x ≤ v 164 102) ∧ a = v 164))) h (fun v1 e hi hT _ _ _ => ?_) (fun r al2 hR => ?_) (fun r a r' a' h1 h2 => ⟨h2.1.trans h1.1.symm, ?_⟩) (fun r a hR => ?_)
  · obtain ⟨v2, hE, hQ, hv⟩ := M_undo (d := 118) (c := c) (v := v1) (x := x) (by rw [e]; exact h0)
    rw [e] at hE hv
    exact ⟨_, v2, hE, hQ, rfl, hv⟩
  · obtain ⟨v1, hE, hO, hC, hP, _, _⟩ := X_undo (d := 117) (c := c) h.2.1 h.1 h.2.2.2.1 h.2.2.1 hR.2
    rw [hR.1]
    exact ⟨v1, hE, hO, hC, hP⟩
  · rcases h1.2 with ⟨w1, w2, q⟩ | ⟨w, q⟩ <;> rcases h2.2 with ⟨w1', w2', q'⟩ | ⟨w', q'⟩
    · exact uR_uq q q'
    · exact absurd ⟨w1, w2⟩ w'
    · exact absurd ⟨w1', w2'⟩ w
    · rw [q, q']
  · obtain ⟨_, _, _, _, _, hS, hB⟩ := X_undo (d := 117) (c := c) h.2.1 h.1 h.2.2.2.1 h.2.2.1 hR.2
    refine ⟨hS, Int.le_trans hB hd, ?_⟩
    rcases hR.2 with ⟨_, _, q⟩ | ⟨_, q⟩
    · exact fun k hk => q.1 k (by omega)
    · rw [q]; exact fun _ _ => rfl
theorem pr_judge {v : sF} {t y : Int} (hn : n ≤ 600) (h : Rl0 n c v) : Pr 120 n c v 125 [(2, 1), (0, t), (0, y)] 239 [(2, 163), (0, t), (0, y)] := by
  have hb := dB_le hn
  have h27 := h.2.2.1
  have hd : dB n ≤ dB (n + 1) := by unfold dB; omega
  refine Pr_d (R := fun r a => a = v 164 ∧ jgV (v 164) (v 179 t) (tsz v t) (tnm v t) t y r) h (fun v1 e hi hT e1 e2 e3 => ?_) (fun r al2 hR => ?_) (fun r a r' a' h1 h2 => ⟨?_, h2.1.trans h1.1.symm⟩) (fun r a hR => ?_)
  · obtain ⟨r, v2, hE, hQ, ha, hv⟩ := M_judge (d := 111) (c := c) (v := v1) (t := t) (y := y) (by rw [e]; exact h.2.1) hi (by rw [e]; omega) hT
    unfold tsz tnm at hv ⊢
    rw [e, e1, e2, e3] at hv
    exact ⟨r, v2, hE, hQ, ha.trans e, hv⟩
  · rw [hR.1]
    exact X_judge (d := 112) h.2.1 h.1 h.2.2.2.1 (by omega) h.2.2.2.2.2.2.1 hR.2
  · rcases h1.2 with w | w | w | ⟨w1, w2, w3, m, why, al1, m0, hr, htl, q⟩ <;> rcases h2.2 with w' | w' | w' | ⟨w1', w2', w3', m', why', al1', m0', hr', htl', q'⟩
    · rw [w.2, w'.2]
    · rw [w.2, w'.2.2]
    · exact absurd w'.1 w.1
    · exact absurd w1' w.1
    · rw [w.2.2, w'.2]
    · rw [w.2.2, w'.2.2]
    · exact absurd w'.2.1 w.2.1
    · exact absurd w2' w.2.1
    · exact absurd w.1 w'.1
    · exact absurd w.2.1 w'.2.1
    · rw [w.2.2.2, w'.2.2.2]
    · exact absurd w.2.2.1 w3'
    · exact absurd w1 w'.1
    · exact absurd w2 w'.2.1
    · exact absurd w'.2.2.1 w3
    · have hq := RunR_uq (sz := tsz v t) m.toNat m'.toNat h.2.1 hr hr' (by rw [show (0 : Int) + (m.toNat : Int) = m by omega]; exact htl) (by rw [show (0 : Int) + (m'.toNat : Int) = m' by omega]; exact htl')
      have hm : m' = m := by omega
      rw [q, q', hm, hq.2.1, hq.2.2]
  · rw [hR.1]; exact ⟨h.2.1, Int.le_trans h27 hd, fun _ _ => rfl⟩
theorem pr_perform {v : sF} {t : Int} (hn : n ≤ 600) (h : Rl0 n c v) : Pr 120 n c v 126 [(2, 1), (0, t)] 240 [(2, 163), (0, t)] := by
  have h0 := h.2.2.2.1.2.1
  have hb := dB_le hn
  have h27 := h.2.2.1
  have hd : dB n + 99 = dB (n + 1) := by unfold dB; omega
  have htz : ∀ t, 0 ≤ t ∧ t < 4 → tsz v t ≤ 40 := fun t ht => ((h.2.2.2.2.2.2.1 t ht.1 ht.2).2.1).2
  refine Pr_d (R := fun r a => pfV (v 164) (v 179 t) (tsz v t) (tnm v t) t r a) h (fun v1 e hi hT e1 e2 e3 => ?_) (fun r al2 hR => ?_) (fun r a r' a' h1 h2 => ?_) (fun r a hR => ?_)
  · obtain ⟨r, v2, hE, hQ, hv⟩ := M_perform (d := 111) (c := c) (v := v1) (t := t) (by rw [e]; exact h.2.1) hi (by rw [e]; omega) (by rw [e]; exact h0) hT
    unfold tsz tnm at hv ⊢
    rw [e, e1, e2, e3] at hv
    exact ⟨r, v2, hE, hQ, hv⟩
  · exact X_perform (d := 112) h.2.1 h.1 h.2.2.2.1 h27 (by omega) h.2.2.2.2.2.2.1 hR
  · rcases h1 with w | w | ⟨w1, w2, why, al1, m0, hr, htl, q⟩ <;> rcases h2 with w' | w' | ⟨w1', w2', why', al1', m0', hr', htl', q'⟩
    · exact ⟨by rw [w.2.1, w'.2.1], by rw [w.2.2, w'.2.2]⟩
    · exact absurd w'.1 w.1
    · exact absurd w1' w.1
    · exact absurd w.1 w'.1
    · exact ⟨by rw [w.2.2.1, w'.2.2.1], by rw [w.2.2.2, w'.2.2.2]⟩
    · exact absurd w.2.1 w2'
    · exact absurd w1 w'.1
    · exact absurd w'.2.1 w2
    · have hq := RunR_uq (sz := tsz v t) r.toNat r'.toNat h.2.1 hr hr' (by rw [show (0 : Int) + (r.toNat : Int) = r by omega]; exact htl) (by rw [show (0 : Int) + (r'.toNat : Int) = r' by omega]; exact htl')
      have hm : r' = r := by omega
      subst hm
      rw [hq.2.1] at q'
      refine ⟨rfl, ?_⟩
      have hinv := RunR_inv _ h.2.1 hr
      rcases q with ⟨q1, q2⟩ | ⟨q1, q2⟩ <;> rcases q' with ⟨q1', q2'⟩ | ⟨q1', q2'⟩
      · rw [q2, q2']
      · exact absurd q1 q1'
      · exact absurd q1' q1
      · exact pshR_uq (by rw [hinv.2.1 102 (by omega)]; exact h0) q2 q2'
  · rcases hR with w | w | ⟨w1, w2, why, al1, m0, hr, htl, q⟩
    · rw [w.2.2]; exact ⟨h.2.1, by omega, fun _ _ => rfl⟩
    · rw [w.2.2.2]; exact ⟨h.2.1, by omega, fun _ _ => rfl⟩
    · have hinv := RunR_inv _ h.2.1 hr
      have hz := htz t w1
      have hrz : r ≤ tsz v t := by
        rcases htl with z | z
        · omega
        · omega
      rcases q with ⟨q1, q2⟩ | ⟨q1, q2⟩
      · rw [q2]; exact ⟨hinv.1, by omega, fun k hk => hinv.2.1 k (by omega)⟩
      · have hb0 : 0 ≤ al1 102 ∧ al1 102 ≤ 10 := by rw [hinv.2.1 102 (by omega)]; exact h0
        have hps := St_psh hb0 q2 hinv.1
        exact ⟨hps.1, by rw [hps.2.1]; omega, psh_b hb0 q2 hinv.2.1⟩
theorem pr_year {v : sF} {s N : Int} (hn : n ≤ 600) (h : Rl0 n c v) : Pr 120 n c v 127 [(2, 1), (0, s), (0, N)] 243 [(2, 163), (0, s), (0, N)] := by
  have h0 := h.2.2.2.1.2.1
  have hb := dB_le hn
  have h27 := h.2.2.1
  have hd : dB n + 99 = dB (n + 1) := by unfold dB; omega
  refine Pr_d (R := fun r a => yrV (v 164) s N r a) h (fun v1 e hi hT e1 e2 e3 => ?_) (fun r al2 hR => ?_) (fun r a r' a' h1 h2 => ?_) (fun r a hR => ?_)
  · obtain ⟨r, v2, hE, hQ, hv⟩ := M_year (d := 112) (c := c) (v := v1) (s := s) (N := N) (by rw [e]; exact h.2.1) hi (by rw [e]; omega) (by rw [e]; exact h0)
    rw [e] at hv
    exact ⟨r, v2, hE, hQ, hv⟩
  · exact X_year (d := 112) h.2.1 h.1 h.2.2.2.1 h27 (by omega) hR
  · rcases h1 with w | ⟨w, al1, hy, q⟩ <;> rcases h2 with w' | ⟨w', al1', hy', q'⟩
    · exact ⟨by rw [w.2.1, w'.2.1], by rw [w.2.2, w'.2.2]⟩
    · exact absurd w' w.1
    · exact absurd w w'.1
    · have hq := YrR_uq _ h.2.1 hy hy'
      rw [hq.1, hq.2] at q'
      refine ⟨hq.1, ?_⟩
      have hinv := YrR_inv _ h.2.1 hy
      rcases q with ⟨q1, q2⟩ | ⟨q1, q2⟩ <;> rcases q' with ⟨q1', q2'⟩ | ⟨q1', q2'⟩
      · rw [q2, q2']
      · exact absurd q1 q1'
      · exact absurd q1' q1
      · exact pshR_uq (by rw [hinv.2.1 102 (by omega)]; exact h0) q2 q2'
  · rcases hR with w | ⟨w, al1, hy, q⟩
    · rw [w.2.2]; exact ⟨h.2.1, by omega, fun _ _ => rfl⟩
    · have hinv := YrR_inv _ h.2.1 hy
      rcases q with ⟨q1, q2⟩ | ⟨q1, q2⟩
      · rw [q2]; exact ⟨hinv.1, by omega, fun k hk => hinv.2.1 k (by omega)⟩
      · have hb0 : 0 ≤ al1 102 ∧ al1 102 ≤ 10 := by rw [hinv.2.1 102 (by omega)]; exact h0
        have hps := St_psh hb0 q2 hinv.1
        exact ⟨hps.1, by rw [hps.2.1]; omega, psh_b hb0 q2 hinv.2.1⟩
end Pre
