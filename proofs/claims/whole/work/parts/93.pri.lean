section Pri
variable {n c : Nat}
theorem pr_ends {v : sF} {p x w : Int} (h : Rl0 n c v) : Pr 120 n c v 131 [(2, 1), (0, p), (0, x), (0, w)] 254 [(2, 163), (0, p), (0, x), (0, w)] := by
  obtain ⟨X, hX, hX2⟩ : ∃ X : Int, (∀ mu la, (((0 ≤ p ∧ p < v 164 2) ∧ (0 ≤ x ∧ x < v 164 1)) ∧ (0 ≤ w ∧ w ≤ 3) → Rho (nxA (v 164) (-1) p) x (v 164 1) mu la → X = q_end (v 164) p x w mu la)) ∧ (¬ (((0 ≤ p ∧ p < v 164 2) ∧ (0 ≤ x ∧ x < v 164 1)) ∧ (0 ≤ w ∧ w ≤ 3)) → X = -2) := by
    rcases Classical.em (((0 ≤ p ∧ p < v 164 2) ∧ (0 ≤ x ∧ x < v 164 1)) ∧ (0 ≤ w ∧ w ≤ 3)) with hc | hc
    · rcases Classical.em (∃ mu la, Rho (nxA (v 164) (-1) p) x (v 164 1) mu la) with ⟨mu, la, hr⟩ | hr
      · refine ⟨q_end (v 164) p x w mu la, fun mu' la' _ h' => ?_, fun z => absurd hc z⟩
        obtain ⟨e1, e2⟩ := rho_uniq hr h'
        rw [e1, e2]
      · exact ⟨0, fun mu la _ h' => absurd ⟨mu, la, h'⟩ hr, fun z => absurd hc z⟩
    · exact ⟨-2, fun mu la z => absurd z hc, fun _ => rfl⟩
  refine Pr_q h (X_ends (d := 111) h.2.1 h.1 X hX hX2) (fun v1 ho e hi h1 => ?_)
  obtain ⟨v2, hE, hq⟩ := M_ends (d := 111) (c := c) (v := v1) (p := p) (x := x) (w := w) h1.2.1 hi X (by rw [e]; exact hX) (by rw [e]; exact hX2)
  exact ⟨v2, hE, hq.n⟩
theorem pr_hands {v : sF} {p x : Int} (h : Rl0 n c v) : Pr 120 n c v 132 [(2, 1), (0, p), (0, x)] 255 [(2, 163), (0, p), (0, x)] := by
  obtain ⟨X, hX, hX2⟩ : ∃ X : Int, (∀ mu la, ((0 ≤ p ∧ p < v 164 2) ∧ (0 ≤ x ∧ x < v 164 1)) → Rho (nxA (v 164) (-1) p) x (v 164 1) mu la → X = hnd (nxA (v 164) (-1) p) (fun y => sdA (v 164) (-1) p y (-1)) x (mu + la)) ∧ (¬ ((0 ≤ p ∧ p < v 164 2) ∧ (0 ≤ x ∧ x < v 164 1)) → X = -2) := by
    rcases Classical.em ((0 ≤ p ∧ p < v 164 2) ∧ (0 ≤ x ∧ x < v 164 1)) with hc | hc
    · rcases Classical.em (∃ mu la, Rho (nxA (v 164) (-1) p) x (v 164 1) mu la) with ⟨mu, la, hr⟩ | hr
      · refine ⟨hnd (nxA (v 164) (-1) p) (fun y => sdA (v 164) (-1) p y (-1)) x (mu + la), fun mu' la' _ h' => ?_, fun z => absurd hc z⟩
        obtain ⟨e1, e2⟩ := rho_uniq hr h'
        rw [e1, e2]
      · exact ⟨0, fun mu la _ h' => absurd ⟨mu, la, h'⟩ hr, fun z => absurd hc z⟩
    · exact ⟨-2, fun mu la z => absurd z hc, fun _ => rfl⟩
  refine Pr_q h (X_hands (d := 111) h.2.1 h.1 X hX hX2) (fun v1 ho e hi h1 => ?_)
  obtain ⟨v2, hE, hq⟩ := M_hands (d := 111) (c := c) (v := v1) (p := p) (x := x) h1.2.1 hi X (by rw [e]; exact hX) (by rw [e]; exact hX2)
  exact ⟨v2, hE, hq.n⟩
theorem pr_moves {v : sF} {p x w : Int} (hw : w ≤ 2147483647) (h : Rl0 n c v) : Pr 120 n c v 138 [(2, 1), (0, p), (0, x), (0, w)] 265 [(2, 163), (0, p), (0, x), (0, w)] := by
  obtain ⟨X, hX2, hX1, hX⟩ : ∃ X : Int, (¬ (((0 ≤ p ∧ p < v 164 2) ∧ (0 ≤ x ∧ x < v 164 1)) ∧ (w = 0 ∨ (10 ≤ w ∧ w - 10 < v 164 2))) → X = -2) ∧ (((0 ≤ p ∧ p < v 164 2) ∧ (0 ≤ x ∧ x < v 164 1)) ∧ (w = 0 ∨ (10 ≤ w ∧ w - 10 < v 164 2)) → (∀ z, adM (v 164) p (fun _ => True) z → q_com (pl (v 164) z) (-1) p x = -1) → X = -1) ∧ (((0 ≤ p ∧ p < v 164 2) ∧ (0 ≤ x ∧ x < v 164 1)) ∧ (w = 0 ∨ (10 ≤ w ∧ w - 10 < v 164 2)) → ∀ z, bestM (v 164) p x (fun _ => True) z → X = if w = 0 then mvc (v 164) z (v 164 2).toNat 0 else z (w - 10)) := by
    rcases Classical.em (((0 ≤ p ∧ p < v 164 2) ∧ (0 ≤ x ∧ x < v 164 1)) ∧ (w = 0 ∨ (10 ≤ w ∧ w - 10 < v 164 2))) with hc | hc
    · rcases Classical.em (∃ z, bestM (v 164) p x (fun _ => True) z) with ⟨z, hz⟩ | hz
      · refine ⟨if w = 0 then mvc (v 164) z (v 164 2).toNat 0 else z (w - 10), fun q => absurd hc q, fun _ q => absurd (q z hz.1) hz.2.1, fun _ z' hz' => ?_⟩
        obtain ⟨e1, e2⟩ := bestM_uq hz hz'
        rcases Decidable.em (w = 0) with q | q
        · rw [if_pos q, if_pos q, e1]
        · rw [if_neg q, if_neg q]; exact e2 _ (by omega) (by omega)
      · exact ⟨-1, fun q => absurd hc q, fun _ _ => rfl, fun _ z hz' => absurd ⟨z, hz'⟩ hz⟩
    · exact ⟨-2, fun _ => rfl, fun q => absurd q hc, fun q => absurd q hc⟩
  refine Pr_q h (X_moves (d := 100) h.2.1 h.1 hw X hX2 hX1 hX) (fun v1 ho e hi h1 => ?_)
  obtain ⟨v2, hE, hq⟩ := M_moves (d := 100) (c := c) (v := v1) (p := p) (x := x) (w := w) h1.2.1 hi hw X (by rw [e]; exact hX2) (by rw [e]; exact hX1) (by rw [e]; exact hX)
  exact ⟨v2, hE, hq⟩
theorem pr_feeling {v : sF} {p x w : Int} (hw : w ≤ 2147483647) (h : Rl0 n c v) : Pr 120 n c v 139 [(2, 1), (0, p), (0, x), (0, w)] 267 [(2, 163), (0, p), (0, x), (0, w)] := by
  obtain ⟨X, hX2, hX1, hX⟩ : ∃ X : Int, (¬ (((0 ≤ p ∧ p < v 164 2) ∧ (0 ≤ x ∧ x < v 164 1)) ∧ (w = 0 ∨ (10 ≤ w ∧ w - 10 < v 164 2))) → X = -2) ∧ (((0 ≤ p ∧ p < v 164 2) ∧ (0 ≤ x ∧ x < v 164 1)) ∧ (w = 0 ∨ (10 ≤ w ∧ w - 10 < v 164 2)) → (∀ k : Int, 0 ≤ k → k ≤ 9 → fsN (v 164) p x (v 164 2).toNat 0 k (fun _ => 0)) → X = -1) ∧ (((0 ≤ p ∧ p < v 164 2) ∧ (0 ≤ x ∧ x < v 164 1)) ∧ (w = 0 ∨ (10 ≤ w ∧ w - 10 < v 164 2)) → ∀ n a, bestF (v 164) p x n a → X = if w = 0 then n else a (w - 10)) := by
    rcases Classical.em (((0 ≤ p ∧ p < v 164 2) ∧ (0 ≤ x ∧ x < v 164 1)) ∧ (w = 0 ∨ (10 ≤ w ∧ w - 10 < v 164 2))) with hc | hc
    · rcases Classical.em (∃ m a, bestF (v 164) p x m a) with ⟨m, a, hz⟩ | hz
      · refine ⟨if w = 0 then m else a (w - 10), fun q => absurd hc q, fun _ q => absurd hz.2.1.2.2.1 (q m hz.1.1 hz.1.2 a hz.2.1.1 hz.2.1.2.1), fun _ m' a' hz' => ?_⟩
        obtain ⟨e1, e2⟩ := bestF_uq hz hz'
        rcases Decidable.em (w = 0) with q | q
        · rw [if_pos q, if_pos q, e1]
        · rw [if_neg q, if_neg q]; exact e2 _ (by omega) (by omega)
      · exact ⟨-1, fun q => absurd hc q, fun _ _ => rfl, fun _ m a hz' => absurd ⟨m, a, hz'⟩ hz⟩
    · exact ⟨-2, fun _ => rfl, fun q => absurd q hc, fun q => absurd q hc⟩
  refine Pr_q h (X_feeling (d := 100) h.2.1 h.1 hw X hX2 hX1 hX) (fun v1 ho e hi h1 => ?_)
  obtain ⟨v2, hE, hq⟩ := M_feeling (d := 100) (c := c) (v := v1) (p := p) (x := x) (w := w) h1.2.1 hi hw X (by rw [e]; exact hX2) (by rw [e]; exact hX1) (by rw [e]; exact hX)
  exact ⟨v2, hE, hq.n⟩
/-- what an image leaves -/
theorem img_fin {c1 : Nat} {v v1 : sF} {i A : Int} (h : Rl0 n c v) (hi : 0 ≤ i ∧ i ≤ 1) (hA : A = 182 ∨ A = 200) (hcell : ∀ b : Int, b < 182 → b ≠ 152 → b ≠ 153 → v1 b = v b) (h152 : v1 152 = ua (v 152) i A) (h153 : v1 153 = ua (v 153) i (A + 10)) (hT : TolR v1 A (v 164)) (hN : NowR v1 (A + 10) (v 164)) (hoth : ∀ j : Int, 0 ≤ j → j ≤ 1 → j ≠ i → v 165 j = 1 → ∀ b : Int, v 152 j ≤ b → b ≤ v 152 j + 17 → v1 b = v b) (hC : ∀ w : sF, w 152 = ua (v 152) i A → w 165 = ua (v 165) i 1 → ImC c1 w) : ∃ v2, Ev 120 293 [(2, 163), (0, i)] (c1, v1) (some (0, 0)) (c1, v2) ∧ Rl0 (n + 1) c1 v2 := by
  have hd : dB n ≤ dB (n + 1) := by unfold dB; omega
  obtain ⟨v2, hE, hO, h3, hv⟩ := M_image (d := 118) (c := c1) (v := v1) (i := i)
  rw [if_pos hi] at hE
  rcases hv with ⟨z, _⟩ | ⟨_, hg, h65⟩
  · exact absurd hi z
  rw [hcell 164 (by omega) (by omega) (by omega)] at hg
  rw [hcell 165 (by omega) (by omega) (by omega)] at h65
  obtain ⟨h1, h2, h3', h4, h5, h6, h7, h8, h9, h10⟩ := h
  have o2 : ∀ k : Int, ¬ (k = 163 ∨ k = 164 ∨ k = 165) → v2 k = v1 k := fun k hk => hO k (by simp only [List.mem_cons, List.not_mem_nil, or_false]; omega)
  have ov : ∀ k : Int, k < 182 → ¬ (k = 163 ∨ k = 164 ∨ k = 165 ∨ k = 152 ∨ k = 153) → v2 k = v k := fun k k0 hk => by rw [o2 k (by omega)]; exact hcell k k0 (by omega) (by omega)
  have elo : ∀ k : Int, k < 1754 → v2 164 k = v 164 k := fun k hk => hg.2 k (by omega)
  have hL6 := h2.2.2.1.2
  have w152 : v2 152 = ua (v 152) i A := by rw [o2 152 (by omega)]; exact h152
  have w153 : v2 153 = ua (v 153) i (A + 10) := by rw [o2 153 (by omega)]; exact h153
  have eim : ∀ k : Int, k < 1754 → imgA (v2 164) i k = v 164 k := fun k hk => by
    unfold imgA
    rcases Decidable.em (0 ≤ k ∧ k < 1754) with q | q
    · rw [if_pos q]; exact hg.1 k q.1 q.2
    · rw [if_neg q, if_pos (by omega)]; exact elo k (by omega)
  refine ⟨v2, hE, ⟨?_, ?_⟩, ?_, ?_, ?_, ?_, hC v2 w152 h65, TrR_cong h7 (fun k hk => ov k (by omega) (by omega)), ?_, ?_, ?_⟩
  · exact TolR_cg h2.1 (fun k hk => elo k (by omega)) (h1.1.cong (fun k hk => ov _ (by omega) (by omega)))
  · exact NowR_cg hL6 (fun k k0 k1 => elo k (by omega)) (h1.2.cong (fun k k0 k1 => ov _ (by omega) (by omega)))
  · exact St_cgb (fun k hk => elo k (by omega)) h2
  · rw [elo 27 (by omega)]; exact Int.le_trans h3' hd
  · have hp : PsR v2 (v 164) (dB n) := by
      unfold PsR at h4 ⊢
      rw [ov 58 (by omega) (by omega)]
      refine ⟨h4.1, h4.2.1, h4.2.2.1, fun j j0 j1 => ⟨(h4.2.2.2 j j0 j1).1.cong (fun k k0 k1 => ov _ ?_ ?_), (h4.2.2.2 j j0 j1).2⟩⟩
      · unfold slot; omega
      · unfold slot; omega
    refine ⟨by rw [elo 102 (by omega)]; exact hp.1, by rw [elo 102 (by omega)]; exact hp.2.1, hp.2.2.1, fun j j0 j1 => ?_⟩
    rw [elo 102 (by omega)] at j1
    obtain ⟨p1, p2, p3⟩ := hp.2.2.2 j j0 j1
    have hj9 := hp.2.1
    have es : ∀ k : Int, k < 1754 → snp (v2 164) j k = snp (v 164) j k := fun k hk => by
      unfold snp
      split
      · exact elo _ (by omega)
      · split
        · exact elo _ (by omega)
        · rfl
    exact ⟨NowR_cg p2.2.2.1.2 (fun k k0 k1 => es k (by omega)) p1, St_cgb (fun k hk => es k (by omega)) p2, by rw [es 27 (by omega)]; exact Int.le_trans p3 hd⟩
  · intro j j0 j1
    rcases Decidable.em (j = i) with e | e
    · subst e
      right
      have a1 : v2 152 j = A := by rw [w152, ua_s]
      have a2 : v2 153 j = A + 10 := by rw [w153, ua_s]
      have a3 : v2 165 j = 1 := by rw [h65, ua_s]
      rw [a1, a2, a3]
      refine ⟨rfl, hA, rfl, ?_, ?_, ?_, ?_⟩
      · exact TolR_cg h2.1 (fun k hk => eim k (by omega)) (hT.cong (fun k hk => o2 _ (by omega)))
      · exact NowR_cg hL6 (fun k k0 k1 => eim k (by omega)) (hN.cong (fun k k0 k1 => o2 _ (by omega)))
      · exact St_cgb (fun k hk => eim k (by omega)) h2
      · rw [eim 27 (by omega)]; exact Int.le_trans h3' hd
    · have a1 : v2 152 j = v 152 j := by rw [w152, ua_n e]
      have a2 : v2 153 j = v 153 j := by rw [w153, ua_n e]
      have a3 : v2 165 j = v 165 j := by rw [h65, ua_n e]
      rw [a1, a2, a3]
      have ei2 : imgA (v2 164) j = imgA (v 164) j := by
        funext k
        unfold imgA
        rcases Decidable.em (0 ≤ k ∧ k < 1754) with q | q
        · rw [if_pos q, if_pos q]; exact hg.2 _ (by omega)
        · rw [if_neg q, if_neg q]
          rcases Decidable.em (k < 0) with q2 | q2
          · rw [if_pos q2, if_pos q2]; exact elo k (by omega)
          · rw [if_neg q2, if_neg q2]
      rw [ei2]
      rcases h5 j j0 j1 with q | ⟨q1, q2, q3, q4, q5, q6, q7⟩
      · exact Or.inl q
      · have ho := hoth j j0 j1 e q1
        refine Or.inr ⟨q1, q2, q3, q4.cong (fun k hk => ?_), q5.cong (fun k k0 k1 => ?_), q6, Int.le_trans q7 hd⟩
        · rw [o2 _ (by omega)]; exact ho _ (by omega) (by omega)
        · rw [o2 _ (by omega)]; exact ho _ (by omega) (by omega)
  · unfold TpR at h8 ⊢
    rw [ov 1 (by omega) (by omega), ov 2 (by omega) (by omega), ov 166 (by omega) (by omega), h3 5 (by decide), hcell 163 (by omega) (by omega) (by omega)]
    exact h8
  · rw [ov 37 (by omega) (by omega), h3 13 (by decide), h3 14 (by decide), hcell 163 (by omega) (by omega) (by omega)]
    exact h9
  · rw [h3 18 (by decide), hcell 163 (by omega) (by omega) (by omega)]
    exact h10
theorem pr_image {v : sF} {i : Int} (hF : FullP (c, v)) (h : Rl0 n c v) : ∃ (x : Int) (c1 : Nat) (v1 v2 : sF), Ev 120 157 [(2, 1), (0, i)] (c, v) (some (0, x)) (c1, v1) ∧ FullP (c1, v1) ∧ Ev 120 293 [(2, 163), (0, i)] (c1, v1) (some (0, x)) (c1, v2) ∧ Rl0 (n + 1) c1 v2 := by
  have h0 := h
  obtain ⟨h1, h2, h3, h4, h5, h6, h7, h8, h9, h10⟩ := h
  have hL6 := h2.2.2.1.2
  rcases Decidable.em (0 ≤ i ∧ i ≤ 1) with hi | hi
  · rcases h5 i hi.1 hi.2 with ⟨q1, q2, q3⟩ | ⟨q1, q2, q3, q4, q5, q6, q7⟩
    · -- a new one
      have hcc : c = 181 ∨ c = 199 := by
        rcases h6 with z | z | z
        · exact Or.inl z.1
        · exact Or.inr z.1
        · rcases (show i = 0 ∨ i = 1 by omega) with e | e <;> subst e
          · rw [z.2.1] at q1; exact absurd q1 (by decide)
          · rw [z.2.2.1] at q1; exact absurd q1 (by decide)
      obtain ⟨C, hC⟩ : ∃ C : Int, (c : Int) + 1 = C := ⟨_, rfl⟩
      have hC2 : C = 182 ∨ C = 200 := by omega
      obtain ⟨v1, e1, e2, e3, e4, e5, e6, e7⟩ := X_imageN (d := 117) hC hC2 hF hi q2 h2.1 hL6 h1
      have hoth : ∀ j : Int, 0 ≤ j → j ≤ 1 → j ≠ i → v 165 j = 1 → c = 199 ∧ v 152 j = 182 := fun j j0 j1 hj hv => by
        rcases h6 with z | z | z
        · rcases (show j = 0 ∨ j = 1 by omega) with e | e <;> subst e
          · rw [z.2.1] at hv; exact absurd hv (by decide)
          · rw [z.2.2] at hv; exact absurd hv (by decide)
        · rcases z.2 with y | y
          · rcases (show j = 0 ∨ j = 1 by omega) with e | e <;> subst e
            · exact ⟨z.1, y.2.2⟩
            · rw [y.2.1] at hv; exact absurd hv (by decide)
          · rcases (show j = 0 ∨ j = 1 by omega) with e | e <;> subst e
            · rw [y.1] at hv; exact absurd hv (by decide)
            · exact ⟨z.1, y.2.2⟩
        · rcases (show i = 0 ∨ i = 1 by omega) with e | e <;> subst e
          · rw [z.2.1] at q1; exact absurd q1 (by decide)
          · rw [z.2.2.1] at q1; exact absurd q1 (by decide)
      obtain ⟨v2, f1, f2⟩ := img_fin (c1 := c + 18) h0 hi hC2 (fun b hb b1 b2 => e2 b (by omega) b1 b2) e3 e4 e5 e6 (fun j j0 j1 hj hv b b0 b1 => by
        have := hoth j j0 j1 hj hv
        exact e2 b (by omega) (by omega) (by omega)) (fun w w1 w2 => by
        unfold ImC
        rw [w1, w2]
        rcases h6 with z | z | z
        · right; left
          refine ⟨by omega, ?_⟩
          rcases (show i = 0 ∨ i = 1 by omega) with e | e <;> subst e
          · left; rw [ua_s, ua_n (by decide), ua_s]; exact ⟨rfl, z.2.2, by omega⟩
          · right; rw [ua_s, ua_n (by decide), ua_s]; exact ⟨z.2.1, rfl, by omega⟩
        · right; right
          refine ⟨by omega, ?_⟩
          rcases z.2 with y | y
          · rcases (show i = 0 ∨ i = 1 by omega) with e | e <;> subst e
            · rw [y.1] at q1; exact absurd q1 (by decide)
            · rw [ua_s, ua_n (show (0 : Int) ≠ 1 by decide), ua_n (show (0 : Int) ≠ 1 by decide), ua_s]; exact ⟨y.1, rfl, by omega⟩
          · rcases (show i = 0 ∨ i = 1 by omega) with e | e <;> subst e
            · rw [ua_s, ua_n (show (1 : Int) ≠ 0 by decide), ua_n (show (1 : Int) ≠ 0 by decide), ua_s]; exact ⟨rfl, y.2.1, by omega⟩
            · rw [y.2.1] at q1; exact absurd q1 (by decide)
        · omega)
      exact ⟨_, _, v1, v2, e1, e7, f1, f2⟩
    · -- again
      obtain ⟨A, hA⟩ : ∃ A : Int, v 152 i = A := ⟨_, rfl⟩
      rw [hA] at q2 q3
      obtain ⟨v1, e1, e2, e3, e4, e7⟩ := X_imageE (d := 117) (c := c) hF hi q2 hA q3 h2.1 hL6 h1
      have oe : ∀ b : Int, ¬ ((A ≤ b ∧ b ≤ A + 7) ∨ (A + 10 ≤ b ∧ b ≤ A + 17)) → v1 b = v b := fun b hb => e2 b (fun z => by
        rw [List.mem_append, tOf_mem, nOf_mem] at z; omega)
      obtain ⟨v2, f1, f2⟩ := img_fin (c1 := c) h0 hi q2 (fun b hb b1 b2 => oe b (by omega)) (by rw [oe 152 (by omega), ← hA, ua_id]) (by rw [oe 153 (by omega), ← q3, ua_id]) e3 e4 (fun j j0 j1 hj hv b b0 b1 => by
        have hne : v 152 j ≠ A := by
          rcases h6 with z | z | z
          · rcases (show i = 0 ∨ i = 1 by omega) with e | e <;> subst e
            · rw [z.2.1] at q1; exact absurd q1 (by decide)
            · rw [z.2.2] at q1; exact absurd q1 (by decide)
          · exfalso
            rcases z.2 with y | y
            · rcases (show i = 0 ∨ i = 1 by omega) with e | e
              · rw [show j = 1 by omega, y.2.1] at hv; exact absurd hv (by decide)
              · rw [e, y.2.1] at q1; exact absurd q1 (by decide)
            · rcases (show i = 0 ∨ i = 1 by omega) with e | e
              · rw [e, y.1] at q1; exact absurd q1 (by decide)
              · rw [show j = 0 by omega, y.1] at hv; exact absurd hv (by decide)
          · rcases (show i = 0 ∨ i = 1 by omega) with e | e
            · rw [show j = 1 by omega, ← hA, e]; exact fun w => z.2.2.2 w.symm
            · rw [show j = 0 by omega, ← hA, e]; exact z.2.2.2
        have hj5 := h5 j j0 j1
        have hj2 : v 152 j = 182 ∨ v 152 j = 200 := by
          rcases hj5 with y | y
          · rw [y.1] at hv; exact absurd hv (by decide)
          · exact y.2.1
        exact oe b (by omega)) (fun w w1 w2 => by
        unfold ImC at h6 ⊢
        have e65 : ua (v 165) i 1 = v 165 := by have := ua_id (v 165) i; rw [q1] at this; exact this
        rw [w1, w2, ← hA, ua_id, e65]
        exact h6)
      exact ⟨_, _, v1, v2, e1, e7, f1, f2⟩
  · obtain ⟨v2, hE, hO, h3', hv⟩ := M_image (d := 118) (c := c) (v := v) (i := i)
    rw [if_neg hi] at hE
    rcases hv with ⟨_, e64, e65⟩ | ⟨z, _⟩
    · refine ⟨_, c, v, v2, X_imageB (d := 119) hi, hF, hE, Rl0_n (Rl0_cong h0 (fun k hk => ?_) (fun j hj => h3' j (by omega)))⟩
      rcases Decidable.em (k = 164) with q | q
      · rw [q]; exact e64
      · rcases Decidable.em (k = 165) with q2 | q2
        · rw [q2]; exact e65
        · exact hO k (by simp only [List.mem_cons, List.not_mem_nil, or_false]; omega)
    · exact absurd z hi
end Pri
