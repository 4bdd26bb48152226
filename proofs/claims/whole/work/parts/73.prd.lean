section Prd
variable {n c : Nat}
theorem dB_le {n : Nat} (hn : n ≤ 600) : dB n ≤ 60400 := by unfold dB; omega
theorem pr_letter {v : sF} {l w : Int} (hn : n ≤ 600) (h : Rl0 n c v) : Pr 120 n c v 116 [(2, 1), (0, l), (0, w)] 217 [(2, 163), (0, l), (0, w)] := by
  have hd := dB_le hn
  have h27 := h.2.2.1
  refine Pr_q h (X_letter (d := 111) h.2.1 h.1 (by omega)) (fun v1 ho e hi h1 => ?_)
  obtain ⟨v2, hE, hq⟩ := M_letter (d := 111) (c := c) (v := v1) (l := l) (w := w) h1.2.1 hi (by rw [e]; omega)
  rw [e] at hE
  exact ⟨v2, hE, hq.n⟩
theorem pr_fault {v : sF} {w : Int} (h : Rl0 n c v) : Pr 120 n c v 111 [(2, 1), (0, w)] 199 [(2, 163), (0, w)] := by
  refine Pr_q h (X_fault (d := 111)) (fun v1 ho e hi h1 => ?_)
  obtain ⟨v2, hE, hq⟩ := M_fault (d := 111) (c := c) (v := v1) (w := w)
  rw [ho 163 (by decide), ← h.2.2.2.2.2.2.2.2.1.1, ← h.2.2.2.2.2.2.2.2.1.2] at hE
  exact ⟨v2, hE, hq.n⟩
theorem pr_count {v : sF} {w : Int} (h : Rl0 n c v) : Pr 120 n c v 159 [(2, 1), (0, w)] 296 [(2, 163), (0, w)] := by
  refine Pr_q h (X_count (d := 111) h.2.1 h.1 h.2.2.2.1.1 h.2.2.2.2.2.2.2.1.1) (fun v1 ho e hi h1 => ?_)
  obtain ⟨v2, hE, hq⟩ := M_count (d := 111) (c := c) (v := v1) (w := w) h1.2.1
  rw [e, ho 163 (by decide)] at hE
  exact ⟨v2, hE, hq.n⟩
theorem Pr_d {D y y' : Nat} {as as' : List sV} {v : sF} {R : Int → (Int → Int) → Prop} (h : Rl0 n c v) (hm : ∀ v1, v1 164 = v 164 → v1 163 18 = -1 → TrR v1 → v1 179 = v 179 → v1 180 = v 180 → v1 181 = v 181 → ∃ r v2, Ev D y' as' (c, v1) (some (0, r)) (c, v2) ∧ QD v1 v2 ∧ R r (v2 164)) (hx : ∀ r al2, R r al2 → ∃ v1, Ev D y as (c, v) (some (0, r)) (c, v1) ∧ Off cXD v v1 ∧ CR v1 13 al2 ∧ PsR v1 al2 (dB n)) (hu : ∀ r a r' a', R r a → R r' a' → r' = r ∧ a' = a) (hs : ∀ r a, R r a → St a ∧ a 27 ≤ dB (n + 1) ∧ ∀ k : Int, (k < 0 ∨ 1754 ≤ k) → a k = v 164 k) : Pr D n c v y as y' as' := by
  obtain ⟨r, v0, _, _, hR0⟩ := hm v rfl h.2.2.2.2.2.2.2.2.2 h.2.2.2.2.2.2.1 rfl rfl rfl
  obtain ⟨v1, hE1, hO1, hC1, hP1⟩ := hx r _ hR0
  have o1 : ∀ k : Int, ¬ (k = 7 ∨ k = 11 ∨ k = 12 ∨ (13 ≤ k ∧ k ≤ 36) ∨ (58 ≤ k ∧ k ≤ 144)) → v1 k = v k := fun k hk => hO1 k (fun z => hk (cXD_mem.1 z))
  have ht1 : TrR v1 := TrR_cong h.2.2.2.2.2.2.1 (fun k hk => o1 k (by omega))
  obtain ⟨r', v2, hE2, hQ2, hR2⟩ := hm v1 (o1 164 (by omega)) (by rw [o1 163 (by omega)]; exact h.2.2.2.2.2.2.2.2.2) ht1 (o1 179 (by omega)) (o1 180 (by omega)) (o1 181 (by omega))
  obtain ⟨er, ea⟩ := hu _ _ _ _ hR0 hR2
  subst er
  have o2 : ∀ k : Int, ¬ (k = 163 ∨ k = 164 ∨ k = 168 ∨ k = 169 ∨ k = 170) → v2 k = v1 k := fun k hk => hQ2.1 k (fun z => hk (by
    unfold scD at z
    simp only [List.mem_cons, List.not_mem_nil, or_false] at z
    exact z))
  have hst := hs _ _ hR2
  have hd : dB n ≤ dB (n + 1) := by unfold dB; omega
  rw [← ea] at hC1 hP1
  obtain ⟨_, _, _, _, h5, h6, _, h8, h9, h10⟩ := h
  refine ⟨r', c, v1, v2, hE1, hE2, ⟨hC1.1.cong (fun k hk => o2 _ (by omega)), hC1.2.cong (fun k k0 k1 => o2 _ (by omega))⟩, hst.1, hst.2.1, ?_, ?_, ?_, TrR_cong ht1 (fun k hk => o2 k (by omega)), ?_, ?_, ?_⟩
  · exact (hP1.off hQ2.1 (fun k hk => by unfold scD at hk; simp only [List.mem_cons, List.not_mem_nil, or_false] at hk; omega)).kk (fun _ _ => rfl) hd
  · exact (h5.off hO1 (fun k hk => by rw [cXD_mem] at hk; omega) hst.2.2 hd).off hQ2.1 (fun k hk => by unfold scD at hk; simp only [List.mem_cons, List.not_mem_nil, or_false] at hk; omega) (fun _ _ => rfl) (Int.le_refl _)
  · unfold ImC at h6 ⊢
    rw [o2 165 (by omega), o2 152 (by omega), o1 165 (by omega), o1 152 (by omega)]
    exact h6
  · unfold TpR at h8 ⊢
    rw [o2 1 (by omega), o2 2 (by omega), o2 166 (by omega), hQ2.2 5 (by omega), o1 1 (by omega), o1 2 (by omega), o1 166 (by omega), o1 163 (by omega)]
    exact h8
  · rw [o2 37 (by omega), o1 37 (by omega), hQ2.2 13 (by omega), hQ2.2 14 (by omega), o1 163 (by omega)]
    exact h9
  · rw [hQ2.2 18 (by omega), o1 163 (by omega)]
    exact h10
theorem psh_b {al b a : Int → Int} (h0 : 0 ≤ al 102 ∧ al 102 ≤ 10) (hp : pshR al b a) (hk : kK b al) : ∀ k : Int, (k < 0 ∨ 1754 ≤ k) → a k = b k := fun k hk2 => by
  rw [psh_k h0 hp k (by omega), hk k (by omega)]
theorem dv_u {al : Int → Int} {k p x : Int} (hS : St al) (h0 : 0 ≤ al 102 ∧ al 102 ≤ 10) (hk : 0 ≤ k ∧ k ≤ 3) {a a' : Int → Int} (h : dvR al k p x a) (h' : dvR al k p x a') : a' = a := by
  rcases h with ⟨w, e⟩ | ⟨w, b, hb, hK, hp⟩ <;> rcases h' with ⟨w', e'⟩ | ⟨w', b', hb', hK', hp'⟩
  · rw [e, e']
  · exact absurd w' w
  · exact absurd w w'
  · have := dR_uq hS hk w hb hb' hK hK'
    subst this
    exact pshR_uq (by rw [dR_kK hS hk w hb 102 (by omega)]; exact h0) hp hp'
theorem dv_s {al : Int → Int} {k p x : Int} (hS : St al) (h0 : 0 ≤ al 102 ∧ al 102 ≤ 10) (hk : 0 ≤ k ∧ k ≤ 3) {a : Int → Int} (h : dvR al k p x a) : St a ∧ a 27 = al 27 ∧ ∀ j : Int, (j < 0 ∨ 1754 ≤ j) → a j = al j := by
  rcases h with ⟨w, e⟩ | ⟨w, b, hb, hK, hp⟩
  · rw [e]; exact ⟨hS, rfl, fun _ _ => rfl⟩
  · have hkk := dR_kK hS hk w hb
    have hb0 : 0 ≤ b 102 ∧ b 102 ≤ 10 := by rw [hkk 102 (by omega)]; exact h0
    have hs := St_dR hS hk w hb
    have hps := St_psh hb0 hp hs.1
    exact ⟨hps.1, by rw [hps.2.1, hs.2], psh_b hb0 hp hkk⟩
theorem pr_mail {v : sF} {p x : Int} (h : Rl0 n c v) : Pr 120 n c v 118 [(2, 1), (0, p), (0, x)] 228 [(2, 163), (0, p), (0, x)] := by
  have h0 := h.2.2.2.1.2.1
  have hd : dB n ≤ dB (n + 1) := by unfold dB; omega
  refine Pr_d (R := fun r a => r = rD (v 164) 0 p x ∧ dvR (v 164) 0 p x a) h (fun v1 e hi hT _ _ _ => ?_) (fun r al2 hR => ?_) (fun r a r' a' h1 h2 => ⟨h2.1.trans h1.1.symm, dv_u h.2.1 h0 (by decide) h1.2 h2.2⟩) (fun r a hR => ?_)
  · obtain ⟨v2, hE, hQ, hv⟩ := M_mail (d := 111) (c := c) (v := v1) (p := p) (x := x) (by rw [e]; exact h.2.1) (by rw [e]; exact h0)
    rw [e] at hE hv
    exact ⟨_, v2, hE, hQ, rfl, hv⟩
  · rw [hR.1]
    exact X_mail (d := 115) h.2.1 h.1 h.2.2.2.1 h.2.2.1 hR.2
  · have hs := dv_s h.2.1 h0 (by decide) hR.2
    exact ⟨hs.1, by rw [hs.2.1]; exact Int.le_trans h.2.2.1 hd, hs.2.2⟩
theorem pr_move {v : sF} {p x : Int} (h : Rl0 n c v) : Pr 120 n c v 119 [(2, 1), (0, p), (0, x)] 229 [(2, 163), (0, p), (0, x)] := by
  have h0 := h.2.2.2.1.2.1
  have hd : dB n ≤ dB (n + 1) := by unfold dB; omega
  refine Pr_d (R := fun r a => r = rD (v 164) 1 p x ∧ dvR (v 164) 1 p x a) h (fun v1 e hi hT _ _ _ => ?_) (fun r al2 hR => ?_) (fun r a r' a' h1 h2 => ⟨h2.1.trans h1.1.symm, dv_u h.2.1 h0 (by decide) h1.2 h2.2⟩) (fun r a hR => ?_)
  · obtain ⟨v2, hE, hQ, hv⟩ := M_move (d := 111) (c := c) (v := v1) (p := p) (x := x) (by rw [e]; exact h.2.1) (by rw [e]; exact h0)
    rw [e] at hE hv
    exact ⟨_, v2, hE, hQ, rfl, hv⟩
  · rw [hR.1]
    exact X_move (d := 115) h.2.1 h.1 h.2.2.2.1 h.2.2.1 hR.2
  · have hs := dv_s h.2.1 h0 (by decide) hR.2
    exact ⟨hs.1, by rw [hs.2.1]; exact Int.le_trans h.2.2.1 hd, hs.2.2⟩
theorem pr_arouse {v : sF} {p x : Int} (h : Rl0 n c v) : Pr 120 n c v 120 [(2, 1), (0, p), (0, x)] 230 [(2, 163), (0, p), (0, x)] := by
  have h0 := h.2.2.2.1.2.1
  have hd : dB n ≤ dB (n + 1) := by unfold dB; omega
  refine Pr_d (R := fun r a => r = rD (v 164) 2 p x ∧ dvR (v 164) 2 p x a) h (fun v1 e hi hT _ _ _ => ?_) (fun r al2 hR => ?_) (fun r a r' a' h1 h2 => ⟨h2.1.trans h1.1.symm, dv_u h.2.1 h0 (by decide) h1.2 h2.2⟩) (fun r a hR => ?_)
  · obtain ⟨v2, hE, hQ, hv⟩ := M_arouse (d := 111) (c := c) (v := v1) (p := p) (x := x) (by rw [e]; exact h.2.1) (by rw [e]; exact h0)
    rw [e] at hE hv
    exact ⟨_, v2, hE, hQ, rfl, hv⟩
  · rw [hR.1]
    exact X_arouse (d := 115) h.2.1 h.1 h.2.2.2.1 h.2.2.1 hR.2
  · have hs := dv_s h.2.1 h0 (by decide) hR.2
    exact ⟨hs.1, by rw [hs.2.1]; exact Int.le_trans h.2.2.1 hd, hs.2.2⟩
theorem pr_mood {v : sF} {p x : Int} (h : Rl0 n c v) : Pr 120 n c v 121 [(2, 1), (0, p), (0, x)] 231 [(2, 163), (0, p), (0, x)] := by
  have h0 := h.2.2.2.1.2.1
  have hd : dB n ≤ dB (n + 1) := by unfold dB; omega
  refine Pr_d (R := fun r a => r = rD (v 164) 3 p x ∧ dvR (v 164) 3 p x a) h (fun v1 e hi hT _ _ _ => ?_) (fun r al2 hR => ?_) (fun r a r' a' h1 h2 => ⟨h2.1.trans h1.1.symm, dv_u h.2.1 h0 (by decide) h1.2 h2.2⟩) (fun r a hR => ?_)
  · obtain ⟨v2, hE, hQ, hv⟩ := M_mood (d := 111) (c := c) (v := v1) (p := p) (x := x) (by rw [e]; exact h.2.1) (by rw [e]; exact h0)
    rw [e] at hE hv
    exact ⟨_, v2, hE, hQ, rfl, hv⟩
  · rw [hR.1]
    exact X_mood (d := 115) h.2.1 h.1 h.2.2.2.1 h.2.2.1 hR.2
  · have hs := dv_s h.2.1 h0 (by decide) hR.2
    exact ⟨hs.1, by rw [hs.2.1]; exact Int.le_trans h.2.2.1 hd, hs.2.2⟩
end Prd
