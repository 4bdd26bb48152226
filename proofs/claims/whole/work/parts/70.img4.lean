section Img4
variable {d : Nat}
theorem full_1 {c : Nat} {v : sF} (h : FullP (c, v)) : v 1 13 = 152 ∧ v 1 14 = 153 ∧ v 1 2 = 3 ∧ v 1 3 = 13 := by
  have hc : (1 : Int) ≤ ((c : Nat) : Int) := by have h0 : (181 : Nat) ≤ c := h.1; omega
  exact ⟨h.2.1 1 11 13 (by decide) hc rfl (by decide), h.2.1 1 11 14 (by decide) hc rfl (by decide), h.2.1 1 11 2 (by decide) hc rfl (by decide), h.2.1 1 11 3 (by decide) hc rfl (by decide)⟩
theorem NT_im2 {a : Int} (h : a = 182 ∨ a = 200) : NT (a + 10) := NT_im (by omega)
theorem ac_lt (C k : Int) (h : 0 < k) : C < C + k := by omega
theorem ac_le (C k : Int) (h : 0 ≤ k) : C ≤ C + k := by omega
theorem ac_l2 (C j k : Int) (h : j < k) : C + j < C + k := by omega
theorem im_mem {v v2 v4 : sF} {i C : Int} (hC : C = 182 ∨ C = 200) (hO2 : Off (tOf2 C) (zer v C) v2) (hO4 : Off (nOf (C + 10)) (zer (up v2 152 i C) (C + 10)) v4) : (∀ b : Int, b < C → b ≠ 152 → b ≠ 153 → up v4 153 i (C + 10) b = v b) ∧ up v4 153 i (C + 10) 152 = ua (v 152) i C ∧ up v4 153 i (C + 10) 153 = ua (v 153) i (C + 10) ∧ (∀ b : Int, C ≤ b → b < C + 10 → up v4 153 i (C + 10) b = v2 b) ∧ up v4 153 i (C + 10) (C + 10) = v4 (C + 10) ∧ v2 1 = v 1 := by
  have o4 : ∀ b : Int, b < C + 10 → v4 b = up v2 152 i C b := fun b hb => by
    rw [hO4 b (fun z => by rw [nOf_mem] at z; omega), zer_of (show b ≠ C + 10 by omega)]
  have o2 : ∀ b : Int, b < C → v2 b = v b := fun b hb => by
    rw [hO2 b (fun z => by rw [tOf2_mem] at z; omega), zer_of (show b ≠ C by omega)]
  have l1 : (152 : Int) < C ∧ (153 : Int) < C ∧ (1 : Int) < C := by omega
  have l2 : (152 : Int) < C + 10 ∧ (153 : Int) < C + 10 := by omega
  refine ⟨fun b hb h1 h2 => ?_, ?_, ?_, fun b h1 h2 => ?_, ?_, o2 1 l1.2.2⟩
  · rw [up_off b h2, o4 b (by omega), up_off b h1, o2 b hb]
  · rw [up_off 152 (by decide), o4 152 l2.1, up_ua, o2 152 l1.1]
  · rw [up_ua, o4 153 l2.2, up_off 153 (by decide), o2 153 l1.2.1]
  · rw [up_off b (by omega), o4 b h2, up_off b (by omega)]
  · rw [up_off _ (by omega)]
theorem im_full {c : Nat} {v v2 v4 : sF} {i C : Int} (hc : (c : Int) + 1 = C) (hC : C = 182 ∨ C = 200) (hF : FullP (c, v)) (m1 : ∀ b : Int, b < C → b ≠ 152 → b ≠ 153 → up v4 153 i (C + 10) b = v b) (m4 : ∀ b : Int, C ≤ b → b < C + 10 → up v4 153 i (C + 10) b = v2 b) (m5 : up v4 153 i (C + 10) (C + 10) = v4 (C + 10)) (hf2 : v2 C 0 = 2 ∧ v2 C 1 = 0 ∧ v2 C 2 = 0 ∧ v2 C 3 = C + 1 ∧ v2 C 4 = C + 2 ∧ v2 C 5 = C + 3 ∧ v2 C 6 = C + 4) (hl2 : v2 (C + 4) 0 = C + 5 ∧ v2 (C + 4) 1 = 0 ∧ v2 (C + 4) 2 = C + 6 ∧ v2 (C + 4) 3 = C + 7 ∧ v2 (C + 4) 4 = C + 8 ∧ v2 (C + 4) 5 = 0 ∧ v2 (C + 4) 6 = C + 9) (hf4 : v4 (C + 10) 0 = C + 10 + 1 ∧ v4 (C + 10) 1 = C + 10 + 2 ∧ v4 (C + 10) 2 = C + 10 + 3 ∧ v4 (C + 10) 3 = 0 ∧ v4 (C + 10) 4 = 0 ∧ v4 (C + 10) 5 = C + 10 + 4 ∧ v4 (C + 10) 6 = C + 10 + 5 ∧ v4 (C + 10) 7 = C + 10 + 6 ∧ v4 (C + 10) 8 = C + 10 + 7) : FullP (c + 18, up v4 153 i (C + 10)) := by
  refine Full_new hc hC hF m1 ?_ ?_ ?_
  · rw [m4 C (Int.le_refl C) (ac_lt C 10 (by decide))]; exact ⟨hf2.2.2.2.1, hf2.2.2.2.2.1, hf2.2.2.2.2.2.1, hf2.2.2.2.2.2.2⟩
  · rw [m4 (C + 4) (ac_le C 4 (by decide)) (ac_l2 C 4 10 (by decide))]; exact ⟨hl2.1, hl2.2.2.1, hl2.2.2.2.1, hl2.2.2.2.2.1, hl2.2.2.2.2.2.2⟩
  · rw [m5]
    obtain ⟨g0, g1, g2, g3, g4, g5, g6, g7, g8⟩ := hf4
    exact ⟨g0.trans (ac_3 C 11 10 1 rfl).symm, g1.trans (ac_3 C 12 10 2 rfl).symm, g2.trans (ac_3 C 13 10 3 rfl).symm, g5.trans (ac_3 C 14 10 4 rfl).symm, g6.trans (ac_3 C 15 10 5 rfl).symm, g7.trans (ac_3 C 16 10 6 rfl).symm, g8.trans (ac_3 C 17 10 7 rfl).symm⟩
theorem C_copyF {c : Nat} {v : sF} {a0 a1 : Int} (h0 : NT a0) (h1 : NT a1) (hd : a1 + 7 < a0 ∨ a0 + 7 < a1) : ∃ v', Ev (d + 1) 33 [(2, a0), (2, a1)] (c, v) none (c, v') ∧ Off (nOf a0) v v' ∧ v' a0 3 = v a1 3 ∧ v' a0 4 = v a1 4 ∧ (∀ j : Int, 0 ≤ j → j < 6 → v' (a0 + 1) j = v (a1 + 1) j ∧ v' (a0 + 2) j = v (a1 + 2) j ∧ v' (a0 + 4) j = v (a1 + 4) j ∧ v' (a0 + 5) j = v (a1 + 5) j ∧ v' (a0 + 6) j = v (a1 + 6) j ∧ v' (a0 + 7) j = v (a1 + 7) j) ∧ (∀ j : Int, 0 ≤ j → j < 36 → v' (a0 + 3) j = v (a1 + 3) j) ∧ ∀ j : Int, j ≠ 3 → j ≠ 4 → v' a0 j = v a0 j := by
  have n0 := h0.2
  have n1 := h1.2
  refine CV_of (loc33 a0 a1) (E33_0 a0 a1 ?_)
  refine cktI (beqI h1.1) (cktI (beqI h0.1) (cktI (beqI h1.1) (cktI (beqI h0.1) (cktI (beqI h1.1) (cktI (beqI h0.1) (cktI (cpk n1.1.1 n0.1.1 (by omega)) (chkI (cpl (by rw [n1.1.2]; decide) (by rw [n0.1.2]; decide)) ?_)))))))
  refine cktI (beqI h1.1) (cktI (beqI h0.1) (cktI (cpk n1.2.1.1 n0.2.1.1 (by omega)) (chkI (cpl (by rw [n1.2.1.2]; decide) (by rw [n0.2.1.2]; decide)) ?_)))
  refine cktI (beqI h1.1) (cktI (beqI h0.1) (cktI (cpk n1.2.2.1.1 n0.2.2.1.1 (by omega)) (chkI (cpl (by rw [n1.2.2.1.2]; decide) (by rw [n0.2.2.1.2]; decide)) ?_)))
  refine cktI (beqI h1.1) (cktI (beqI h0.1) (cktI (cpk n1.2.2.2.1.1 n0.2.2.2.1.1 (by omega)) (chkI (cpl (by rw [n1.2.2.2.1.2]; decide) (by rw [n0.2.2.2.1.2]; decide)) ?_)))
  refine cktI (beqI h1.1) (cktI (beqI h0.1) (cktI (cpk n1.2.2.2.2.1.1 n0.2.2.2.2.1.1 (by omega)) (chkI (cpl (by rw [n1.2.2.2.2.1.2]; decide) (by rw [n0.2.2.2.2.1.2]; decide)) ?_)))
  refine cktI (beqI h1.1) (cktI (beqI h0.1) (cktI (cpk n1.2.2.2.2.2.1.1 n0.2.2.2.2.2.1.1 (by omega)) (chkI (cpl (by rw [n1.2.2.2.2.2.1.2]; decide) (by rw [n0.2.2.2.2.2.1.2]; decide)) ?_)))
  refine cktI (beqI h1.1) (cktI (beqI h0.1) (cktI (cpk n1.2.2.2.2.2.2.1 n0.2.2.2.2.2.2.1 (by omega)) (chkI (cpl (by rw [n1.2.2.2.2.2.2.2]; decide) (by rw [n0.2.2.2.2.2.2.2]; decide)) ?_)))
  refine ⟨rfl, _, rfl, fun b hb => ?_, ?_, ?_, fun j j0 j1 => ⟨?_, ?_, ?_, ?_, ?_, ?_⟩, fun j j0 j1 => ?_, fun j j3 j4 => ?_⟩
  · rw [nOf_mem] at hb
    rw [cpy_of _ (by omega), cpy_of _ (by omega), cpy_of _ (by omega), cpy_of _ (by omega), cpy_of _ (by omega), cpy_of _ (by omega), cpy_of _ (by omega), up_off b (by omega), up_off b (by omega)]
  · rw [cpy_of _ (by omega), cpy_of _ (by omega), cpy_of _ (by omega), cpy_of _ (by omega), cpy_of _ (by omega), cpy_of _ (by omega), cpy_of _ (by omega), up_ne _ (by decide), up_same]
  · rw [cpy_of _ (by omega), cpy_of _ (by omega), cpy_of _ (by omega), cpy_of _ (by omega), cpy_of _ (by omega), cpy_of _ (by omega), cpy_of _ (by omega), up_same, up_ne2 _ (by omega)]
  · rw [cpy_of _ (by omega), cpy_of _ (by omega), cpy_of _ (by omega), cpy_of _ (by omega), cpy_of _ (by omega), cpy_of _ (by omega), cpy_in _ (by omega), up_off _ (by omega), up_off _ (by omega)]
    congr 1; omega
  · rw [cpy_of _ (by omega), cpy_of _ (by omega), cpy_of _ (by omega), cpy_of _ (by omega), cpy_of _ (by omega), cpy_in _ (by omega), cpy_of _ (by omega), up_off _ (by omega), up_off _ (by omega)]
    congr 1; omega
  · rw [cpy_of _ (by omega), cpy_of _ (by omega), cpy_of _ (by omega), cpy_in _ (by omega), cpy_of _ (by omega), cpy_of _ (by omega), cpy_of _ (by omega), up_off _ (by omega), up_off _ (by omega)]
    congr 1; omega
  · rw [cpy_of _ (by omega), cpy_of _ (by omega), cpy_in _ (by omega), cpy_of _ (by omega), cpy_of _ (by omega), cpy_of _ (by omega), cpy_of _ (by omega), up_off _ (by omega), up_off _ (by omega)]
    congr 1; omega
  · rw [cpy_of _ (by omega), cpy_in _ (by omega), cpy_of _ (by omega), cpy_of _ (by omega), cpy_of _ (by omega), cpy_of _ (by omega), cpy_of _ (by omega), up_off _ (by omega), up_off _ (by omega)]
    congr 1; omega
  · rw [cpy_in _ (by omega), cpy_of _ (by omega), cpy_of _ (by omega), cpy_of _ (by omega), cpy_of _ (by omega), cpy_of _ (by omega), cpy_of _ (by omega), up_off _ (by omega), up_off _ (by omega)]
    congr 1; omega
  · rw [cpy_of _ (by omega), cpy_of _ (by omega), cpy_of _ (by omega), cpy_of _ (by omega), cpy_in _ (by omega), cpy_of _ (by omega), cpy_of _ (by omega), up_off _ (by omega), up_off _ (by omega)]
    congr 1; omega
  · rw [cpy_of _ (by omega), cpy_of _ (by omega), cpy_of _ (by omega), cpy_of _ (by omega), cpy_of _ (by omega), cpy_of _ (by omega), cpy_of _ (by omega), up_ne _ j4, up_ne _ j3]
theorem C_copyG {c : Nat} {v : sF} {a0 a1 : Int} {al : Int → Int} (h0 : NT a0) (h1 : NT a1) (hd : a1 + 7 < a0 ∨ a0 + 7 < a1) (hL : al 28 ≤ 6) (hR : NowR v a1 al) : ∃ v', Ev (d + 1) 33 [(2, a0), (2, a1)] (c, v) none (c, v') ∧ Off (nOf a0) v v' ∧ NowR v' a0 al ∧ ∀ j : Int, j ≠ 3 → j ≠ 4 → v' a0 j = v a0 j := by
  obtain ⟨v', hE, hO, h3, h4, h5, h6, h7⟩ := C_copyF (d := d) (c := c) (v := v) h0 h1 hd
  exact ⟨v', hE, hO, NowR_copy hL hR h3 h4 h5 h6, h7⟩
/-- Now.copy keeps it full -/
theorem k_5 (k : Nat) : ((k + 5 : Nat) : Int) ≠ 3 ∧ ((k + 5 : Nat) : Int) ≠ 4 := by omega
theorem Full_copyN {c : Nat} {v v' : sF} {a : Int} (h : FullP (c, v)) (ha : NT a) (h59 : ¬ (a ≤ 59 ∧ 59 ≤ a + 7)) (h151 : ¬ (a ≤ 151 ∧ 151 ≤ a + 7)) (hO : Off (nOf a) v v') (hf : ∀ j : Int, j ≠ 3 → j ≠ 4 → v' a j = v a j) : FullP (c, v') := by
  refine Full_ch h (fun b ci k hty hci hs => ?_) (hO 59 (fun z => h59 (nOf_mem.1 z))) (hO 151 (fun z => h151 (nOf_mem.1 z)))
  by_cases hm : b ∈ nOf a
  · obtain ⟨t0, t1, t2, t3, t4, t5, t6, t7⟩ := ha
    unfold nOf at hm
    simp only [List.mem_cons, List.not_mem_nil, or_false] at hm
    rcases hm with e | e | e | e | e | e | e | e
    · rw [e, t0] at hty
      have : ci = 3 := ci_a 13 hty rfl
      subst this
      rw [e]
      match k, hs with
      | 0, _ => exact hf _ (by decide) (by decide)
      | 1, _ => exact hf _ (by decide) (by decide)
      | 2, _ => exact hf _ (by decide) (by decide)
      | k + 5, _ => exact hf _ (k_5 k).1 (k_5 k).2
    · rw [e, t1.1] at hty; exact (ci_b hty).elim
    · rw [e, t2.1] at hty; exact (ci_b hty).elim
    · rw [e, t3.1] at hty; exact (ci_b hty).elim
    · rw [e, t4.1] at hty; exact (ci_b hty).elim
    · rw [e, t5.1] at hty; exact (ci_b hty).elim
    · rw [e, t6.1] at hty; exact (ci_b hty).elim
    · rw [e, t7.1] at hty; exact (ci_b hty).elim
  · rw [hO b hm]
theorem X_imageN {c : Nat} {v : sF} {i C : Int} {al : Int → Int} (hc : (c : Int) + 1 = C) (hC : C = 182 ∨ C = 200) (hF : FullP (c, v)) (hi : 0 ≤ i ∧ i ≤ 1) (h0 : v 152 i = 0) (hT : okT al) (hL : al 28 ≤ 6) (hR : CR v 13 al) : ∃ v', Ev (d + 3) 157 [(2, 1), (0, i)] (c, v) (some (0, 0)) (c + 18, v') ∧ (∀ b : Int, b < C → b ≠ 152 → b ≠ 153 → v' b = v b) ∧ v' 152 = ua (v 152) i C ∧ v' 153 = ua (v 153) i (C + 10) ∧ TolR v' C al ∧ NowR v' (C + 10) al ∧ FullP (c + 18, v') := by
  obtain ⟨e13, e14, e2, e3⟩ := full_1 hF
  have hC2 : C = 182 ∨ C = 200 := hC
  have hTT := TT_im hC
  have hNT := NT_im2 hC
  obtain ⟨v2, hE2, hO2, hf2, hl2, _⟩ := C_iT (d := d) (n := c + 1) (v := zer v C) (t := C) (by omega) (by omega) hTT (TT2_im hC)
  obtain ⟨v4, hE4, hO4, hf4, _⟩ := C_iN (d := d + 1) (n := c + 1 + 1 + 1 + 1 + 1 + 1 + 1 + 1 + 1 + 1 + 1) (v := zer (up v2 152 i C) (C + 10)) (a := C + 10) (by omega) (by omega) hNT
  have hmm := im_mem (i := i) hC hO2 hO4
  have hFl := im_full hc hC hF hmm.1 hmm.2.2.2.1 hmm.2.2.2.2.1 hf2 hl2 hf4
  obtain ⟨wb0, w1520, w1530, _, _, v21⟩ := hmm
  clear hf2 hl2 hf4 hO2 hO4
  have hK : (182 : Int) ≤ C := by omega
  clear hC
  obtain ⟨w, hw⟩ : ∃ w, w = up v4 153 i (C + 10) := ⟨_, rfl⟩
  have hFull : FullP (c + 18, w) := by rw [hw]; exact hFl
  have wb : ∀ b : Int, b < C → b ≠ 152 → b ≠ 153 → w b = v b := by rw [hw]; exact wb0
  have w152 : w 152 = ua (v 152) i C := by rw [hw]; exact w1520
  have w153 : w 153 = ua (v 153) i (C + 10) := by rw [hw]; exact w1530
  have w1 : w 1 = v 1 := wb 1 (by omega) (by decide) (by decide)
  have hTw : TolR w 3 al := hR.1.cong (fun k hk => wb _ (by omega) (by omega) (by omega))
  have hNw : NowR w 13 al := hR.2.cong (fun k k0 k1 => wb _ (by omega) (by omega) (by omega))
  obtain ⟨v6, hE6, hO6, hT6, h63, h64⟩ := C_copyT (d := d) (c := c + 18) (v := w) (a0 := C) (a1 := 3) hTT TT_3 (by omega) hT hTw
  have hFull6 : FullP (c + 18, v6) := Full_copyT hFull (Or.inr hC2) hO6 h63 h64
  have o6 : ∀ b : Int, b < C ∨ C + 7 < b → v6 b = w b := fun b hb => hO6 b (fun z => by rw [tOf_mem] at z; omega)
  obtain ⟨v8, hE8, hO8, hN8, hG8⟩ := C_copyG (d := d + 1) (c := c + 18) (v := v6) (a0 := C + 10) (a1 := 13) hNT NT_13 (by omega) hL (hNw.cong (fun k k0 k1 => o6 _ (by omega)))
  have o8 : ∀ b : Int, b < C + 10 → v8 b = v6 b := fun b hb => hO8 b (fun z => by rw [nOf_mem] at z; omega)
  have hc1 : (((c + 1 + 1 + 1 + 1 + 1 + 1 + 1 + 1 + 1 + 1 : Nat)) : Int) + 1 = C + 10 := by omega
  have t0 : tyT C = 18 := hTT.1
  have n0 : tyT (C + 10) = 13 := hNT.1
  have hin : ∀ a : Int, (a = 152 ∨ a = 153) → inb i (lnT a) = true := fun a ha => by
    rcases ha with e | e <;> (subst e; exact inbI (by omega) (by show i < 2; omega))
  have g14 : up v2 152 i C 1 14 = 153 := by rw [up_ne2 _ (by decide), v21]; exact e14
  refine CX_of (c2 := c + 18) (loc157 i) (E157_0 i ?_)
  rw [e13, hc]
  refine brbI (fun z => absurd z (by omega)) (fun _ => brbI (fun _ => cktI rfl (chkI (hin 152 (Or.inl rfl)) (brbI (fun _ => ?_) (fun z => absurd h0 z)))) (fun z => absurd hi.2 (by omega)))
  refine cktI (beqI t0) (cktI (beqI t0) ⟨_, v2, hE2, cktI (by rw [t0]; rfl) (chkI (hin 152 (Or.inl rfl)) ?_)⟩)
  rw [hc1]
  refine cktI (beqI n0) (cktI (beqI n0) ⟨_, v4, hE4, ?_⟩)
  rw [g14, ← hw, w1, e13, e2, w152, ua_s]
  refine cktI (by rw [n0]; rfl) (chkI (hin 153 (Or.inr rfl)) (cktI rfl (chkI (hin 152 (Or.inl rfl)) (cktI (beqI t0) ⟨hFull, _, v6, hE6, ?_⟩))))
  rw [o6 1 (by omega), w1, e14, o6 153 (by omega), w153, ua_s, e3]
  refine cktI rfl (chkI (hin 153 (Or.inr rfl)) (cktI (beqI n0) ⟨hFull6, _, v8, hE8, rfl, v8, rfl, fun b hb h1 h2 => ?_, ?_, ?_, ?_, hN8, Full_copyN hFull6 hNT (by omega) (by omega) hO8 hG8⟩))
  · rw [o8 b (by omega), o6 b (by omega), wb b hb h1 h2]
  · rw [o8 152 (by omega), o6 152 (by omega), w152]
  · rw [o8 153 (by omega), o6 153 (by omega), w153]
  · exact hT6.cong (fun k hk => o8 _ (by omega))
theorem X_imageE {c : Nat} {v : sF} {i A : Int} {al : Int → Int} (hF : FullP (c, v)) (hi : 0 ≤ i ∧ i ≤ 1) (hA : A = 182 ∨ A = 200) (h0 : v 152 i = A) (h1 : v 153 i = A + 10) (hT : okT al) (hL : al 28 ≤ 6) (hR : CR v 13 al) : ∃ v', Ev (d + 3) 157 [(2, 1), (0, i)] (c, v) (some (0, 0)) (c, v') ∧ Off (tOf A ++ nOf (A + 10)) v v' ∧ TolR v' A al ∧ NowR v' (A + 10) al ∧ FullP (c, v') := by
  obtain ⟨e13, e14, e2, e3⟩ := full_1 hF
  have hTT := TT_im hA
  have hNT := NT_im2 hA
  have hA2 := hA
  have hK : (182 : Int) ≤ A := by omega
  clear hA
  obtain ⟨v6, hE6, hO6, hT6, h63, h64⟩ := C_copyT (d := d) (c := c) (v := v) (a0 := A) (a1 := 3) hTT TT_3 (by omega) hT hR.1
  have hFull6 : FullP (c, v6) := Full_copyT hF (Or.inr hA2) hO6 h63 h64
  have o6 : ∀ b : Int, b < A ∨ A + 7 < b → v6 b = v b := fun b hb => hO6 b (fun z => by rw [tOf_mem] at z; omega)
  obtain ⟨v8, hE8, hO8, hN8, hG8⟩ := C_copyG (d := d + 1) (c := c) (v := v6) (a0 := A + 10) (a1 := 13) hNT NT_13 (by omega) hL (hR.2.cong (fun k k0 k1 => o6 _ (by omega)))
  have o8 : ∀ b : Int, b < A + 10 → v8 b = v6 b := fun b hb => hO8 b (fun z => by rw [nOf_mem] at z; omega)
  have hin : ∀ a : Int, (a = 152 ∨ a = 153) → inb i (lnT a) = true := fun a ha => by
    rcases ha with e | e <;> (subst e; exact inbI (by omega) (by show i < 2; omega))
  refine CI_of (loc157 i) (E157_0 i ?_)
  rw [e13, e14, e2, h0, h1]
  refine brbI (fun z => absurd z (by omega)) (fun _ => brbI (fun _ => cktI rfl (chkI (hin 152 (Or.inl rfl)) (brbI (fun z => absurd z (by omega)) (fun _ => cktI rfl (chkI (hin 153 (Or.inr rfl)) (brbI (fun z => absurd z (by omega)) (fun _ => cktI rfl (chkI (hin 152 (Or.inl rfl)) (cktI (beqI hTT.1) ⟨hF, _, v6, hE6, ?_⟩))))))))) (fun z => absurd hi.2 (by omega)))
  rw [o6 1 (by omega), e14, o6 153 (by omega), h1, e3]
  refine cktI rfl (chkI (hin 153 (Or.inr rfl)) (cktI (beqI hNT.1) ⟨hFull6, _, v8, hE8, rfl, v8, rfl, (hO6.wk (fun b hb => List.mem_append_left _ hb)).tr (hO8.wk (fun b hb => List.mem_append_right _ hb)), hT6.cong (fun k hk => o8 _ (by omega)), hN8, Full_copyN hFull6 hNT (by omega) (by omega) hO8 hG8⟩))
theorem X_imageB {c : Nat} {v : sF} {i : Int} (hi : ¬ (0 ≤ i ∧ i ≤ 1)) : Ev (d + 1) 157 [(2, 1), (0, i)] (c, v) (some (0, -2)) (c, v) :=
  Ev_of (loc157 i) (E157_0 i (brbI (fun _ => ⟨rfl, rfl⟩) (fun z => brbI (fun z2 => absurd ⟨by omega, by omega⟩ hi) (fun _ => ⟨rfl, rfl⟩))))
end Img4
