section Par13
variable {c n : Nat}
def cpA (F A : Int → Int) : Int → Int := fun j => if 0 ≤ j ∧ j < 1754 then F j else A j
theorem cpA_i {F A : Int → Int} {k : Int} (h : 0 ≤ k ∧ k < 1754) : cpA F A k = F k := by unfold cpA; rw [if_pos h]
theorem cpA_o {F A : Int → Int} {k : Int} (h : ¬ (0 ≤ k ∧ k < 1754)) : cpA F A k = A k := by unfold cpA; rw [if_neg h]
set_option maxRecDepth 100000 in
theorem pc_loop {Q : sQ} {d : Nat} (w : sF) (hQ : ∀ v, Off [164] w v → v 164 = cpA (w 167) (w 164) → Q (some (0, v 164 0)) (c, v)) : ∀ (m : Nat) (k : Int) (v : sF), k + m = 1754 → 0 ≤ k → Off [164] w v → (∀ j : Int, v 164 j = if 0 ≤ j ∧ j < k then w 167 j else w 164 j) → Wp (Ev d) 0 (fun _ => 0) 198 Q 154 [(2, 163), (9, 0), (0, k)] [] c v := by
  intro m
  induction m with
  | zero =>
    intro k v hk h0 ho h2
    refine E198_154 _ (brbI (fun _ => hQ v ho ?_) (fun z => absurd z (by omega)))
    funext j
    rw [h2 j, show k = 1754 by omega]
    rfl
  | succ m ih =>
    intro k v hk h0 ho h2
    refine E198_154 _ (brbI (fun z => absurd z (by omega)) (fun _ => chkI (inbI h0 (by omega)) (chkI (inbI h0 (by omega)) (rngI (by omega) (ih (k + 1) _ (by omega) (by omega) (ho.up (by decide)) (fun j => ?_))))))
    rw [up_ua]
    unfold ua
    rw [h2 j, ho 167 (by decide)]
    rcases Decidable.em (j = k) with e | e
    · rw [if_pos e, if_pos (by omega), e]
    · rw [if_neg e]
      rcases Decidable.em (0 ≤ j ∧ j < k) with e2 | e2
      · rw [if_pos e2, if_pos (by omega)]
      · rw [if_neg e2, if_neg (by omega)]
theorem WF_cg {al al' : Int → Int} (h : WF al) (h9 : al 853 ≤ 900) (he : ∀ k : Int, 0 ≤ k → k < 1754 → al' k = al k) : WF al' := by
  obtain ⟨w1, w2, w3, w4, w5, w6, w7, w8, w9⟩ := h
  have e8 := he 853 (by omega) (by omega)
  have hl : ∀ l : Int, (l = 0 ∨ l = 1) → LwP al l → LwP al' l := fun l hl hh => hh.cg hl ⟨he _ (by omega) (by omega), he _ (by omega) (by omega), he _ (by omega) (by omega)⟩ (by omega) (fun k k0 k1 => he _ (by omega) (by omega))
  refine ⟨by rw [he 1 (by omega) (by omega)]; exact w1, by rw [he 2 (by omega) (by omega)]; exact w2, fun p p0 p1 => ?_, fun p p0 p1 => ?_, fun i i0 i1 => ?_, ?_, by rw [e8]; exact w7, hl 0 (Or.inl rfl) w8, hl 1 (Or.inr rfl) w9⟩
  · rw [he (9 + p) (by omega) (by omega), he (15 + p) (by omega) (by omega), he (21 + p) (by omega) (by omega), he 1 (by omega) (by omega)]; exact w3 p p0 p1
  · rw [he (30 + p) (by omega) (by omega), he (36 + p) (by omega) (by omega), he 1 (by omega) (by omega)]; exact w4 p p0 p1
  · rw [he (42 + i) (by omega) (by omega)]; exact w5 i i0 i1
  · rw [he 27 (by omega) (by omega), he 28 (by omega) (by omega), he 29 (by omega) (by omega), he 102 (by omega) (by omega)]; exact w6
/-- the reader's rows against what the model will hold -/
theorem CT_fin {T : Int → Int} {m : Int} {v : sF} {s : PS} {al : Int → Int} (hc : CS T m v s) (ht : CT v s.al) (hf : s.ft = 0) (hW : WF s.al) (h9 : s.al 853 ≤ 900) (he : ∀ k : Int, 0 ≤ k → k < 1754 → al k = s.al k) : TolR v 38 al ∧ NowR v 48 al := by
  obtain ⟨k1, k2, k3, k4, k5, k6⟩ := ht
  have hcd := (hc.2.2.1.2 hf).2
  have hlw : ∀ l : Int, (l = 0 ∨ l = 1) → LwP s.al l → LawR v (38 + 4) al l := fun l hl hp => by
    have hk := k3 l hl
    unfold LawR
    rw [he (3 + l) (by omega) (by omega), he (5 + l) (by omega) (by omega), he (7 + l) (by omega) (by omega)]
    refine ⟨hk.1, fun z => ⟨(hk.2 z).1, (hk.2 z).2, fun k hkn => ?_⟩⟩
    have hp2 := (hp z).1
    have hN : lwN al l = (s.al (7 + l)).toNat := by unfold lwN; rw [he (7 + l) (by omega) (by omega)]
    rw [hN] at hkn
    have e1 : lwC al l k = s.al (854 + (s.al (5 + l) + k)) := by
      unfold lwC
      rw [he (5 + l) (by omega) (by omega), show 854 + s.al (5 + l) + (k : Int) = 854 + (s.al (5 + l) + k) by omega]
      exact he _ (by omega) (by omega)
    rw [e1]
    exact hcd _ (by omega) (by omega)
  have w8 := hW.2.2.2.2.2.2.2.1
  have w9 := hW.2.2.2.2.2.2.2.2
  have w6 := hW.2.2.2.2.2.1
  refine ⟨⟨?_, ?_, ?_, fun p p0 p1 => ?_, hlw 0 (Or.inl rfl) w8, hlw 1 (Or.inr rfl) w9⟩, ?_, ?_, fun p p0 p1 => ?_, fun i i0 i1 => ?_, fun l l0 l1 => ?_⟩
  · rw [he 1 (by omega) (by omega)]; exact k1.1
  · rw [he 2 (by omega) (by omega)]; exact k1.2.1
  · rw [he 0 (by omega) (by omega)]; exact k1.2.2
  · rw [he (9 + p) (by omega) (by omega), he (15 + p) (by omega) (by omega), he (21 + p) (by omega) (by omega)]; exact k2 p p0 p1
  · rw [he 27 (by omega) (by omega)]; exact k4.1
  · rw [he 28 (by omega) (by omega)]; exact k4.2
  · rw [he (30 + p) (by omega) (by omega), he (36 + p) (by omega) (by omega)]; exact k5 p p0 p1
  · rw [he (42 + i) (by omega) (by omega)]; exact k6 i i0 i1
  · rw [he 28 (by omega) (by omega), w6.2.1] at l1; omega
def sPo : List Int := [1, 37, 38, 39, 40, 41, 42, 43, 44, 45, 48, 49, 50, 51, 56, 57, 3, 4, 5, 6, 7, 8, 9, 10, 13, 14, 15, 16, 17, 18, 19, 20, 58, 163, 164, 167]
set_option maxHeartbeats 2000000 in
theorem pr_post {v : sF} {x : Int} (h : Rl0 n c v) : Pr 120 n c v 110 [(2, 1), (0, x)] 198 [(2, 163), (0, x)] := by
  have hd : dB n ≤ dB (n + 1) := by unfold dB; omega
  have h0 := h
  obtain ⟨h1, h2, h3, h4, h5, h6, h7, h8, h9, h10⟩ := h
  obtain ⟨t1, t2, t3⟩ := h8
  rcases Decidable.em (0 ≤ x ∧ x ≤ v 163 5) with hx | hx
  · obtain ⟨s', g1, gc, gm⟩ := text_ok (T := v 166) (n := x) (a := v 163 10) (A := v 167) (by omega) (fun i i0 i1 => (t3 i i0 (by omega)).2)
    obtain ⟨v1, e1, ⟨c1, c2⟩, o1⟩ := gc 119 c (up v 1 1 0) (by omega) (fun i i0 i1 => by rw [up_off 2 (by decide)]; exact (t3 i i0 (by omega)).1)
    have oA : Off sPo v (up v 1 1 0) := (Off.rf _ v).up (by decide)
    have oB : Off sPo v v1 := oA.tr (o1.wk (by decide))
    have u1 : ∀ k : Int, k ≠ 1 → k ∉ sRd → v1 k = v k := fun k k1 k2 => by rw [o1 k k2, up_off k k1]
    have h11 : v1 1 1 = 0 := by rw [o1 1 (by decide), up_same]
    have hft := g1.1.2.2.2.2.2.2.2.2
    have q37 := c1.2.1
    -- the rest that both ends share
    have rest : ∀ (v2 : sF) (al2 : Int → Int), Off sPo v v2 → v2 164 = al2 → (∀ k : Int, (k < 0 ∨ 1754 ≤ k) → al2 k = v 164 k) → v2 1 1 = 0 → v2 163 5 = 0 → (v2 37 2 = v2 163 13 ∧ v2 37 3 = v2 163 14) → v2 163 18 = -1 → CR v2 13 al2 → St al2 → al2 27 ≤ dB (n + 1) → PsR v2 al2 (dB (n + 1)) → Rl0 (n + 1) c v2 := by
      intro v2 al2 ho ea hout a1 a2 a3 a4 b1 b2 b3 b4
      refine ⟨by rw [ea]; exact b1, by rw [ea]; exact b2, by rw [ea]; exact b3, by rw [ea]; exact b4, ?_, ?_, TrR_cong h7 (fun k hk => ho k (fun z => by unfold sPo at z; simp only [List.mem_cons, List.not_mem_nil, or_false] at z; omega)), ⟨by rw [a1, a2], by omega, fun i i0 i1 => by omega⟩, a3, a4⟩
      · rw [ea]; exact h5.off ho (by decide) hout hd
      · unfold ImC at h6 ⊢
        rw [ho 165 (by decide), ho 152 (by decide)]
        exact h6
    rcases Decidable.em (s'.ft = 0) with hf | hf
    · have hLO := g1.2 hf
      have hW := (hLO.2.1 hf).1
      have h853 : s'.al 853 ≤ 900 := by
        have a1 := (hLO.2.1 hf).2
        have a2 := hLO.1.2.2.2.1
        have a3 := hLO.1.2.1
        have a4 := hLO.1.1
        omega
      obtain ⟨al2, hal2⟩ : ∃ al2, al2 = cpA s'.al (v 164) := ⟨_, rfl⟩
      have ei : ∀ k : Int, 0 ≤ k → k < 1754 → al2 k = s'.al k := fun k k0 k1 => by rw [hal2]; exact cpA_i ⟨k0, k1⟩
      have eo2 : ∀ k : Int, (k < 0 ∨ 1754 ≤ k) → al2 k = v 164 k := fun k hk => by rw [hal2]; exact cpA_o (by omega)
      have hW2 := WF_cg hW h853 ei
      have hS2 := hW2.st (by rw [ei 853 (by omega) (by omega)]; exact h853)
      obtain ⟨r1, r2⟩ := CT_fin c1 (c2 hf) hf hW h853 ei
      obtain ⟨v2, f1, f2, f3, _, _⟩ := C_copyT (d := 117) (c := c) (v := v1) TT_3 TT_38 (by omega) hS2.1 r1
      have of2 : ∀ k : Int, ¬ (3 ≤ k ∧ k ≤ 10) → v2 k = v1 k := fun k hk => f2 k (fun z => by rw [tOf_mem] at z; omega)
      have r2' : NowR v2 48 al2 := r2.cong (fun k k0 k1 => of2 _ (by omega))
      have w6 := hW2.2.2.2.2.2.1
      obtain ⟨v3, k1, k2, k3⟩ := C_copy (d := 118) (c := c) (v := v2) (al := al2) NT_13 NT_48 (by omega) (by omega) r2'
      have of3 : ∀ k : Int, ¬ (13 ≤ k ∧ k ≤ 20) → v3 k = v2 k := fun k hk => k2 k (fun z => by rw [nOf_mem] at z; omega)
      have f3' : TolR v3 3 al2 := f3.cong (fun k hk => of3 _ (by omega))
      have oC : Off sPo v (up v3 58 2 0) := ((oB.tr (f2.wk (by decide))).tr (k2.wk (by decide))).up (by decide)
      have e4 : v3 3 2 = al2 0 := f3'.2.2.1
      have hEc : Ev 120 110 [(2, 1), (0, x)] (c, v) (some (0, al2 0)) (c, up v3 58 2 0) := by
        refine Ev_of (d := 119) (loc110 x) (E110_0 x (brbI (fun z => absurd z (by omega)) (fun _ => brbI (fun _ => ⟨c, v1, e1, ?_⟩) (fun z => absurd (by rw [t1]; exact hx.2) z))))
        rw [q37.1]
        exact brbI (fun _ => ⟨c, v2, f1, c, v3, k1, by rw [e4], rfl⟩) (fun z => absurd hf z)
      have m163 : up v3 58 2 0 163 = v 163 := by rw [up_off 163 (by decide), of3 163 (by omega), of2 163 (by omega), u1 163 (by decide) (by decide)]
      have m167 : up v3 58 2 0 167 = v 167 := by rw [up_off 167 (by decide), of3 167 (by omega), of2 167 (by omega), u1 167 (by decide) (by decide)]
      have m166 : up v3 58 2 0 166 = v 166 := by rw [up_off 166 (by decide), of3 166 (by omega), of2 166 (by omega), u1 166 (by decide) (by decide)]
      have m164 : up v3 58 2 0 164 = v 164 := by rw [up_off 164 (by decide), of3 164 (by omega), of2 164 (by omega), u1 164 (by decide) (by decide)]
      have m37 : up v3 58 2 0 37 = v1 37 := by rw [up_off 37 (by decide), of3 37 (by omega), of2 37 (by omega)]
      have hMo : ∃ v', Ev 120 198 [(2, 163), (0, x)] (c, up v3 58 2 0) (some (0, al2 0)) (c, v') ∧ (Off [163, 164, 167] (up v3 58 2 0) v' ∧ v' 164 = al2 ∧ v' 163 5 = 0 ∧ v' 163 13 = 0 ∧ v' 163 14 = -1 ∧ v' 163 18 = v 163 18) := by
        refine CI_of (d := 119) (loc198 x) (gm 119 c _ _ (by omega) (by rw [m163]) m167 (by rw [m163]; exact hx.2) (fun i i0 i1 => by rw [m166]) (fun v' a1 a2 a3 a4 => ⟨fun z => absurd hf z, fun _ => ?_⟩))
        have hw : Off [163] v' (up (up v' 163 13 0) 163 14 (-1)) := ((Off.rf _ v').up (by decide)).up (by decide)
        have ea : cpA ((up (up v' 163 13 0) 163 14 (-1)) 167) ((up (up v' 163 13 0) 163 14 (-1)) 164) = al2 := by
          rw [hw 167 (by decide), hw 164 (by decide), a1.2.2.2.2, a2 164 (by decide), m164, hal2]
        refine pc_loop (up (up v' 163 13 0) 163 14 (-1)) (fun v'' b1 b2 => ⟨by rw [b2, ea], _, rfl, ((a2.wk (by decide)).tr (hw.wk (by decide))).tr (b1.wk (by decide)), by rw [b2, ea], ?_, ?_, ?_, ?_⟩) 1754 0 _ (by omega) (by omega) (Off.rf _ _) (fun j => by rw [if_neg (by omega)])
        · rw [b1 163 (by decide), up_ne _ (by decide), up_ne _ (by decide)]; exact a3
        · rw [b1 163 (by decide), up_ne _ (by decide), up_same]
        · rw [b1 163 (by decide), up_same]
        · rw [b1 163 (by decide), up_ne _ (by decide), up_ne _ (by decide), a4 18 (by omega), m163]
      obtain ⟨vm, p1, p2, p3, p4, p5, p6, p7⟩ := hMo
      have om : ∀ k : Int, ¬ (k = 163 ∨ k = 164 ∨ k = 167) → vm k = up v3 58 2 0 k := fun k hk => p2 k (by simp only [List.mem_cons, List.not_mem_nil, or_false]; omega)
      refine ⟨_, c, _, vm, hEc, p1, rest vm al2 (oC.tr (p2.wk (by decide))) p3 eo2 ?_ p4 ?_ (by rw [p7]; exact h10) ⟨?_, ?_⟩ hS2 ?_ ?_⟩
      · rw [om 1 (by omega), up_off 1 (by decide), of3 1 (by omega), of2 1 (by omega)]; exact h11
      · rw [om 37 (by omega), m37, p5, p6, q37.1, q37.2.1, hf]; exact ⟨rfl, rfl⟩
      · exact f3'.cong (fun k hk => by rw [om _ (by omega), up_off _ (by omega)])
      · exact k3.cong (fun k k0 k1 => by rw [om _ (by omega), up_off _ (by omega)])
      · have := w6.1.2; unfold dB; omega
      · have e58 : vm 58 = up v3 58 2 0 58 := om 58 (by omega)
        have e581 : v3 58 = v 58 := by rw [of3 58 (by omega), of2 58 (by omega), u1 58 (by decide) (by decide)]
        refine ⟨?_, ?_, ?_, fun j j0 j1 => ?_⟩
        · rw [e58, up_same, w6.2.2.2]
        · rw [w6.2.2.2]; omega
        · rw [e58, up_ne _ (by decide), e581]; exact h4.2.2.1
        · rw [w6.2.2.2] at j1; omega
    · have hEc : Ev 120 110 [(2, 1), (0, x)] (c, v) (some (0, -30 - s'.ft)) (c, v1) := by
        refine Ev_of (d := 119) (loc110 x) (E110_0 x (brbI (fun z => absurd z (by omega)) (fun _ => brbI (fun _ => ⟨c, v1, e1, ?_⟩) (fun z => absurd (by rw [t1]; exact hx.2) z))))
        rw [q37.1]
        exact brbI (fun z => absurd z hf) (fun _ => rngI (by omega) ⟨rfl, rfl⟩)
      have m163 : v1 163 = v 163 := u1 163 (by decide) (by decide)
      have hMo : ∃ v', Ev 120 198 [(2, 163), (0, x)] (c, v1) (some (0, -30 - s'.ft)) (c, v') ∧ (Off [163, 164, 167] v1 v' ∧ v' 164 = v 164 ∧ v' 163 5 = 0 ∧ v' 163 13 = s'.ft ∧ v' 163 14 = s'.fp ∧ v' 163 18 = v 163 18) := by
        refine CI_of (d := 119) (loc198 x) (gm 119 c _ _ (by omega) (by rw [m163]) (u1 167 (by decide) (by decide)) (by rw [m163]; exact hx.2) (fun i i0 i1 => by rw [u1 166 (by decide) (by decide)]) (fun v' a1 a2 a3 a4 => ⟨fun _ => ?_, fun z => absurd z hf⟩))
        have hw : Off [163] v' (up (up v' 163 13 s'.ft) 163 14 s'.fp) := ((Off.rf _ v').up (by decide)).up (by decide)
        refine ⟨rfl, _, rfl, (a2.wk (by decide)).tr (hw.wk (by decide)), ?_, ?_, ?_, ?_, ?_⟩
        · rw [hw 164 (by decide), a2 164 (by decide), u1 164 (by decide) (by decide)]
        · rw [up_ne _ (by decide), up_ne _ (by decide)]; exact a3
        · rw [up_ne _ (by decide), up_same]
        · rw [up_same]
        · rw [up_ne _ (by decide), up_ne _ (by decide), a4 18 (by omega), m163]
      obtain ⟨vm, p1, p2, p3, p4, p5, p6, p7⟩ := hMo
      have om : ∀ k : Int, ¬ (k = 163 ∨ k = 164 ∨ k = 167) → vm k = v1 k := fun k hk => p2 k (by simp only [List.mem_cons, List.not_mem_nil, or_false]; omega)
      have ov : ∀ k : Int, ¬ (k = 163 ∨ k = 164 ∨ k = 167 ∨ k = 1 ∨ (37 ≤ k ∧ k ≤ 57)) → vm k = v k := fun k hk => by
        rw [om k (by omega)]
        exact u1 k (by omega) (fun z => by unfold sRd at z; simp only [List.mem_cons, List.not_mem_nil, or_false] at z; omega)
      refine ⟨_, c, _, vm, hEc, p1, rest vm (v 164) (oB.tr (p2.wk (by decide))) p3 (fun _ _ => rfl) ?_ p4 ?_ (by rw [p7]; exact h10) ⟨?_, ?_⟩ h2 (Int.le_trans h3 hd) ?_⟩
      · rw [om 1 (by omega)]; exact h11
      · rw [om 37 (by omega), p5, p6, q37.1, q37.2.1, if_neg hf]; exact ⟨rfl, rfl⟩
      · exact h1.1.cong (fun k hk => ov _ (by omega))
      · exact h1.2.cong (fun k k0 k1 => ov _ (by omega))
      · refine PsR.kk (al := v 164) ?_ (fun _ _ => rfl) hd
        unfold PsR at h4 ⊢
        rw [ov 58 (by omega)]
        refine ⟨h4.1, h4.2.1, h4.2.2.1, fun j j0 j1 => ⟨(h4.2.2.2 j j0 j1).1.cong (fun k k0 k1 => ov _ ?_), (h4.2.2.2 j j0 j1).2⟩⟩
        unfold slot; omega
  · have hEc : Ev 120 110 [(2, 1), (0, x)] (c, v) (some (0, -3)) (c, v) := by
      refine Ev_of (d := 119) (loc110 x) (E110_0 x (brbI (fun z => ⟨rfl, rfl⟩) (fun z => brbI (fun z2 => absurd ⟨by omega, by rw [← t1]; exact z2⟩ hx) (fun _ => ⟨rfl, rfl⟩))))
    have hMo : Ev 120 198 [(2, 163), (0, x)] (c, v) (some (0, -3)) (c, up v 163 0 0) := by
      have hw := C_within (d := 118) (c := c) (v := up v 163 0 0) x 0 (v 163 5)
      rw [if_neg hx] at hw
      exact Ev_of (d := 119) (loc198 x) (E198_0 x ⟨_, c, _, hw, brbN (fun z => absurd rfl z) (fun _ => ⟨rfl, rfl⟩)⟩)
    refine ⟨_, c, v, _, hEc, hMo, Rl0_n (Rl0_cong h0 (fun k hk => up_off k (by omega)) (fun i hi => up_ne _ (by omega)))⟩
end Par13
