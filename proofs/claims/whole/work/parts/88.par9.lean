section Par9
variable {c : Nat}
theorem LO_fl {n w : Int} {s : PS} (h : LO n s) (hw : 1 ≤ w ∧ w ≤ 4) : LO n (flS w s) := by
  obtain ⟨l1, l2, l3, l4⟩ := h
  obtain ⟨e1, e2, e3, _⟩ := flS_p (w := w) (s := s)
  exact ⟨Ok0_fl l1 hw, fun q => absurd q (flS_ft hw.1), by rw [e3, e1]; exact l3, by rw [e3]; exact l4⟩
theorem LO_same {n : Int} {s s' : PS} (h : LO n s) (ho : Ok0 n s') (hal : s'.al = s.al) (hst : s.st ≤ s'.st) (hf : s'.ft = 0 → s.ft = 0) : LO n s' := by
  obtain ⟨l1, l2, l3, l4⟩ := h
  refine ⟨ho, fun q => ?_, ?_, ?_⟩
  · rw [hal]; have := l2 (hf q); exact ⟨this.1, by omega⟩
  · rw [hal]; omega
  · rw [hal]; exact l4
theorem person_ok {T : Int → Int} {n : Int} (s : PS) (hLO : LO n s) (hf : s.ft = 0) (hk : s.kd = 1) : ∃ s', LO n s' ∧ s.st ≤ s'.st ∧ PL T n 11 47 [(2, 37)] 193 [(2, 163)] s s' := by
  rcases Decidable.em (s.al 2 = 6) with h6 | h6
  · refine ⟨flS 4 s, LO_fl hLO (by omega), by rw [flS_p.1]; omega, fun D c v hD hC => ?_, fun D c v hD hM => ?_⟩
    · obtain ⟨d, rfl⟩ : ∃ d, D = d + 10 + 1 := ⟨D - 11, by omega⟩
      have e : v 38 1 = 6 := (hC.2.1 hf).1.2.1.trans h6
      exact CV_of loc47 (E47_0 (brbI (fun z => absurd z (by omega)) (fun _ => kN (LC.fail (d := d + 9) hC 4 (by omega)) (fun v1 h1 => ⟨rfl, _, rfl, h1.1, h1.2.wk (by decide)⟩))))
    · obtain ⟨d, rfl⟩ : ∃ d, D = d + 10 + 1 := ⟨D - 11, by omega⟩
      have e : v 167 2 = 6 := by rw [hM.2.2.2.2]; exact h6
      refine CV_of loc193 (E193_0 (brbN (fun z => absurd e z) (fun _ => kN (C_failsS (d := d + 9) hM hLO.1 4 (by omega)) (fun v1 h1 => ?_))))
      rw [h1.1.2.2.1.1]
      exact brbI (fun z => absurd z (flS_ft (by omega))) (fun _ => ⟨rfl, _, rfl, h1⟩)
  · obtain ⟨p, hp⟩ : ∃ p, p = s.al 2 := ⟨_, rfl⟩
    have hp6 : 0 ≤ p ∧ p < 6 := by have := hLO.2.2.2; omega
    have hw1 := (hLO.2.1 hf).1.1
    have ho1 := Ok0_st (T := T) hLO.1
    have ho2 := Ok0_tk (T := T) (k := 2) ho1.1
    have ho3 := Ok0_tn (T := T) (lo := 0) (hi := s.al 1 - 1) ho2
    have st1 : s.st ≤ (stS T n s).st := by have := hLO.1.2.2.2.1; omega
    have st2 := tk_st (T := T) (k := 2) ho1.1
    have st3 := tn_st (T := T) (lo := 0) (hi := s.al 1 - 1) ho2
    have hal3 : (tnS T n 0 (s.al 1 - 1) (tkS T n 2 (stS T n s))).al = s.al := by rw [tnS_al.1, tkS_al.1]; rfl
    have L3 : LO n (tnS T n 0 (s.al 1 - 1) (tkS T n 2 (stS T n s))) := LO_same hLO ho3 hal3 (by omega) (fun _ => hf)
    have e4 : ∀ x : Int, alS (ua (alS (ua s.al (30 + p) x) (tnS T n 0 (s.al 1 - 1) (tkS T n 2 (stS T n s)))).al (9 + p) x) (alS (ua s.al (30 + p) x) (tnS T n 0 (s.al 1 - 1) (tkS T n 2 (stS T n s)))) = alS (ua (ua s.al (30 + p) x) (9 + p) x) (tnS T n 0 (s.al 1 - 1) (tkS T n 2 (stS T n s))) := fun x => rfl
    have L4 : LO n (alS (ua s.al (30 + p) (tkS T n 2 (stS T n s)).num) (tnS T n 0 (s.al 1 - 1) (tkS T n 2 (stS T n s)))) := LO_al (T := T) hLO ho3 (by omega) hal3 (by omega) (fun q => ⟨hf, by have := vl_num ho2 q; right; right; right; right; left; omega⟩)
    have L5 : LO n (alS (ua (ua s.al (30 + p) (tkS T n 2 (stS T n s)).num) (9 + p) (tkS T n 2 (stS T n s)).num) (tnS T n 0 (s.al 1 - 1) (tkS T n 2 (stS T n s)))) := by
      have := LO_al (T := T) (k := 9 + p) (x := (tkS T n 2 (stS T n s)).num) L4 ho3 (Int.le_refl _) (s3 := alS (ua s.al (30 + p) (tkS T n 2 (stS T n s)).num) (tnS T n 0 (s.al 1 - 1) (tkS T n 2 (stS T n s)))) rfl (by omega) (fun q => ⟨q, by
        have := vl_num ho2 q
        left
        refine ⟨by omega, by omega, by omega, ?_⟩
        show _ < ua s.al (30 + p) _ 1
        rw [ua_n (by omega)]; omega⟩)
      exact this
    obtain ⟨s', g1, g2, gd, gc, gm⟩ := lp_flag (T := T) hp6 _ _ (Nat.le_refl _) L5 (by
      show ua (ua s.al (30 + p) _) (9 + p) _ 2 = p
      rw [ua_n (by omega), ua_n (by omega)]; exact hp.symm)
    have g2' : s.st ≤ s'.st := by
      have : (tnS T n 0 (s.al 1 - 1) (tkS T n 2 (stS T n s))).st ≤ s'.st := g2
      omega
    refine ⟨s', g1, g2', fun D c v hD hC => ?_, fun D c v hD hM => ?_⟩
    · obtain ⟨d, rfl⟩ : ∃ d, D = d + 10 + 1 := ⟨D - 11, by omega⟩
      have hct := hC.2.1 hf
      have e : v 38 1 = p := hct.1.2.1.trans hp.symm
      refine CV_of loc47 (E47_0 ?_)
      rw [e]
      refine brbI (fun _ => kN (LC.take (d := d + 8) hC hLO.1 1) (fun v1 h1 => ?_)) (fun z => absurd hp6.2 z)
      rw [tkS_t hf hk] at h1
      refine kN (LC.take (d := d + 8) h1.1 ho1.1 2) (fun v2 h2 => ?_)
      have e0 : v2 38 0 = s.al 1 := by rw [h2.2 38 (by decide), h1.2 38 (by decide)]; exact hct.1.1
      rw [e0]
      refine rngI (by omega) (kI (LC.takeN (d := d + 7) h2.1 ho2 0 (s.al 1 - 1)) (fun v3 h3 => chkI (inbI hp6.1 hp6.2) (chkI (inbI hp6.1 hp6.2) (chkI (inbI hp6.1 hp6.2) ?_))))
      rw [up_same]
      have w1 := LC_wr (a := 49) (i := p) (k := 30 + p) (x := if (tnS T n 0 (s.al 1 - 1) (tkS T n 2 (stS T n s))).ft = 0 then (tkS T n 2 (stS T n s)).vl else 0) (y := (tkS T n 2 (stS T n s)).num) h3.1 (by omega) (fun q => ⟨by rw [if_pos q]; exact (vl_num ho2 q).1, by right; right; right; right; left; omega⟩)
      rw [hal3] at w1
      have w2 := LC_wr (a := 39) (i := p) (k := 9 + p) (x := if (tnS T n 0 (s.al 1 - 1) (tkS T n 2 (stS T n s))).ft = 0 then (tkS T n 2 (stS T n s)).vl else 0) (y := (tkS T n 2 (stS T n s)).num) w1 (by omega) (fun q => ⟨by
        have q' : (tnS T n 0 (s.al 1 - 1) (tkS T n 2 (stS T n s))).ft = 0 := q
        rw [if_pos q']; exact (vl_num ho2 q').1, by left; omega⟩)
      rw [e4] at w2
      refine gc (d + 10) c _ 0 _ (by omega) w2 (fun _ => g1.1.2.2.2.1.1 |> fun _ => ?_) (by omega) (fun v' a b => ⟨rfl, _, rfl, a, ?_⟩)
      · show 0 ≤ (tnS T n 0 (s.al 1 - 1) (tkS T n 2 (stS T n s))).st
        exact ho3.2.2.2.1.1
      · exact (((((h1.2.wk (by decide)).tr (h2.2.wk (by decide))).tr (h3.2.wk (by decide))).up (by decide)).up (by decide)).tr b
    · obtain ⟨d, rfl⟩ : ∃ d, D = d + 10 + 1 := ⟨D - 11, by omega⟩
      have e : v 167 2 = p := by rw [hM.2.2.2.2]; exact hp.symm
      refine CV_of loc193 (E193_0 ?_)
      rw [e, hM.2.2.1.1]
      refine brbN (fun _ => brbI (fun _ => kN (C_nextS (d := d + 4) hM hLO.1) (fun v1 h1 => tk_m (d := d + 3) h1.1 ho1.1 2 (by omega) (by decide) (fun v2 h2 f2 => ?_))) (fun z => absurd hf z)) (fun z => absurd z (by omega))
      have e1 : v2 167 1 = s.al 1 := by rw [h2.2.2.2.2, tkS_al.1]; rfl
      rw [e1]
      refine rngI (by omega) (rngI (by omega) (kI (C_takesS (d := d + 3) h2 ho2 0 (s.al 1 - 1)) (fun v3 h3 => chkI (inbI (by omega) (by omega)) (rngI (by omega) (rngI (by omega) (chkI (inbI (by omega) (by omega)) (chkI (inbI (by omega) (by omega)) ?_)))))))
      rw [up_same]
      have hof : Off [167] v3 (up (up v3 167 (30 + p) (tkS T n 2 (stS T n s)).num) 167 (9 + p) (tkS T n 2 (stS T n s)).num) := ((Off.rf _ v3).up (by decide)).up (by decide)
      exact gm (d + 10) c _ _ (by omega) (h3.1.al hof (by rw [up_ua, up_ua, h3.1.2.2.2.2, hal3])) (fun v' a b => ⟨rfl, _, rfl, a, (((h1.2.tr f2).tr h3.2).tr (FR.o7 hof)).tr b⟩)
def csS (x : Int) (s : PS) : PS := if s.ft = 0 ∧ s.kd = 35 ∧ s.num = x then flS 3 s else s
set_option maxHeartbeats 2000000 in
theorem cares_ok {T : Int → Int} {n : Int} (s : PS) (hLO : LO n s) (hf : s.ft = 0) (hk : s.kd = 7) : ∃ s', LO n s' ∧ s.st ≤ s'.st ∧ PL T n 11 50 [(2, 37)] 194 [(2, 163)] s s' := by
  obtain ⟨s1, hs1⟩ : ∃ s1, s1 = stS T n s := ⟨_, rfl⟩
  obtain ⟨s2, hs2⟩ : ∃ s2, s2 = tnS T n 0 (s.al 2 - 1) s1 := ⟨_, rfl⟩
  obtain ⟨s3, hs3⟩ : ∃ s3, s3 = tkS T n 8 s2 := ⟨_, rfl⟩
  obtain ⟨s4, hs4⟩ : ∃ s4, s4 = csS s1.num s3 := ⟨_, rfl⟩
  obtain ⟨s5, hs5⟩ : ∃ s5, s5 = tnS T n 0 (s.al 2 - 1) s4 := ⟨_, rfl⟩
  obtain ⟨s6, hs6⟩ : ∃ s6, s6 = tnS T n 0 9 s5 := ⟨_, rfl⟩
  have h26 := hLO.2.2.2
  have ho1 : Ok0 n s1 := by rw [hs1]; exact (Ok0_st (T := T) hLO.1).1
  have ho2 : Ok0 n s2 := by rw [hs2]; exact Ok0_tn ho1
  have ho3 : Ok0 n s3 := by rw [hs3]; exact Ok0_tk ho2
  have ho4 : Ok0 n s4 := by rw [hs4]; unfold csS; split; · exact Ok0_fl ho3 (by omega)
                            · exact ho3
  have ho5 : Ok0 n s5 := by rw [hs5]; exact Ok0_tn ho4
  have ho6 : Ok0 n s6 := by rw [hs6]; exact Ok0_tn ho5
  have a1 : s1.al = s.al := by rw [hs1]; rfl
  have a2 : s2.al = s.al := by rw [hs2, tnS_al.1, a1]
  have a3 : s3.al = s.al := by rw [hs3, tkS_al.1, a2]
  have a4 : s4.al = s.al := by
    rw [hs4]; unfold csS
    split
    · rw [flS_p.2.2.1, a3]
    · exact a3
  have a5 : s5.al = s.al := by rw [hs5, tnS_al.1, a4]
  have a6 : s6.al = s.al := by rw [hs6, tnS_al.1, a5]
  have t1 : s.st ≤ s1.st := by rw [hs1]; have := (Ok0_st (T := T) hLO.1).2; have := hLO.1.2.2.2.1; omega
  have t2 : s1.st ≤ s2.st := by rw [hs2]; exact tn_st ho1
  have t3 : s2.st ≤ s3.st := by rw [hs3]; exact tk_st ho2
  have t4 : s3.st = s4.st := by
    rw [hs4]; unfold csS
    split
    · rw [flS_p.1]
    · rfl
  have t5 : s4.st ≤ s5.st := by rw [hs5]; exact tn_st ho4
  have t6 : s5.st ≤ s6.st := by rw [hs6]; exact tn_st ho5
  have lv : s6.ft = 0 → (s1.vl = s1.num ∧ 0 ≤ s1.num ∧ s1.num ≤ s.al 2 - 1) ∧ (s4.vl = s4.num ∧ 0 ≤ s4.num ∧ s4.num ≤ s.al 2 - 1) ∧ (s5.vl = s5.num ∧ 0 ≤ s5.num ∧ s5.num ≤ 9) ∧ s5.ft = 0 ∧ s2.ft = 0 := fun q => by
    have q6 : (tnS T n 0 9 s5).ft = 0 := by rw [← hs6]; exact q
    have f5 := (tnS_al.2.1 q6).1
    have q5 : (tnS T n 0 (s.al 2 - 1) s4).ft = 0 := by rw [← hs5]; exact f5
    have f4 := (tnS_al.2.1 q5).1
    have f3 : s3.ft = 0 := by
      rcases Decidable.em (s3.ft = 0) with z | z
      · exact z
      · have : s4 = s3 := by rw [hs4]; unfold csS; rw [if_neg (fun w => z w.1)]
        rw [this] at f4; exact f4
    have f2 : s2.ft = 0 := by rw [hs3] at f3; exact tkS_al.2.1 f3
    have q2 : (tnS T n 0 (s.al 2 - 1) s1).ft = 0 := by rw [← hs2]; exact f2
    exact ⟨vl_num ho1 q2, vl_num ho4 q5, vl_num ho5 q6, f5, f2⟩
  have L6 : LO n s6 := LO_same hLO ho6 a6 (by omega) (fun _ => hf)
  obtain ⟨s7, hs7⟩ : ∃ s7, s7 = if s6.ft = 0 then alS (ua s6.al (42 + 6 * s1.num + s4.num) s5.num) s6 else s6 := ⟨_, rfl⟩
  have L7 : LO n s7 := by
    rw [hs7]
    split
    · rename_i q
      have hl := lv q
      exact LO_al (T := T) L6 ho6 (Int.le_refl _) rfl (by omega) (fun _ => ⟨q, by right; right; right; right; right; right; omega⟩)
    · exact L6
  refine ⟨s7, L7, ?_, fun D c v hD hC => ?_, fun D c v hD hM => ?_⟩
  · have : s7.st = s6.st := by rw [hs7]; split <;> rfl
    omega
  · obtain ⟨d, rfl⟩ : ∃ d, D = d + 10 + 1 := ⟨D - 11, by omega⟩
    have hct := hC.2.1 hf
    refine CV_of loc50 (E50_0 (kN (LC.take (d := d + 8) hC hLO.1 7) (fun v1 h1 => ?_)))
    rw [tkS_t hf hk, ← hs1] at h1
    have b1 : v1 38 1 = s.al 2 := by rw [h1.2 38 (by decide)]; exact hct.1.2.1
    rw [b1]
    refine rngI (by omega) (kI (LC.takeN (d := d + 7) h1.1 ho1 0 (s.al 2 - 1)) (fun v2 h2 => ?_))
    rw [← hs2] at h2 ⊢
    refine kN (LC.take (d := d + 8) h2.1 ho2 8) (fun v3 h3 => ?_)
    rw [← hs3] at h3
    have b3 : v3 38 1 = s.al 2 := by rw [h3.2 38 (by decide), h2.2 38 (by decide)]; exact b1
    obtain ⟨w, hw⟩ : ∃ w, w = (if s2.ft = 0 then s1.vl else 0) := ⟨_, rfl⟩
    have hwr : 0 ≤ w ∧ w ≤ 999 := by
      rw [hw]
      split
      · rename_i q
        have := vl_num (T := T) (lo := 0) (hi := s.al 2 - 1) ho1 (by rw [← hs2]; exact q)
        omega
      · omega
    rw [← hw]
    have tail : ∀ (x : sF), LC T n x s4 → Off sLn v x → x 38 1 = s.al 2 → rngc (x 38 1 - 1) (∃ r10 c8 v9, Ev (d + 10) 45 [(2, 37), (0, 0), (0, x 38 1 - 1)] (c, x) (some (0, r10)) (c8, v9) ∧ ∃ r13 c11 v12, Ev (d + 10) 45 [(2, 37), (0, 0), (0, 9)] (c8, v9) (some (0, r13)) (c11, v12) ∧ brb (!decide (v12 37 2 = 0)) ((none : Option sV) = none ∧ ∃ v', ((c11, v12) : sM) = (c, v') ∧ (LC T n v' s7 ∧ Off sLn v v')) (rngc (w * 6) (rngc (w * 6 + r10) (chk (inb (w * 6 + r10) 36) ((none : Option sV) = none ∧ ∃ v', ((c11, up v12 51 (w * 6 + r10) r13) : sM) = (c, v') ∧ (LC T n v' s7 ∧ Off sLn v v')))))) := by
      intro x hx hox bx
      rw [bx]
      refine rngI (by omega) (kI (LC.takeN (d := d + 7) hx ho4 0 (s.al 2 - 1)) (fun v4 h4 => ?_))
      rw [← hs5] at h4 ⊢
      refine kI (LC.takeN (d := d + 7) h4.1 ho5 0 9) (fun v5 h5 => ?_)
      rw [← hs6] at h5 ⊢
      rw [h5.1.1.2.1.1]
      have of5 : Off sLn v v5 := (hox.tr (h4.2.wk (by decide))).tr (h5.2.wk (by decide))
      refine brbN (fun q => ⟨rfl, _, rfl, ?_, of5⟩) (fun q => ?_)
      · rw [hs7, if_neg q]; exact h5.1
      · obtain ⟨m1, m2, m3, m4, m5⟩ := lv q
        have ew : w = s1.num := by rw [hw, if_pos m5]; exact m1.1
        rw [if_pos m4, if_pos q]
        refine rngI (by omega) (rngI (by omega) (chkI (inbI (by omega) (by omega)) ⟨rfl, _, rfl, ?_, of5.up (by decide)⟩))
        rw [hs7, if_pos q]
        exact LC_wr (a := 51) (i := w * 6 + s4.vl) (k := 42 + 6 * s1.num + s4.num) h5.1 (by omega) (fun _ => ⟨m3.1, by right; right; right; right; right; right; omega⟩)
    have o3 : Off sLn v v3 := ((h1.2.wk (by decide)).tr (h2.2.wk (by decide))).tr (h3.2.wk (by decide))
    rw [h3.1.1.1.2.2, h3.1.1.2.1.1]
    have hv3 : s3.ft = 0 → (s3.vl = w ↔ (s3.kd = 35 ∧ s3.num = s1.num)) := fun q => by
      have f2 : s2.ft = 0 := by rw [hs3] at q; exact tkS_al.2.1 q
      have m := vl_num (T := T) (lo := 0) (hi := s.al 2 - 1) ho1 (by rw [← hs2]; exact f2)
      have ew : w = s1.num := by rw [hw, if_pos f2]; exact m.1
      have c1 := ho3.2.2.2.2.2.2.1
      have c2 := ho3.2.2.2.2.2.2.2.1
      constructor
      · intro z
        rcases Decidable.em (s3.kd = 35) with k | k
        · have := c1 k; exact ⟨k, by omega⟩
        · have := c2 k; omega
      · intro z; have := c1 z.1; omega
    refine brbN (fun q => tail v3 ?_ o3 b3) (fun q => brbN (fun q2 => tail v3 ?_ o3 b3) (fun q2 => kN (LC.fail (d := d + 9) h3.1 3 (by omega)) (fun v4 h4 => tail v4 ?_ (o3.tr (h4.2.wk (by decide))) (by rw [h4.2 38 (by decide)]; exact b3))))
    · have : s4 = s3 := by rw [hs4]; unfold csS; rw [if_neg (fun z => q ((hv3 z.1).2 z.2))]
      rw [this]; exact h3.1
    · have : s4 = s3 := by rw [hs4]; unfold csS; rw [if_neg (fun z => q2 z.1)]
      rw [this]; exact h3.1
    · have : s4 = flS 3 s3 := by rw [hs4]; unfold csS; rw [if_pos ⟨q2, (hv3 q2).1 q⟩]
      rw [this]; exact h4.1
  · obtain ⟨d, rfl⟩ : ∃ d, D = d + 10 + 1 := ⟨D - 11, by omega⟩
    refine CV_of loc194 (E194_0 (kN (C_nextS (d := d + 4) hM hLO.1) (fun v1 h1 => ?_)))
    rw [← hs1] at h1
    have b1 : v1 167 2 = s.al 2 := by rw [h1.1.2.2.2.2, a1]
    rw [b1]
    refine rngI (by omega) (kI (C_takesS (d := d + 3) h1.1 ho1 0 (s.al 2 - 1)) (fun v2 h2 => ?_))
    rw [← hs2] at h2
    refine tk_m (d := d + 3) h2.1 ho2 8 (by omega) (by decide) (fun v3 h3 f3 => ?_)
    rw [← hs3] at h3
    have tail : ∀ (x : sF), MS T n x s4 → FR v3 x → rngc (x 167 2 - 1) (∃ r14 c12 v13, Ev (d + 10) 180 [(2, 163), (0, 0), (0, x 167 2 - 1)] (c, x) (some (0, r14)) (c12, v13) ∧ ∃ r17 c15 v16, Ev (d + 10) 180 [(2, 163), (0, 0), (0, 9)] (c12, v13) (some (0, r17)) (c15, v16) ∧ brb (!decide (v16 163 11 = 0)) ((none : Option sV) = none ∧ ∃ v', ((c15, v16) : sM) = (c, v') ∧ (MS T n v' s7 ∧ FR v v')) (rngc (6 * s1.num) (rngc (42 + 6 * s1.num) (rngc (42 + 6 * s1.num + r14) (chk (inb (42 + 6 * s1.num + r14) 1754) ((none : Option sV) = none ∧ ∃ v', ((c15, up v16 167 (42 + 6 * s1.num + r14) r17) : sM) = (c, v') ∧ (MS T n v' s7 ∧ FR v v'))))))) := by
      intro x hx hox
      have bx : x 167 2 = s.al 2 := by rw [hx.2.2.2.2, a4]
      rw [bx]
      refine rngI (by omega) (kI (C_takesS (d := d + 3) hx ho4 0 (s.al 2 - 1)) (fun v4 h4 => ?_))
      rw [← hs5] at h4
      refine kI (C_takesS (d := d + 3) h4.1 ho5 0 9) (fun v5 h5 => ?_)
      rw [← hs6] at h5
      rw [h5.1.2.2.1.1]
      have of5 : FR v v5 := (((((h1.2.tr h2.2).tr f3).tr hox).tr h4.2).tr h5.2)
      refine brbN (fun q => ⟨rfl, _, rfl, ?_, of5⟩) (fun q => ?_)
      · rw [hs7, if_neg q]; exact h5.1
      · obtain ⟨m1, m2, m3, m4, m5⟩ := lv q
        have hof : Off [167] v5 (up v5 167 (42 + 6 * s1.num + s4.num) s5.num) := (Off.rf _ v5).up (by decide)
        refine rngI (by omega) (rngI (by omega) (rngI (by omega) (chkI (inbI (by omega) (by omega)) ⟨rfl, _, rfl, ?_, of5.tr (FR.o7 hof)⟩)))
        rw [hs7, if_pos q]
        exact h5.1.al hof (by rw [up_ua, h5.1.2.2.2.2])
    refine kI0 (C_isS (d := d + 9) h3 ho3 35 (by omega) (by decide)) ?_
    rcases Decidable.em (s3.ft = 0 ∧ s3.kd = 35) with q | q
    · rw [if_pos q]
      refine brbI (fun z => absurd z (by decide)) (fun _ => ?_)
      rw [h3.2.1.2.2.2]
      refine brbN (fun q2 => tail v3 ?_ (FR.rf v3)) (fun q2 => kN (C_failsS (d := d + 9) h3 ho3 3 (by omega)) (fun v4 h4 => tail v4 ?_ h4.2))
      · have : s4 = s3 := by rw [hs4]; unfold csS; rw [if_neg (fun z => q2 z.2.2)]
        rw [this]; exact h3
      · have : s4 = flS 3 s3 := by rw [hs4]; unfold csS; rw [if_pos ⟨q.1, q.2, q2⟩]
        rw [this]; exact h4.1
    · rw [if_neg q]
      refine brbI (fun _ => tail v3 ?_ (FR.rf v3)) (fun z => absurd rfl z)
      have : s4 = s3 := by rw [hs4]; unfold csS; rw [if_neg (fun z => q ⟨z.1, z.2.1⟩)]
      rw [this]; exact h3
end Par9
