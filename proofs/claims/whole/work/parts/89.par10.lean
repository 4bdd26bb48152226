section Par10
variable {c : Nat}
theorem tcks_R {cd cd' : Int → Int} {i : Int} : ∀ j : Nat, (∀ k : Nat, k < j → cd k = cd' (i + k)) → tcks cd j = tckR cd' i j [] := by
  intro j
  induction j with
  | zero => intro _; rfl
  | succ j ih =>
    intro h
    show (tcks cd j).bind (tck (cd j)) = (tckR cd' i j []).bind (tck (cd' (i + j)))
    rw [ih (fun k hk => h k (by omega)), h j (by omega)]
theorem lw_tk {T : Int → Int} {n k x : Int} {s : PS} : tkS T n k (lwS x s) = lwS x (tkS T n k s) := by
  unfold tkS
  show (if s.ft = 0 then (if s.kd = k then stS T n (lwS x s) else flS 2 (lwS x s)) else lwS x s) = _
  rcases Decidable.em (s.ft = 0) with q | q
  · rw [if_pos q, if_pos q]
    rcases Decidable.em (s.kd = k) with w | w
    · rw [if_pos w, if_pos w]; rfl
    · rw [if_neg w, if_neg w]
      unfold flS
      show (if s.ft = 0 then ftS (if s.kd = 38 then 1 else 2) (lwS x s) else lwS x s) = _
      rw [if_pos q, if_pos q]; rfl
  · rw [if_neg q, if_neg q]
theorem MS.lw {T : Int → Int} {n x : Int} {v : sF} {s : PS} (h : MS T n v s) : MS T n (up v 163 15 x) (lwS x s) ∧ FR v (up v 163 15 x) := by
  obtain ⟨g1, g2, g3, g4, g5⟩ := h
  have hof : Off [163] v (up v 163 15 x) := (Off.rf _ v).up (by decide)
  refine ⟨⟨⟨?_, g1.2.1, g1.2.2.1, ?_⟩, ?_, ?_, ?_, ?_⟩, hof.wk (by decide), fun i hi => up_ne _ (by omega)⟩
  · rw [up_ne _ (by decide)]; exact g1.1
  · rw [hof 166 (by decide)]; exact g1.2.2.2
  · rw [up_ne _ (by decide), up_ne _ (by decide), up_ne _ (by decide), up_ne _ (by decide)]; exact g2
  · rw [up_ne _ (by decide), up_ne _ (by decide)]; exact g3
  · intro _; rw [up_same]; rfl
  · rw [hof 167 (by decide)]; exact g5
theorem C_beginL {d : Nat} {v : sF} {x : Int} (hx : x = 0 ∨ x = 1) : Ev (d + 1) 21 [(2, 42), (0, x)] (c, v) none (c, up v 44 x (v 42 1)) := Ev_of (loc21 x) (E21_0 x (chkI (inbI (by omega) (by omega)) ⟨rfl, rfl⟩))
theorem C_endL {d : Nat} {v : sF} {x : Int} (hx : x = 0 ∨ x = 1) : Ev (d + 1) 22 [(2, 42), (0, x)] (c, v) none (c, up v 45 x (v 42 1)) := Ev_of (loc22 x) (E22_0 x (chkI (inbI (by omega) (by omega)) ⟨rfl, rfl⟩))
/-- a law told -/
def alL (al : Int → Int) (x f : Int) : Int → Int := ua (ua (ua al (3 + x) 1) (5 + x) f) (7 + x) (al 853 - f)
theorem alL_n {al : Int → Int} {x f k : Int} (h : k ≠ 3 + x ∧ k ≠ 5 + x ∧ k ≠ 7 + x) : alL al x f k = al k := by unfold alL; rw [ua_n (by omega), ua_n (by omega), ua_n (by omega)]
theorem alL_3 {al : Int → Int} {x f : Int} : alL al x f (3 + x) = 1 ∧ alL al x f (5 + x) = f ∧ alL al x f (7 + x) = al 853 - f := by
  unfold alL
  refine ⟨?_, ?_, ua_s _ _ _⟩
  · rw [ua_n (by omega), ua_n (by omega), ua_s]
  · rw [ua_n (by omega), ua_s]
theorem alL_WF {n x : Int} {D : Nat} {s s3 : PS} (hx : x = 0 ∨ x = 1) (hW : WF s.al) (g : Sg n [] [false] D 0 s s3) (hD : D ≤ 50) (hl : s.law = x) (hf : s3.ft = 0) : WF (alL s3.al x (s.al 853)) := by
  obtain ⟨w1, w2, w3, w4, w5, w6, w7, w8, w9⟩ := hW
  obtain ⟨_, _, _, _, fr, ⟨fc, fc'⟩, hal⟩ := g
  obtain ⟨c1, c2, c3⟩ := hal hf
  have e : ∀ k : Int, k < 853 → (k ≠ 3 + x ∧ k ≠ 5 + x ∧ k ≠ 7 + x) → alL s3.al x (s.al 853) k = s.al k := fun k hk hn => by rw [alL_n hn]; exact fr k hk
  have e8 : alL s3.al x (s.al 853) 853 = s3.al 853 := alL_n (by omega)
  have ec : ∀ k : Int, 0 ≤ k → alL s3.al x (s.al 853) (854 + k) = s3.al (854 + k) := fun k hk => alL_n (by omega)
  obtain ⟨a3, a5, a7⟩ := alL_3 (al := s3.al) (x := x) (f := s.al 853)
  have hother : ∀ l : Int, (l = 0 ∨ l = 1) → l ≠ x → LwP s.al l → LwP (alL s3.al x (s.al 853)) l := fun l hl hne hh => hh.cg hl ⟨e _ (by omega) (by omega), e _ (by omega) (by omega), e _ (by omega) (by omega)⟩ (by rw [e8]; exact fc) (fun k k0 k1 => by rw [ec k k0]; exact fc' k k0 k1)
  have hme : LwP (alL s3.al x (s.al 853)) x := by
    intro _
    have hr := c2 []
    obtain ⟨r1, r2⟩ := hr
    simp only [List.append_nil] at r1 r2
    have hN : lwN (alL s3.al x (s.al 853)) x = (s3.al 853 - s.al 853).toNat := by unfold lwN; rw [a7]
    have hm : 1 ≤ s3.al 853 - s.al 853 := by
      rcases Decidable.em (1 ≤ s3.al 853 - s.al 853) with q | q
      · exact q
      · rw [show (s3.al 853 - s.al 853).toNat = 0 by omega] at r1
        have : (some [] : Option (List Bool)) = some [false] := r1
        cases this
    have hcd : ∀ k : Nat, lwC (alL s3.al x (s.al 853)) x k = (fun k => s3.al (854 + k)) (s.al 853 + k) := fun k => by
      show alL s3.al x (s.al 853) (854 + alL s3.al x (s.al 853) (5 + x) + k) = s3.al (854 + (s.al 853 + k))
      rw [a5, show 854 + s.al 853 + (k : Int) = 854 + (s.al 853 + k) by omega]
      exact ec _ (by omega)
    refine ⟨by rw [a5, a7, e8]; omega, ⟨?_, fun k hk => ?_⟩, fun k hk => ?_⟩
    · rw [hN, tcks_R (cd' := fun k => s3.al (854 + k)) (i := s.al 853) _ (fun k _ => hcd k)]; exact r1
    · rw [hN] at hk
      obtain ⟨y, y1, y2⟩ := r2 k hk
      refine ⟨y, ?_, ?_⟩
      · rw [tcks_R (cd' := fun k => s3.al (854 + k)) (i := s.al 853) _ (fun k _ => hcd k)]; exact y1
      · simp at y2; omega
    · rw [hN] at hk
      rw [hcd k, ← hl]
      exact c3 (s.al 853 + k) (by omega) (by omega)
  refine ⟨by rw [e 1 (by omega) (by omega)]; exact w1, by rw [e 2 (by omega) (by omega)]; exact w2, fun p p0 p1 => ?_, fun p p0 p1 => ?_, fun i i0 i1 => ?_, ?_, by rw [e8]; omega, ?_, ?_⟩
  · rw [e (9 + p) (by omega) (by omega), e (15 + p) (by omega) (by omega), e (21 + p) (by omega) (by omega), e 1 (by omega) (by omega)]; exact w3 p p0 p1
  · rw [e (30 + p) (by omega) (by omega), e (36 + p) (by omega) (by omega), e 1 (by omega) (by omega)]; exact w4 p p0 p1
  · rw [e (42 + i) (by omega) (by omega)]; exact w5 i i0 i1
  · rw [e 27 (by omega) (by omega), e 28 (by omega) (by omega), e 29 (by omega) (by omega), e 102 (by omega) (by omega)]; exact w6
  · rcases hx with rfl | rfl
    · exact hme
    · exact hother 0 (Or.inl rfl) (by decide) w8
  · rcases hx with rfl | rfl
    · exact hother 1 (Or.inr rfl) (by decide) w9
    · exact hme
theorem rlaw_ok {T : Int → Int} {n x : Int} (s : PS) (hLO : LO n s) (hf : s.ft = 0) (hx : x = 0 ∨ x = 1) (hk : s.kd = 9 + x) : ∃ s', LO n s' ∧ s.st ≤ s'.st ∧ PL T n 62 51 [(2, 37), (0, x)] 195 [(2, 163), (0, x)] s s' := by
  obtain ⟨s1, hs1⟩ : ∃ s1, s1 = stS T n (lwS x s) := ⟨_, rfl⟩
  obtain ⟨s2, hs2⟩ : ∃ s2, s2 = tkS T n 24 s1 := ⟨_, rfl⟩
  have ho0 : Ok0 n (lwS x s) := hLO.1
  have ho1 : Ok0 n s1 := by rw [hs1]; exact (Ok0_st (T := T) ho0).1
  have ho2 : Ok0 n s2 := by rw [hs2]; exact Ok0_tk ho1
  have a2 : s2.al = s.al := by rw [hs2, tkS_al.1, hs1]; rfl
  have l2 : s2.law = x := by rw [hs2, tkS_al.2.2.2, hs1]; rfl
  have t1 : s.st ≤ s1.st := by
    rw [hs1]
    have e1 := (Ok0_st (T := T) ho0).2
    have e2 := hLO.1.2.2.2.1
    have e3 : (lwS x s).nx = s.nx := rfl
    omega
  have t2 : s1.st ≤ s2.st := by rw [hs2]; exact tk_st ho1
  obtain ⟨w1, w2⟩ := hLO.2.1 hf
  have hb2 : Bd s2 := ⟨by rw [l2]; exact hx, fun _ => by rw [a2]; have := w1.2.2.2.2.2.2.1; omega⟩
  obtain ⟨s3, g3, gc, gm⟩ := (law_ok (T := T) (n := n) 6 (Nat.le_refl _)).1 s2 ho2 hb2
  rw [show (6 : Int) - ((6 : Nat) : Int) = 0 by decide] at gc gm
  have fr : ∀ k : Int, k < 853 → s3.al k = s.al k := fun k hk => by rw [g3.2.2.2.2.1 k hk, a2]
  obtain ⟨s4, hs4⟩ : ∃ s4, s4 = if s3.ft = 0 then alS (alL s3.al x (s.al 853)) s3 else s3 := ⟨_, rfl⟩
  have hL4 : LO n s4 := by
    rw [hs4]
    have h3 := hLO.2.2.1
    have h4 := hLO.2.2.2
    have t3 := g3.2.2.1
    split
    · rename_i q
      refine ⟨g3.1, fun _ => ⟨?_, ?_⟩, ?_, ?_⟩
      · have := alL_WF (n := n) hx (s := s2) (by rw [a2]; exact w1) g3 (by decide) l2 q
        rw [a2] at this
        exact this
      · show alL s3.al x (s.al 853) 853 ≤ s3.st
        rw [alL_n (by omega)]
        have := (g3.2.2.2.2.2.2 q).1
        rw [a2] at this
        omega
      · show 0 ≤ alL s3.al x (s.al 853) 0 ∧ alL s3.al x (s.al 853) 0 ≤ s3.st + 1
        rw [alL_n (by omega), fr 0 (by omega)]; omega
      · show 0 ≤ alL s3.al x (s.al 853) 2 ∧ alL s3.al x (s.al 853) 2 ≤ 6
        rw [alL_n (by omega), fr 2 (by omega)]; exact h4
    · rename_i q
      exact ⟨g3.1, fun z => absurd z q, by rw [fr 0 (by omega)]; omega, by rw [fr 2 (by omega)]; exact h4⟩
  refine ⟨s4, hL4, ?_, fun D c v hD hC => ?_, fun D c v hD hM => ?_⟩
  · have : s4.st = s3.st := by rw [hs4]; split <;> rfl
    have := g3.2.2.1
    omega
  · obtain ⟨d, rfl⟩ : ∃ d, D = d + 60 + 1 := ⟨D - 61, by omega⟩
    have hct := hC.2.1 hf
    have of0 : Off [37] v (up v 37 5 x) := (Off.rf _ v).up (by decide)
    have hC0 : LC T n (up v 37 5 x) (lwS x s) := by
      refine ⟨⟨?_, ⟨?_, ?_, ?_⟩, ?_, ?_⟩, fun q => ?_, hC.2.2.off of0 (by decide)⟩
      · rw [of0 56 (by decide)]; exact hC.1.1
      · rw [up_ne _ (by decide)]; exact hC.1.2.1.1
      · rw [up_ne _ (by decide)]; exact hC.1.2.1.2.1
      · intro _; rw [up_same]; rfl
      · rw [of0 42 (by decide), of0 43 (by decide)]; exact hC.1.2.2.1
      · exact hC.1.2.2.2.cg (fun i _ => by rw [of0 56 (by decide)]) (of0 57 (by decide))
      · exact hct.off of0 (hsT (by decide))
    refine CV_of (loc51 x) (E51_0 x ?_)
    rw [hC.1.1.1]
    refine kN (LC.take (d := d + 58) hC0 ho0 s.kd) (fun v1 h1 => ?_)
    rw [tkS_t (s := lwS x s) (k := s.kd) hf rfl, ← hs1] at h1
    refine kN (LC.take (d := d + 58) h1.1 ho1 24) (fun v2 h2 => ?_)
    rw [← hs2] at h2
    have ex2 : v2 37 5 = x := by have := h2.1.1.2.1.2.2 (by omega); rw [this, l2]
    rw [ex2]
    have of2 : Off [37, 56] v v2 := ((of0.wk (by decide)).tr h1.2).tr h2.2
    refine kN (R := fun w => w = up v2 44 x (v2 42 1)) ⟨_, C_beginL (d := d + 59) hx, rfl⟩ (fun v3 h3 => ?_)
    subst h3
    have of3 : Off [44] v2 (up v2 44 x (v2 42 1)) := (Off.rf _ v2).up (by decide)
    have hC3 : CS T n (up v2 44 x (v2 42 1)) s2 := by
      have := h2.1.1.al (al := s2.al) (v' := up v2 44 x (v2 42 1)) (fun a ha => up_off a (by omega)) (fun _ _ _ => rfl)
      exact this
    refine kN (gc (d + 60) c _ (by omega) hC3) (fun v4 h4 => ?_)
    have ex4 : v4 37 5 = x := by have := h4.1.2.1.2.2 (by rw [g3.2.1]; omega); rw [this, g3.2.1, l2]
    rw [ex4]
    refine kN (R := fun w => w = up v4 45 x (v4 42 1)) ⟨_, C_endL (d := d + 59) hx, rfl⟩ (fun v5 h5 => ?_)
    subst h5
    have of5 : Off [45] v4 (up v4 45 x (v4 42 1)) := (Off.rf _ v4).up (by decide)
    have ofA : Off [37, 42, 43, 44, 45, 56] v (up v4 45 x (v4 42 1)) := (((of2.wk (by decide)).tr (of3.wk (by decide))).tr (h4.2.wk (by decide))).tr (of5.wk (by decide))
    refine ⟨rfl, _, rfl, ?_, ofA.wk (by decide)⟩
    have hdb : DB (up v4 45 x (v4 42 1)) := hC.2.2.off ofA (by decide)
    rw [hs4]
    rcases Decidable.em (s3.ft = 0) with q | q
    · rw [if_pos q]
      have q2 := g3.live q
      refine ⟨h4.1.al (fun a ha => up_off a (by omega)) (fun _ k hk => alL_n (by omega)), fun _ => ?_, hdb⟩
      obtain ⟨b3, b5, b7⟩ := alL_3 (al := s3.al) (x := x) (f := s.al 853)
      have e : ∀ k : Int, k < 853 → (k ≠ 3 + x ∧ k ≠ 5 + x ∧ k ≠ 7 + x) → alL s3.al x (s.al 853) k = s.al k := fun k hk hn => by rw [alL_n hn]; exact fr k hk
      have f2 : v2 42 1 = s.al 853 := by rw [(h2.1.1.2.2.1.2 q2).1, a2]
      have f4 : v4 42 1 = s3.al 853 := (h4.1.2.2.1.2 q).1
      have e44 : up v4 45 x (v4 42 1) 44 = up v2 44 x (s.al 853) 44 := by rw [of5 44 (by decide), h4.2 44 (by decide), f2]
      have v244 : v2 44 = v 44 := of2 44 (by decide)
      have v445 : v4 45 = v 45 := by rw [h4.2 45 (by decide), of3 45 (by decide), of2 45 (by decide)]
      obtain ⟨k1, k2, k3, k4, k5, k6⟩ := hct
      show CT (up v4 45 x (v4 42 1)) (alL s3.al x (s.al 853))
      unfold CT
      rw [ofA 38 (by decide), ofA 39 (by decide), ofA 40 (by decide), ofA 41 (by decide), ofA 48 (by decide), ofA 49 (by decide), ofA 50 (by decide), ofA 51 (by decide), e44]
      refine ⟨by rw [e 1 (by omega) (by omega), e 2 (by omega) (by omega), e 0 (by omega) (by omega)]; exact k1, fun p p0 p1 => ?_, fun l hl => ?_, by rw [e 27 (by omega) (by omega), e 28 (by omega) (by omega)]; exact k4, fun p p0 p1 => ?_, fun i i0 i1 => ?_⟩
      · rw [e (9 + p) (by omega) (by omega), e (15 + p) (by omega) (by omega), e (21 + p) (by omega) (by omega)]; exact k2 p p0 p1
      · rcases Decidable.em (l = x) with z | z
        · subst z
          rw [b3, b5, b7, up_same, up_same, f4]
          exact ⟨fun z => by omega, fun _ => ⟨rfl, by omega⟩⟩
        · rw [e (3 + l) (by omega) (by omega), e (5 + l) (by omega) (by omega), e (7 + l) (by omega) (by omega), up_ne _ z, up_ne _ z, v244, v445]
          exact k3 l hl
      · rw [e (30 + p) (by omega) (by omega), e (36 + p) (by omega) (by omega)]; exact k5 p p0 p1
      · rw [e (42 + i) (by omega) (by omega)]; exact k6 i i0 i1
    · rw [if_neg q]
      have := h4.1.al (al := s3.al) (v' := up v4 45 x (v4 42 1)) (fun a ha => up_off a (by omega)) (fun _ _ _ => rfl)
      exact ⟨this, fun z => absurd z q, hdb⟩
  · obtain ⟨d, rfl⟩ : ∃ d, D = d + 60 + 1 := ⟨D - 61, by omega⟩
    have ho1' := (Ok0_st (T := T) hLO.1).1
    refine CV_of (loc195 x) (E195_0 x (kN (C_nextS (d := d + 54) hM hLO.1) (fun v1 h1 => tk_m (d := d + 53) h1.1 ho1' 24 (by omega) (by decide) (fun v2 h2 f2 => ?_))))
    have e853 : v2 167 853 = s.al 853 := by rw [h2.2.2.2.2, tkS_al.1]; rfl
    rw [e853]
    obtain ⟨m1, m2⟩ := MS.lw (x := x) h2
    have es2 : lwS x (tkS T n 24 (stS T n s)) = s2 := by rw [hs2, hs1, ← lw_tk]; rfl
    rw [es2] at m1
    refine kN (gm (d + 60) c _ (by omega) m1) (fun v3 h3 => ?_)
    have f : FR v v3 := ((h1.2.tr f2).tr m2).tr h3.2
    rw [h3.1.2.2.1.1]
    refine brbI (fun q => ?_) (fun q => ⟨rfl, _, rfl, by rw [hs4, if_neg q]; exact h3.1, f⟩)
    have e3 : up (up v3 167 (3 + x) 1) 167 (5 + x) (s.al 853) 167 853 = s3.al 853 := by rw [up_ne _ (by omega), up_ne _ (by omega), h3.1.2.2.2.2]
    rw [e3]
    have hof : Off [167] v3 (up (up (up v3 167 (3 + x) 1) 167 (5 + x) (s.al 853)) 167 (7 + x) (s3.al 853 - s.al 853)) := (((Off.rf _ v3).up (by decide)).up (by decide)).up (by decide)
    have hr : 0 ≤ s.al 853 ∧ s.al 853 ≤ s3.al 853 ∧ s3.al 853 ≤ 2000 := by
      have k1 := w1.2.2.2.2.2.2.1
      have k2 := g3.2.2.2.2.2.1.1
      rw [a2] at k2
      have k3 := (g3.2.2.2.2.2.2 q).1
      rw [a2] at k3
      have k4 := g3.1.2.2.2.1
      have k5 := g3.1.2.1
      have k6 := g3.1.1
      have k7 := ho2.2.2.2.1
      omega
    refine rngI (by omega) (chkI (inbI (by omega) (by omega)) (rngI (by omega) (chkI (inbI (by omega) (by omega)) (rngI (by omega) (rngI (by omega) (chkI (inbI (by omega) (by omega)) ⟨rfl, _, rfl, ?_, f.tr (FR.o7 hof)⟩))))))
    rw [hs4, if_pos q]
    exact h3.1.al hof (by rw [up_ua, up_ua, up_ua, h3.1.2.2.2.2]; rfl)
/-- a line -/
theorem line_ok {T : Int → Int} {n : Int} (s : PS) (hLO : LO n s) (hf : s.ft = 0) : ∃ s', LO n s' ∧ s.st ≤ s'.st ∧ PL T n 64 46 [(2, 37)] 196 [(2, 163)] s s' := by
  have h38 := hLO.1.2.2.1
  rcases Decidable.em (s.kd = 1) with q1 | q1
  · obtain ⟨s', a1, a2, a3, a4⟩ := person_ok (T := T) s hLO hf q1
    refine ⟨s', a1, a2, fun D c v hD hC => ?_, fun D c v hD hM => ?_⟩
    · obtain ⟨d, rfl⟩ : ∃ d, D = d + 63 + 1 := ⟨D - 64, by omega⟩
      refine CV_of loc46 (E46_0 ?_)
      rw [hC.1.1.1]
      exact brbI (fun _ => kN (a3 (d + 63) c v (by omega) hC) (fun v1 h1 => ⟨rfl, _, rfl, h1⟩)) (fun z => absurd q1 z)
    · obtain ⟨d, rfl⟩ : ∃ d, D = d + 63 + 1 := ⟨D - 64, by omega⟩
      refine CV_of loc196 (E196_0 ?_)
      rw [hM.2.2.1.1]
      refine brbI (fun _ => kI0 (C_isS (d := d + 62) hM hLO.1 1 (by omega) (by decide)) ?_) (fun z => absurd hf z)
      rw [if_pos ⟨hf, q1⟩]
      exact brbI (fun z => absurd z (by decide)) (fun _ => kN (a4 (d + 63) c v (by omega) hM) (fun v1 h1 => ⟨rfl, _, rfl, h1⟩))
  rcases Decidable.em (s.kd = 7) with q7 | q7
  · obtain ⟨s', a1, a2, a3, a4⟩ := cares_ok (T := T) s hLO hf q7
    refine ⟨s', a1, a2, fun D c v hD hC => ?_, fun D c v hD hM => ?_⟩
    · obtain ⟨d, rfl⟩ : ∃ d, D = d + 63 + 1 := ⟨D - 64, by omega⟩
      refine CV_of loc46 (E46_0 ?_)
      rw [hC.1.1.1]
      (repeat' (refine brbI (fun z => ?_) (fun z => ?_))) <;> first | (exfalso; omega) | exact kN (a3 (d + 63) c v (by omega) hC) (fun v1 h1 => ⟨rfl, _, rfl, h1⟩)
    · obtain ⟨d, rfl⟩ : ∃ d, D = d + 63 + 1 := ⟨D - 64, by omega⟩
      refine CV_of loc196 (E196_0 ?_)
      rw [hM.2.2.1.1]
      refine brbI (fun _ => kI0 (C_isS (d := d + 62) hM hLO.1 1 (by omega) (by decide)) ?_) (fun z => absurd hf z)
      rw [if_neg (fun z => q1 z.2)]
      refine brbI (fun _ => kI0 (C_isS (d := d + 62) hM hLO.1 7 (by omega) (by decide)) ?_) (fun z => absurd rfl z)
      rw [if_pos ⟨hf, q7⟩]
      exact brbI (fun z => absurd z (by decide)) (fun _ => kN (a4 (d + 63) c v (by omega) hM) (fun v1 h1 => ⟨rfl, _, rfl, h1⟩))
  rcases Decidable.em (s.kd = 9) with q9 | q9
  · obtain ⟨s', a1, a2, a3, a4⟩ := rlaw_ok (T := T) (x := 0) s hLO hf (Or.inl rfl) (by omega)
    refine ⟨s', a1, a2, fun D c v hD hC => ?_, fun D c v hD hM => ?_⟩
    · obtain ⟨d, rfl⟩ : ∃ d, D = d + 63 + 1 := ⟨D - 64, by omega⟩
      refine CV_of loc46 (E46_0 ?_)
      rw [hC.1.1.1]
      (repeat' (refine brbI (fun z => ?_) (fun z => ?_))) <;> first | (exfalso; omega) | exact kN (a3 (d + 63) c v (by omega) hC) (fun v1 h1 => ⟨rfl, _, rfl, h1⟩)
    · obtain ⟨d, rfl⟩ : ∃ d, D = d + 63 + 1 := ⟨D - 64, by omega⟩
      refine CV_of loc196 (E196_0 ?_)
      rw [hM.2.2.1.1]
      refine brbI (fun _ => kI0 (C_isS (d := d + 62) hM hLO.1 1 (by omega) (by decide)) ?_) (fun z => absurd hf z)
      rw [if_neg (fun z => q1 z.2)]
      refine brbI (fun _ => kI0 (C_isS (d := d + 62) hM hLO.1 7 (by omega) (by decide)) ?_) (fun z => absurd rfl z)
      rw [if_neg (fun z => q7 z.2)]
      refine brbI (fun _ => kI0 (C_isS (d := d + 62) hM hLO.1 9 (by omega) (by decide)) ?_) (fun z => absurd rfl z)
      rw [if_pos ⟨hf, q9⟩, hM.2.1.1, q9, show km 9 - 9 = 0 by decide]
      exact brbN (fun _ => rngI (by omega) (kN (a4 (d + 63) c v (by omega) hM) (fun v1 h1 => ⟨rfl, _, rfl, h1⟩))) (fun z => absurd z (by decide))
  rcases Decidable.em (s.kd = 10) with q10 | q10
  · obtain ⟨s', a1, a2, a3, a4⟩ := rlaw_ok (T := T) (x := 1) s hLO hf (Or.inr rfl) (by omega)
    refine ⟨s', a1, a2, fun D c v hD hC => ?_, fun D c v hD hM => ?_⟩
    · obtain ⟨d, rfl⟩ : ∃ d, D = d + 63 + 1 := ⟨D - 64, by omega⟩
      refine CV_of loc46 (E46_0 ?_)
      rw [hC.1.1.1]
      (repeat' (refine brbI (fun z => ?_) (fun z => ?_))) <;> first | (exfalso; omega) | exact kN (a3 (d + 63) c v (by omega) hC) (fun v1 h1 => ⟨rfl, _, rfl, h1⟩)
    · obtain ⟨d, rfl⟩ : ∃ d, D = d + 63 + 1 := ⟨D - 64, by omega⟩
      refine CV_of loc196 (E196_0 ?_)
      rw [hM.2.2.1.1]
      refine brbI (fun _ => kI0 (C_isS (d := d + 62) hM hLO.1 1 (by omega) (by decide)) ?_) (fun z => absurd hf z)
      rw [if_neg (fun z => q1 z.2)]
      refine brbI (fun _ => kI0 (C_isS (d := d + 62) hM hLO.1 7 (by omega) (by decide)) ?_) (fun z => absurd rfl z)
      rw [if_neg (fun z => q7 z.2)]
      refine brbI (fun _ => kI0 (C_isS (d := d + 62) hM hLO.1 9 (by omega) (by decide)) ?_) (fun z => absurd rfl z)
      rw [if_neg (fun z => q9 z.2)]
      refine brbN (fun z => absurd rfl z) (fun _ => kI0 (C_isS (d := d + 62) hM hLO.1 10 (by omega) (by decide)) ?_)
      rw [if_pos ⟨hf, q10⟩, hM.2.1.1, q10, show km 10 - 9 = 1 by decide]
      exact brbI (fun z => absurd z (by decide)) (fun _ => rngI (by omega) (kN (a4 (d + 63) c v (by omega) hM) (fun v1 h1 => ⟨rfl, _, rfl, h1⟩)))
  have pre : ∀ (d c : Nat) (v : sF) (Q : sQ), MS T n v s → (∃ r17 c15 v16, Ev (d + 63) 179 [(2, 163), (0, 11)] (c, v) (some (0, r17)) (c15, v16) ∧ brb (decide (r17 = 0)) (∃ c18 v19, Ev (d + 63) 177 [(2, 163), (0, 2)] (c15, v16) none (c18, v19) ∧ Q none (c18, v19)) (∃ r22 c20 v21, Ev (d + 63) 180 [(2, 163), (0, 0), (0, 999)] (c15, v16) (some (0, r22)) (c20, v21) ∧ Q none (c20, up v21 167 27 r22))) → Wp (Ev (d + 63)) 0 (fun _ => 0) 196 Q 0 [(2, 163)] [] c v := by
    intro d c v Q hM hQ
    refine E196_0 ?_
    rw [hM.2.2.1.1]
    refine brbI (fun _ => kI0 (C_isS (d := d + 62) hM hLO.1 1 (by omega) (by decide)) ?_) (fun z => absurd hf z)
    rw [if_neg (fun z => q1 z.2)]
    refine brbI (fun _ => kI0 (C_isS (d := d + 62) hM hLO.1 7 (by omega) (by decide)) ?_) (fun z => absurd rfl z)
    rw [if_neg (fun z => q7 z.2)]
    refine brbI (fun _ => kI0 (C_isS (d := d + 62) hM hLO.1 9 (by omega) (by decide)) ?_) (fun z => absurd rfl z)
    rw [if_neg (fun z => q9 z.2)]
    refine brbN (fun z => absurd rfl z) (fun _ => kI0 (C_isS (d := d + 62) hM hLO.1 10 (by omega) (by decide)) ?_)
    rw [if_neg (fun z => q10 z.2)]
    exact brbI (fun _ => hQ) (fun z => absurd rfl z)
  rcases Decidable.em (s.kd = 11) with q11 | q11
  · have ho1 := Ok0_st (T := T) hLO.1
    have st1 : s.st ≤ (stS T n s).st := by have := hLO.1.2.2.2.1; omega
    have st2 := tn_st (T := T) (lo := 0) (hi := 999) ho1.1
    have eal : (tnS T n 0 999 (stS T n s)).al = s.al := by rw [tnS_al.1]; rfl
    refine ⟨alS (ua s.al 27 (stS T n s).num) (tnS T n 0 999 (stS T n s)), LO_al (T := T) hLO (Ok0_tn ho1.1) (by omega) eal (by omega) (fun q => ⟨hf, by have := vl_num ho1.1 q; right; right; right; left; omega⟩), by show s.st ≤ (tnS T n 0 999 (stS T n s)).st; omega, fun D c v hD hC => ?_, fun D c v hD hM => ?_⟩
    · obtain ⟨d, rfl⟩ : ∃ d, D = d + 63 + 1 := ⟨D - 64, by omega⟩
      refine CV_of loc46 (E46_0 ?_)
      rw [hC.1.1.1]
      have go : ∃ c3 v4, Ev (d + 63) 44 [(2, 37), (0, 11)] (c, v) none (c3, v4) ∧ ∃ r7 c5 v6, Ev (d + 63) 45 [(2, 37), (0, 0), (0, 999)] (c3, v4) (some (0, r7)) (c5, v6) ∧ ((none : Option sV) = none ∧ ∃ v', ((c5, up v6 48 3 r7) : sM) = (c, v') ∧ (LC T n v' (alS (ua s.al 27 (stS T n s).num) (tnS T n 0 999 (stS T n s))) ∧ Off sLn v v')) := by
        refine kN (LC.take (d := d + 61) hC hLO.1 11) (fun v1 h1 => ?_)
        rw [tkS_t hf q11] at h1
        refine kI (LC.takeN (d := d + 60) h1.1 ho1.1 0 999) (fun v2 h2 => ⟨rfl, _, rfl, ?_, ((h1.2.wk (by decide)).tr (h2.2.wk (by decide))).up (by decide)⟩)
        have := LC_wr (a := 48) (i := 3) (k := 27) (x := if (tnS T n 0 999 (stS T n s)).ft = 0 then (stS T n s).vl else 0) (y := (stS T n s).num) h2.1 (by omega) (fun q => ⟨by rw [if_pos q]; exact (vl_num ho1.1 q).1, by right; right; right; left; omega⟩)
        rw [eal] at this
        exact this
      (repeat' (refine brbI (fun z => ?_) (fun z => ?_))) <;> first | (exfalso; omega) | exact go
    · obtain ⟨d, rfl⟩ : ∃ d, D = d + 63 + 1 := ⟨D - 64, by omega⟩
      refine CV_of loc196 (pre d c v _ hM (kI (C_eatsS (d := d + 56) hM hLO.1 11 (by omega) (by decide)) (fun v1 h1 => ?_)))
      have ee : eaS T n 11 s = stS T n s := by unfold eaS; rw [if_pos ⟨hf, q11⟩]
      rw [ee] at h1
      rw [if_pos ⟨hf, q11⟩]
      refine brbI (fun z => absurd z (by decide)) (fun _ => kI (C_takesS (d := d + 56) h1.1 ho1.1 0 999) (fun v2 h2 => ?_))
      have hof : Off [167] v2 (up v2 167 27 (stS T n s).num) := (Off.rf _ v2).up (by decide)
      exact ⟨rfl, _, rfl, h2.1.al hof (by rw [up_ua, h2.1.2.2.2.2, eal]), (h1.2.tr h2.2).tr (FR.o7 hof)⟩
  · refine ⟨flS 2 s, LO_fl hLO (by omega), by rw [flS_p.1]; omega, fun D c v hD hC => ?_, fun D c v hD hM => ?_⟩
    · obtain ⟨d, rfl⟩ : ∃ d, D = d + 63 + 1 := ⟨D - 64, by omega⟩
      refine CV_of loc46 (E46_0 ?_)
      rw [hC.1.1.1]
      (repeat' (refine brbI (fun z => ?_) (fun z => ?_))) <;> first | (exfalso; omega) | exact kN (LC.fail (d := d + 62) hC 2 (by omega)) (fun v1 h1 => ⟨rfl, _, rfl, h1.1, h1.2.wk (by decide)⟩)
    · obtain ⟨d, rfl⟩ : ∃ d, D = d + 63 + 1 := ⟨D - 64, by omega⟩
      refine CV_of loc196 (pre d c v _ hM (kI (C_eatsS (d := d + 56) hM hLO.1 11 (by omega) (by decide)) (fun v1 h1 => ?_)))
      have ee : eaS T n 11 s = s := by unfold eaS; rw [if_neg (fun z => q11 z.2)]
      rw [ee] at h1
      rw [if_neg (fun z => q11 z.2)]
      exact brbI (fun _ => kN (C_failsS (d := d + 62) h1.1 hLO.1 2 (by omega)) (fun v2 h2 => ⟨rfl, _, rfl, h2.1, h1.2.tr h2.2⟩)) (fun z => absurd rfl z)
end Par10
