section Par1
variable {d c : Nat}
/-- where reading stands: next, kind, start, value, number, fault, its place, law, all -/
abbrev PS : Type := Int × Int × Int × Int × Int × Int × Int × Int × (Int → Int)
def PS.nx (s : PS) : Int := s.1
def PS.kd (s : PS) : Int := s.2.1
def PS.st (s : PS) : Int := s.2.2.1
def PS.vl (s : PS) : Int := s.2.2.2.1
def PS.num (s : PS) : Int := s.2.2.2.2.1
def PS.ft (s : PS) : Int := s.2.2.2.2.2.1
def PS.fp (s : PS) : Int := s.2.2.2.2.2.2.1
def PS.law (s : PS) : Int := s.2.2.2.2.2.2.2.1
def PS.al (s : PS) : Int → Int := s.2.2.2.2.2.2.2.2
def stS (T : Int → Int) (n : Int) (s : PS) : PS := (te T n s.nx, tkd T n s.nx, ts T n s.nx, tvl T n s.nx, tnum T n s.nx s.num, s.ft, s.fp, s.law, s.al)
def ftS (x : Int) (s : PS) : PS := (s.nx, s.kd, s.st, s.vl, s.num, x, s.st, s.law, s.al)
def flS (w : Int) (s : PS) : PS := if s.ft = 0 then ftS (if s.kd = 38 then 1 else w) s else s
def tkS (T : Int → Int) (n k : Int) (s : PS) : PS := if s.ft = 0 then (if s.kd = k then stS T n s else flS 2 s) else s
def tnS (T : Int → Int) (n lo hi : Int) (s : PS) : PS := if s.ft = 0 then (if s.kd = 35 then (if lo ≤ s.vl ∧ s.vl ≤ hi then stS T n s else flS 3 s) else flS 2 s) else s
def alS (al : Int → Int) (s : PS) : PS := (s.nx, s.kd, s.st, s.vl, s.num, s.ft, s.fp, s.law, al)
def adS (x : Int) (s : PS) : PS := if s.ft = 0 then alS (ua (ua s.al (854 + s.al 853) x) 853 (s.al 853 + 1)) s else s
def lwS (x : Int) (s : PS) : PS := (s.nx, s.kd, s.st, s.vl, s.num, s.ft, s.fp, x, s.al)
/-- what holds of it -/
def Ok0 (n : Int) (s : PS) : Prop := (0 ≤ n ∧ n ≤ 900) ∧ (0 ≤ s.nx ∧ s.nx ≤ n) ∧ (0 ≤ s.kd ∧ s.kd ≤ 38) ∧ (0 ≤ s.st ∧ s.st ≤ s.nx) ∧ (s.kd = 36 → s.st = n) ∧ (s.kd ≠ 36 → s.st < s.nx) ∧ (s.kd = 35 → (0 ≤ s.vl ∧ s.vl ≤ 999) ∧ s.vl = s.num) ∧ (s.kd ≠ 35 → s.vl = -1) ∧ (0 ≤ s.ft ∧ s.ft ≤ 4)
theorem Ok0_st0 {T : Int → Int} {n : Int} {s : PS} (h1 : 0 ≤ n ∧ n ≤ 900) (h2 : 0 ≤ s.nx ∧ s.nx ≤ n) (h9 : 0 ≤ s.ft ∧ s.ft ≤ 4) : Ok0 n (stS T n s) ∧ s.nx ≤ (stS T n s).st := by
  have e1 := ts_sp (T := T) h2.2
  have e2 := te_sp (T := T) h2.2
  refine ⟨⟨h1, ?_, ?_, ?_, ?_, ?_, ?_, ?_, h9⟩, e1.1⟩
  · show 0 ≤ te T n s.nx ∧ te T n s.nx ≤ n; omega
  · show 0 ≤ tkd T n s.nx ∧ tkd T n s.nx ≤ 38
    unfold tkd
    split
    · omega
    · have := tcd_rng (T := T) h2.2 (by omega); split <;> omega
  · show 0 ≤ ts T n s.nx ∧ ts T n s.nx ≤ te T n s.nx; omega
  · show tkd T n s.nx = 36 → ts T n s.nx = n
    unfold tkd
    split
    · omega
    · have := tcd_rng (T := T) h2.2 (by omega); split <;> omega
  · show tkd T n s.nx ≠ 36 → ts T n s.nx < te T n s.nx
    unfold tkd
    split
    · omega
    · intro _; exact e2.2.2 (by omega)
  · show tkd T n s.nx = 35 → (0 ≤ tvl T n s.nx ∧ tvl T n s.nx ≤ 999) ∧ tvl T n s.nx = tnum T n s.nx s.num
    unfold tkd tvl tnum
    rcases Decidable.em (n ≤ ts T n s.nx) with q | q
    · rw [if_pos q]; omega
    · rw [if_neg q, if_neg q, if_neg q]
      have := tcd_rng (T := T) h2.2 (by omega)
      rcases this with z | z
      · intro _
        rw [if_pos z.2.2.2.1, if_pos z.1, if_pos z.2.1]
        exact ⟨by omega, z.2.2.2.2⟩
      · rw [if_neg (by omega)]; omega
  · show tkd T n s.nx ≠ 35 → tvl T n s.nx = -1
    unfold tkd tvl
    rcases Decidable.em (n ≤ ts T n s.nx) with q | q
    · rw [if_pos q, if_pos q]; omega
    · rw [if_neg q, if_neg q]
      split
      · omega
      · intro _; rfl
theorem Ok0_st {T : Int → Int} {n : Int} {s : PS} (h : Ok0 n s) : Ok0 n (stS T n s) ∧ s.nx ≤ (stS T n s).st := Ok0_st0 h.1 h.2.1 h.2.2.2.2.2.2.2.2
theorem Ok0_fl {n : Int} {s : PS} (h : Ok0 n s) {w : Int} (hw : 1 ≤ w ∧ w ≤ 4) : Ok0 n (flS w s) := by
  unfold flS
  split
  · obtain ⟨h1, h2, h3, h4, h5, h6, h7, h8, h9⟩ := h
    refine ⟨h1, h2, h3, h4, h5, h6, h7, h8, ?_⟩
    show 0 ≤ (if s.kd = 38 then 1 else w) ∧ (if s.kd = 38 then 1 else w) ≤ 4
    split <;> omega
  · exact h
theorem flS_ft {s : PS} {w : Int} (hw : 1 ≤ w) : (flS w s).ft ≠ 0 := by
  unfold flS
  split
  · show (if s.kd = 38 then 1 else w) ≠ 0
    split <;> omega
  · assumption
theorem Ok0_tk {T : Int → Int} {n k : Int} {s : PS} (h : Ok0 n s) : Ok0 n (tkS T n k s) := by
  unfold tkS
  split
  · split
    · exact (Ok0_st h).1
    · exact Ok0_fl h (by omega)
  · exact h
theorem Ok0_tn {T : Int → Int} {n lo hi : Int} {s : PS} (h : Ok0 n s) : Ok0 n (tnS T n lo hi s) := by
  unfold tnS
  split
  · split
    · split
      · exact (Ok0_st h).1
      · exact Ok0_fl h (by omega)
    · exact Ok0_fl h (by omega)
  · exact h
theorem Ok0_ad {n x : Int} {s : PS} (h : Ok0 n s) : Ok0 n (adS x s) := by unfold adS; split <;> exact h
/-- the row of tokens, from the one that comes next -/
def RT (T : Int → Int) (n : Int) (v : sF) (p : Int) : Prop := v 56 1 = n ∧ ∃ m j : Nat, v 56 3 = m ∧ v 56 4 = j ∧ j ≤ m ∧ m ≤ 900 ∧ Rw v T n m ∧ ts T n (ep T n m) = n ∧ (j < m → p = ep T n j) ∧ (j = m → ts T n p = n)
def CS (T : Int → Int) (n : Int) (v : sF) (s : PS) : Prop := (v 56 5 = s.kd ∧ v 56 6 = s.st ∧ v 56 7 = s.vl) ∧ (v 37 2 = s.ft ∧ v 37 3 = (if s.ft = 0 then -1 else s.fp) ∧ (0 ≤ s.law → v 37 5 = s.law)) ∧ ((0 ≤ v 42 1 ∧ v 42 1 ≤ 900) ∧ (s.ft = 0 → v 42 1 = s.al 853 ∧ ∀ k : Int, 0 ≤ k → k < s.al 853 → v 43 k = enc (s.al (854 + k)))) ∧ RT T n v s.nx
def MS (T : Int → Int) (n : Int) (v : sF) (s : PS) : Prop := TM v T n ∧ (v 163 9 = km s.kd ∧ v 163 6 = s.st ∧ v 163 7 = s.nx ∧ v 163 10 = s.num) ∧ (v 163 11 = s.ft ∧ (s.ft ≠ 0 → v 163 12 = s.fp)) ∧ (0 ≤ s.law → v 163 15 = s.law) ∧ v 167 = s.al
def FR (v v' : sF) : Prop := Off [163, 167] v v' ∧ ∀ i : Int, i < 6 ∨ 15 < i → v' 163 i = v 163 i
theorem FR.rf (v : sF) : FR v v := ⟨Off.rf _ v, fun _ _ => rfl⟩
theorem FR.tr {v v1 v2 : sF} (h : FR v v1) (h2 : FR v1 v2) : FR v v2 := ⟨h.1.tr h2.1, fun i hi => (h2.2 i hi).trans (h.2 i hi)⟩
theorem FX.fm {v v1 : sF} (h : FX v v1) : FR v v1 := ⟨h.1.wk (by decide), fun i hi => h.2 i (by omega) (by omega) (by omega) (by omega)⟩
theorem RT.cg {T : Int → Int} {n p : Int} {v v' : sF} (h : RT T n v p) (h56 : ∀ i : Int, i = 1 ∨ i = 3 ∨ i = 4 → v' 56 i = v 56 i) (h57 : v' 57 = v 57) : RT T n v' p := by
  unfold RT Rw at *
  rw [h56 1 (by omega), h56 3 (by omega), h56 4 (by omega), h57]
  exact h
set_option maxRecDepth 100000 in
theorem C_step0 {T : Int → Int} {n : Int} {v : sF} {s : PS} (h : CS T n v s) (hnn : 0 ≤ n ∧ n ≤ 900) (hnx : 0 ≤ s.nx ∧ s.nx ≤ n) : ∃ v', Ev (d + 1) 70 [(2, 56)] (c, v) none (c, v') ∧ (CS T n v' (stS T n s) ∧ Off [56] v v') := by
  obtain ⟨⟨g1, g2, g3⟩, g4, g5, g6, m, j, g7, g8, g9, g10, g11, g12, g13, g14⟩ := h
  have fin : ∀ (a b e : Int) (j2 : Nat), a = ts T n s.nx → b = tkd T n s.nx → e = tvl T n s.nx → j2 ≤ m → (j2 < m → te T n s.nx = ep T n j2) → (j2 = m → ts T n (te T n s.nx) = n) → (CS T n (up (up (up (up v 56 6 a) 56 5 b) 56 7 e) 56 4 (j2 : Int)) (stS T n s) ∧ Off [56] v (up (up (up (up v 56 6 a) 56 5 b) 56 7 e) 56 4 (j2 : Int))) := by
    intro a b e j2 ha hb he hj h1 h2
    have hof : Off [56] v (up (up (up (up v 56 6 a) 56 5 b) 56 7 e) 56 4 (j2 : Int)) := ((((Off.rf _ v).up (by decide)).up (by decide)).up (by decide)).up (by decide)
    refine ⟨⟨⟨?_, ?_, ?_⟩, ?_, ?_, ?_, m, j2, ?_, ?_, hj, g10, ?_, g12, h1, h2⟩, hof⟩
    · rw [up_ne _ (by decide), up_ne _ (by decide), up_same]; exact hb
    · rw [up_ne _ (by decide), up_ne _ (by decide), up_ne _ (by decide), up_same]; exact ha
    · rw [up_ne _ (by decide), up_same]; exact he
    · rw [hof 37 (by decide)]; exact g4
    · rw [hof 42 (by decide), hof 43 (by decide)]; exact g5
    · rw [up_ne _ (by decide), up_ne _ (by decide), up_ne _ (by decide), up_ne _ (by decide)]; exact g6
    · rw [up_ne _ (by decide), up_ne _ (by decide), up_ne _ (by decide), up_ne _ (by decide)]; exact g7
    · rw [up_same]
    · unfold Rw; rw [hof 57 (by decide)]; exact g11
  refine CV_of loc70 (E70_0 ?_)
  rw [g7, g8]
  refine brbI (fun q => rngI (by omega) (rngI (by omega) ⟨rfl, _, rfl, ?_⟩)) (fun q => chkI (inbI (by omega) (by omega)) (chkI (inbI (by omega) (by omega)) ?_))
  · have hjm : j = m := by omega
    have ht := g14 hjm
    rw [g6, Int.add_zero]
    refine fin n _ (-1) j ht.symm ?_ ?_ (by omega) (fun w => absurd w (by omega)) (fun _ => ?_)
    · unfold tkd; rw [if_pos (by omega)]; decide
    · unfold tvl; rw [if_pos (by omega)]
    · have e1 : te T n s.nx = n := by unfold te; rw [if_pos (by omega)]; exact ht
      rw [e1]
      have := ts_sp (T := T) (show n ≤ n by omega)
      omega
  · have hjm : j < m := by omega
    have hp := g13 hjm
    obtain ⟨hr, hlt⟩ := g11 j hjm
    rw [← hp] at hr hlt
    have hs := ts_sp (T := T) hnx.2
    have hcd := tcd_rng (T := T) hnx.2 hlt
    have hm1 : Int.tmod (v 57 (j : Int)) 2048 = tcd T n s.nx := by rw [hr, Int.tmod_eq_emod_of_nonneg (by omega)]; omega
    have hd1 : w32 (Int.tdiv (v 57 (j : Int)) 2048) = ts T n s.nx := by
      rw [hr, Int.tdiv_eq_ediv_of_nonneg (by omega)]
      rw [show (ts T n s.nx * 2048 + tcd T n s.nx) / 2048 = ts T n s.nx by omega]
      exact w32_id (by omega)
    rw [hm1, hd1]
    have hnext : ∀ b e : Int, b = tkd T n s.nx → e = tvl T n s.nx → (CS T n (up (up (up (up v 56 6 (ts T n s.nx)) 56 5 b) 56 7 e) 56 4 ((j : Int) + 1)) (stS T n s) ∧ Off [56] v (up (up (up (up v 56 6 (ts T n s.nx)) 56 5 b) 56 7 e) 56 4 ((j : Int) + 1))) := fun b e hb he => by
      have := fin (ts T n s.nx) b e (j + 1) rfl hb he (by omega) (fun _ => by rw [hp]; rfl) (fun w => by
        have : te T n s.nx = ep T n m := by rw [← w, hp]; rfl
        rw [this]; exact g12)
      rw [show (((j + 1 : Nat)) : Int) = (j : Int) + 1 by omega] at this
      exact this
    have hk : ∀ q : 1000 ≤ tcd T n s.nx, tcd T n s.nx - 1000 = tkd T n s.nx ∧ -1 = tvl T n s.nx := fun q => by
      unfold tkd tvl; rw [if_neg (by omega), if_neg (by omega), if_neg (by omega), if_neg (by omega)]; exact ⟨rfl, rfl⟩
    have hk2 : ∀ q : ¬ 1000 ≤ tcd T n s.nx, 35 = tkd T n s.nx ∧ tcd T n s.nx = tvl T n s.nx := fun q => by
      unfold tkd tvl; rw [if_neg (by omega), if_pos (by omega), if_neg (by omega), if_pos (by omega)]; exact ⟨rfl, rfl⟩
    exact brbI (fun q => rngI (by omega) (brbI (fun q2 => rngI (by omega) ⟨rfl, _, rfl, hnext _ _ (hk q).1 (hk q).2⟩) (fun q2 => absurd q q2))) (fun q => brbI (fun q2 => absurd q2 q) (fun q2 => rngI (by omega) ⟨rfl, _, rfl, hnext _ _ (hk2 q).1 (hk2 q).2⟩))
theorem C_step {T : Int → Int} {n : Int} {v : sF} {s : PS} (h : CS T n v s) (ho : Ok0 n s) : ∃ v', Ev (d + 1) 70 [(2, 56)] (c, v) none (c, v') ∧ (CS T n v' (stS T n s) ∧ Off [56] v v') := C_step0 h ho.1 ho.2.1
theorem C_failR {T : Int → Int} {n : Int} {v : sF} {s : PS} (h : CS T n v s) (w : Int) (hw : 1 ≤ w) : ∃ v', Ev (d + 1) 43 [(2, 37), (0, w)] (c, v) none (c, v') ∧ (CS T n v' (flS w s) ∧ Off [37] v v') := by
  obtain ⟨g1, ⟨g2, g3, g4⟩, g5, g6⟩ := h
  refine CV_of (loc43 w) (E43_0 w ?_)
  rw [g2, g1.1]
  have fin : ∀ x : Int, s.ft = 0 → x ≠ 0 → x = (if s.kd = 38 then 1 else w) → CS T n (up (up v 37 2 x) 37 3 (v 56 6)) (flS w s) ∧ Off [37] v (up (up v 37 2 x) 37 3 (v 56 6)) := by
    intro x hf hx0 hx
    have hof : Off [37] v (up (up v 37 2 x) 37 3 (v 56 6)) := ((Off.rf _ v).up (by decide)).up (by decide)
    have e : flS w s = ftS x s := by unfold flS; rw [if_pos hf, hx]
    rw [e]
    refine ⟨⟨?_, ⟨?_, ?_, ?_⟩, ?_, ?_⟩, hof⟩
    · rw [hof 56 (by decide)]; exact g1
    · rw [up_ne _ (by decide), up_same]; rfl
    · rw [up_same, g1.2.1]
      show s.st = if x = 0 then -1 else s.st
      rw [if_neg hx0]
    · rw [up_ne _ (by decide), up_ne _ (by decide)]; exact g4
    · rw [hof 42 (by decide), hof 43 (by decide)]
      exact ⟨g5.1, fun q => absurd q hx0⟩
    · exact g6.cg (fun i _ => by rw [hof 56 (by decide)]) (hof 57 (by decide))
  refine brbN (fun q => ⟨rfl, _, rfl, ?_⟩) (fun q => brbN (fun q2 => ⟨rfl, _, rfl, fin _ q (by omega) (by rw [if_neg q2])⟩) (fun q2 => ⟨rfl, _, rfl, fin _ q (by omega) (by rw [if_pos q2])⟩))
  have e : flS w s = s := by unfold flS; rw [if_neg q]
  rw [e]
  exact ⟨⟨g1, ⟨g2, g3, g4⟩, g5, g6⟩, Off.rf _ v⟩
theorem C_take {T : Int → Int} {n : Int} {v : sF} {s : PS} (h : CS T n v s) (ho : Ok0 n s) (k : Int) : ∃ v', Ev (d + 2) 44 [(2, 37), (0, k)] (c, v) none (c, v') ∧ (CS T n v' (tkS T n k s) ∧ Off [37, 56] v v') := by
  refine CV_of (loc44 k) (E44_0 k ?_)
  have h5 := h.1.1
  have h2 := h.2.1.1
  rw [h5, h2]
  refine brbI (fun q => brbN (fun q2 => ⟨rfl, _, rfl, ?_⟩) (fun q2 => ?_)) (fun q => ?_)
  · unfold tkS; rw [if_neg q2]; exact ⟨h, Off.rf _ v⟩
  · obtain ⟨v1, e1, e2, e3⟩ := C_step (d := d) (c := c) h ho
    refine ⟨c, v1, e1, rfl, _, rfl, ?_, e3.wk (by decide)⟩
    unfold tkS; rw [if_pos q2, if_pos q]; exact e2
  · obtain ⟨v1, e1, e2, e3⟩ := C_failR (d := d) (c := c) h 2 (by omega)
    refine ⟨c, v1, e1, ?_⟩
    have hf := e2.2.1.1
    rw [hf]
    refine brbN (fun q2 => ⟨rfl, _, rfl, ?_, e3.wk (by decide)⟩) (fun q2 => absurd q2 (flS_ft (by omega)))
    unfold tkS
    rcases Decidable.em (s.ft = 0) with z | z
    · rw [if_pos z, if_neg q]; exact e2
    · rw [if_neg z]
      have : flS 2 s = s := by unfold flS; rw [if_neg z]
      rw [this] at e2; exact e2
theorem C_takeN {T : Int → Int} {n : Int} {v : sF} {s : PS} (h : CS T n v s) (ho : Ok0 n s) (lo hi : Int) : ∃ v', Ev (d + 3) 45 [(2, 37), (0, lo), (0, hi)] (c, v) (some (0, if (tnS T n lo hi s).ft = 0 then s.vl else 0)) (c, v') ∧ (CS T n v' (tnS T n lo hi s) ∧ Off [37, 56] v v') := by
  refine CI_of (loc45 lo hi) (E45_0 lo hi ?_)
  have h5 := h.1.1
  have h7 := h.1.2.2
  rw [h5, h7]
  have fin : ∀ v1, CS T n v1 (tnS T n lo hi s) → Off [37, 56] v v1 → brb (!decide (v1 37 2 = 0)) ((some (0, 0) : Option sV) = some (0, if (tnS T n lo hi s).ft = 0 then s.vl else 0) ∧ ∃ v', ((c, v1) : sM) = (c, v') ∧ (CS T n v' (tnS T n lo hi s) ∧ Off [37, 56] v v')) ((some (0, s.vl) : Option sV) = some (0, if (tnS T n lo hi s).ft = 0 then s.vl else 0) ∧ ∃ v', ((c, v1) : sM) = (c, v') ∧ (CS T n v' (tnS T n lo hi s) ∧ Off [37, 56] v v')) := by
    intro v1 a1 a2
    rw [a1.2.1.1]
    exact brbN (fun q => ⟨by rw [if_neg q], _, rfl, a1, a2⟩) (fun q => ⟨by rw [if_pos q], _, rfl, a1, a2⟩)
  have hfl : ∀ w : Int, 1 ≤ w → tkS T n 35 (flS w s) = flS w s := fun w hw => by unfold tkS; rw [if_neg (flS_ft hw)]
  refine brbN (fun q => ?_) (fun q => brbI (fun q2 => ?_) (fun q2 => brbI (fun q3 => ?_) (fun q3 => ?_)))
  · obtain ⟨v1, e1, e2, e3⟩ := C_take (d := d) (c := c) h ho 35
    refine ⟨c, v1, e1, fin v1 ?_ e3⟩
    have : tkS T n 35 s = tnS T n lo hi s := by unfold tkS tnS; rw [if_neg q, if_neg q]
    rw [← this]; exact e2
  · obtain ⟨v1, e1, e2, e3⟩ := C_failR (d := d + 1) (c := c) h 3 (by omega)
    obtain ⟨v2, f1, f2, f3⟩ := C_take (d := d) (c := c) e2 (Ok0_fl ho (by omega)) 35
    refine ⟨c, v1, e1, c, v2, f1, fin v2 ?_ ((e3.wk (by decide)).tr f3)⟩
    rw [hfl 3 (by omega)] at f2
    have : flS 3 s = tnS T n lo hi s := by
      unfold tnS
      rcases Decidable.em (s.ft = 0) with z | z
      · rw [if_pos z, if_pos q, if_neg (by omega)]
      · rw [if_neg z]; unfold flS; rw [if_neg z]
    rw [← this]; exact f2
  · obtain ⟨v1, e1, e2, e3⟩ := C_take (d := d) (c := c) h ho 35
    refine ⟨c, v1, e1, fin v1 ?_ e3⟩
    have : tkS T n 35 s = tnS T n lo hi s := by unfold tkS tnS; rw [if_pos q, if_pos q, if_pos (show lo ≤ s.vl ∧ s.vl ≤ hi by omega)]
    rw [← this]; exact e2
  · obtain ⟨v1, e1, e2, e3⟩ := C_failR (d := d + 1) (c := c) h 3 (by omega)
    obtain ⟨v2, f1, f2, f3⟩ := C_take (d := d) (c := c) e2 (Ok0_fl ho (by omega)) 35
    refine ⟨c, v1, e1, c, v2, f1, fin v2 ?_ ((e3.wk (by decide)).tr f3)⟩
    rw [hfl 3 (by omega)] at f2
    have : flS 3 s = tnS T n lo hi s := by
      unfold tnS
      rcases Decidable.em (s.ft = 0) with z | z
      · rw [if_pos z, if_pos q, if_neg (by omega)]
      · rw [if_neg z]; unfold flS; rw [if_neg z]
    rw [← this]; exact f2
theorem C_addL {T : Int → Int} {n x y : Int} {v : sF} {s : PS} (h : CS T n v s) (hy : s.ft = 0 → y = enc x) (hb : s.ft = 0 → 0 ≤ s.al 853 ∧ s.al 853 < 900) : ∃ v', Ev (d + 1) 23 [(2, 42), (0, y)] (c, v) none (c, v') ∧ (CS T n v' (adS x s) ∧ Off [42, 43] v v') := by
  obtain ⟨g1, g2, ⟨g3, g4⟩, g5⟩ := h
  refine CV_of (loc23 y) (E23_0 y ?_)
  refine brbI (fun q => ⟨rfl, _, rfl, ?_⟩) (fun q => chkI (inbI (by omega) (by omega)) (rngI (by omega) ⟨rfl, _, rfl, ?_⟩))
  · have e : adS x s = s := by
      unfold adS
      split
      · rename_i z; have := (g4 z).1; have := hb z; omega
      · rfl
    rw [e]
    exact ⟨⟨g1, g2, ⟨g3, g4⟩, g5⟩, Off.rf _ v⟩
  · have hof : Off [42, 43] v (up (up v 43 (v 42 1) y) 42 1 (v 42 1 + 1)) := ((Off.rf _ v).up (by decide)).up (by decide)
    have a1 : (adS x s).kd = s.kd ∧ (adS x s).st = s.st ∧ (adS x s).vl = s.vl ∧ (adS x s).ft = s.ft ∧ (adS x s).fp = s.fp ∧ (adS x s).law = s.law ∧ (adS x s).nx = s.nx := by
      unfold adS; split <;> exact ⟨rfl, rfl, rfl, rfl, rfl, rfl, rfl⟩
    obtain ⟨b1, b2, b3, b4, b5, b6, b7⟩ := a1
    refine ⟨⟨?_, ?_, ⟨?_, ?_⟩, ?_⟩, hof⟩
    · rw [hof 56 (by decide), b1, b2, b3]; exact g1
    · rw [hof 37 (by decide), b4, b5, b6]; exact g2
    · rw [up_same]; omega
    · rw [b4]
      intro z
      have hh := g4 z
      have hbz := hb z
      have e : (adS x s).al = ua (ua s.al (854 + s.al 853) x) 853 (s.al 853 + 1) := by unfold adS; rw [if_pos z]; rfl
      rw [e, ua_s, up_same]
      refine ⟨by omega, fun k k0 k1 => ?_⟩
      rw [up_off 43 (by decide), ua_n (by omega)]
      rcases Decidable.em (k = s.al 853) with w | w
      · rw [w, ua_s, hh.1, up_same, hy z]
      · rw [ua_n (by omega), up_ne _ (by omega)]
        exact hh.2 k k0 (by omega)
    · rw [b7]
      exact g5.cg (fun i _ => by rw [hof 56 (by decide)]) (hof 57 (by decide))
theorem C_addR {T : Int → Int} {n x k : Int} {v : sF} {s : PS} (h : CS T n v s) (hy : s.ft = 0 → 1000 + k = enc x) (hk : 0 ≤ k ∧ k ≤ 38) (hb : s.ft = 0 → 0 ≤ s.al 853 ∧ s.al 853 < 900) : ∃ v', Ev (d + 2) 52 [(2, 37), (0, k)] (c, v) none (c, v') ∧ (CS T n v' (adS x s) ∧ Off [42, 43] v v') := by
  obtain ⟨v1, e1, e2⟩ := C_addL (d := d) (c := c) h hy hb
  exact CV_of (loc52 k) (E52_0 k (rngI (by omega) ⟨c, v1, e1, rfl, _, rfl, e2⟩))
theorem km_inj {a b : Int} (ha : 0 ≤ a ∧ a ≤ 38) (hb : 0 ≤ b ∧ b ≤ 38) (h : km a = km b) : a = b := by
  have key : ∀ a b : Fin 39, km ((a.val : Nat) : Int) = km ((b.val : Nat) : Int) → a = b := by decide +kernel
  have e := key ⟨a.toNat, by omega⟩ ⟨b.toNat, by omega⟩ (by rw [show ((a.toNat : Nat) : Int) = a by omega, show ((b.toNat : Nat) : Int) = b by omega]; exact h)
  have := congrArg Fin.val e
  simp only at this
  omega
theorem MS.fx {T : Int → Int} {n : Int} {v v' : sF} {s s' : PS} (h : MS T n v s) (hf : FX v v') (e1 : v' 163 9 = km s'.kd ∧ v' 163 6 = s'.st ∧ v' 163 7 = s'.nx ∧ v' 163 10 = s'.num) (e2 : s'.ft = s.ft ∧ s'.fp = s.fp ∧ s'.law = s.law ∧ s'.al = s.al) : MS T n v' s' := by
  obtain ⟨g1, g2, g3, g4, g5⟩ := h
  refine ⟨g1.fx hf, e1, ?_, ?_, ?_⟩
  · rw [hf.2 11 (by decide) (by decide) (by decide) (by decide), hf.2 12 (by decide) (by decide) (by decide) (by decide), e2.1, e2.2.1]; exact g3
  · rw [hf.2 15 (by decide) (by decide) (by decide) (by decide), e2.2.2.1]; exact g4
  · rw [hf.1 167 (by decide), e2.2.2.2]; exact g5
theorem C_nextS {T : Int → Int} {n : Int} {v : sF} {s : PS} (h : MS T n v s) (ho : Ok0 n s) : ∃ v', Ev (d + 6) 176 [(2, 163)] (c, v) none (c, v') ∧ (MS T n v' (stS T n s) ∧ FR v v') := by
  obtain ⟨v1, e1, e2, e3, e4, e5, e6⟩ := C_next (d := d) (c := c) h.1 ho.2.1 h.2.1.2.2.1 h.2.1.2.2.2
  exact ⟨v1, e1, h.fx e2 ⟨e5, e3, e4, e6⟩ ⟨rfl, rfl, rfl, rfl⟩, e2.fm⟩
theorem C_failsS {T : Int → Int} {n : Int} {v : sF} {s : PS} (h : MS T n v s) (ho : Ok0 n s) (w : Int) (hw : 1 ≤ w) : ∃ v', Ev (d + 1) 177 [(2, 163), (0, w)] (c, v) none (c, v') ∧ (MS T n v' (flS w s) ∧ FR v v') := by
  obtain ⟨g1, g2, g3, g4, g5⟩ := h
  refine CV_of (loc177 w) (E177_0 w ?_)
  rw [g3.1, g2.1]
  have fin : ∀ x : Int, s.ft = 0 → x ≠ 0 → x = (if s.kd = 38 then 1 else w) → MS T n (up (up v 163 11 x) 163 12 (v 163 6)) (flS w s) ∧ FR v (up (up v 163 11 x) 163 12 (v 163 6)) := by
    intro x hf hx0 hx
    have e : flS w s = ftS x s := by unfold flS; rw [if_pos hf, hx]
    have hof : Off [163] v (up (up v 163 11 x) 163 12 (v 163 6)) := ((Off.rf _ v).up (by decide)).up (by decide)
    have hi : ∀ i : Int, i ≠ 11 → i ≠ 12 → up (up v 163 11 x) 163 12 (v 163 6) 163 i = v 163 i := fun i i1 i2 => by rw [up_ne _ i2, up_ne _ i1]
    rw [e]
    refine ⟨⟨⟨?_, g1.2.1, g1.2.2.1, ?_⟩, ⟨?_, ?_, ?_, ?_⟩, ⟨?_, ?_⟩, ?_, ?_⟩, ⟨hof.wk (by decide), fun i i1 => hi i (by omega) (by omega)⟩⟩
    · rw [hi _ (by decide) (by decide)]; exact g1.1
    · rw [hof 166 (by decide)]; exact g1.2.2.2
    · rw [hi _ (by decide) (by decide)]; exact g2.1
    · rw [hi _ (by decide) (by decide)]; exact g2.2.1
    · rw [hi _ (by decide) (by decide)]; exact g2.2.2.1
    · rw [hi _ (by decide) (by decide)]; exact g2.2.2.2
    · rw [up_ne _ (by decide), up_same]; rfl
    · intro _; rw [up_same]; exact g2.2.1
    · rw [hi _ (by decide) (by decide)]; exact g4
    · rw [hof 167 (by decide)]; exact g5
  have h26 : km s.kd = 26 ↔ s.kd = 38 := ⟨fun q => km_inj ho.2.2.1 (by omega) (q.trans (by decide)), fun q => by rw [q]; decide⟩
  refine brbI (fun q => brbN (fun q2 => ⟨rfl, _, rfl, fin _ q (by omega) (by rw [if_neg (fun z => q2 (h26.2 z))])⟩) (fun q2 => ⟨rfl, _, rfl, fin _ q (by omega) (by rw [if_pos (h26.1 q2)])⟩)) (fun q => ⟨rfl, _, rfl, ?_⟩)
  have e : flS w s = s := by unfold flS; rw [if_neg q]
  rw [e]
  exact ⟨⟨g1, g2, g3, g4, g5⟩, FR.rf v⟩
theorem C_isS {T : Int → Int} {n : Int} {v : sF} {s : PS} (h : MS T n v s) (ho : Ok0 n s) {k' : Int} (k : Int) (hk : 0 ≤ k ∧ k ≤ 38) (e : k' = km k) : Ev (d + 1) 178 [(2, 163), (0, k')] (c, v) (some (0, if s.ft = 0 ∧ s.kd = k then 1 else 0)) (c, v) := by
  subst e
  have h26 : km s.kd = km k ↔ s.kd = k := ⟨fun q => km_inj ho.2.2.1 hk q, fun q => by rw [q]⟩
  have h11 := h.2.2.1.1
  have h9 := h.2.1.1
  refine Ev_of (loc178 _) (E178_0 _ ?_)
  rw [h11, h9]
  exact brbN (fun q => ⟨by rw [if_neg (fun z => q z.1)], rfl⟩) (fun q => brbN (fun q2 => ⟨by rw [if_neg (fun z => q2 (h26.2 z.2))], rfl⟩) (fun q2 => ⟨by rw [if_pos ⟨q, h26.1 q2⟩], rfl⟩))
def eaS (T : Int → Int) (n k : Int) (s : PS) : PS := if s.ft = 0 ∧ s.kd = k then stS T n s else s
theorem C_eatsS {T : Int → Int} {n : Int} {v : sF} {s : PS} (h : MS T n v s) (ho : Ok0 n s) {k' : Int} (k : Int) (hk : 0 ≤ k ∧ k ≤ 38) (e : k' = km k) : ∃ v', Ev (d + 7) 179 [(2, 163), (0, k')] (c, v) (some (0, if s.ft = 0 ∧ s.kd = k then 1 else 0)) (c, v') ∧ (MS T n v' (eaS T n k s) ∧ FR v v') := by
  refine CI_of (loc179 _) (E179_0 _ ⟨_, c, v, C_isS (d := d + 5) h ho k hk e, ?_⟩)
  unfold eaS
  rcases Decidable.em (s.ft = 0 ∧ s.kd = k) with q | q
  · rw [if_pos q, if_pos q]
    obtain ⟨v1, e1, e2⟩ := C_nextS (d := d) (c := c) h ho
    exact brbN (fun _ => ⟨c, v1, e1, rfl, _, rfl, e2⟩) (fun w => absurd w (by decide))
  · rw [if_neg q, if_neg q]
    exact brbN (fun w => absurd rfl w) (fun _ => ⟨rfl, _, rfl, h, FR.rf v⟩)
theorem C_takesS {T : Int → Int} {n : Int} {v : sF} {s : PS} (h : MS T n v s) (ho : Ok0 n s) (lo hi : Int) : ∃ v', Ev (d + 7) 180 [(2, 163), (0, lo), (0, hi)] (c, v) (some (0, s.num)) (c, v') ∧ (MS T n v' (tnS T n lo hi s) ∧ FR v v') := by
  refine CI_of (loc180 _ _) (E180_0 _ _ ⟨_, c, v, C_isS (d := d + 5) h ho 35 (by omega) (by decide), ?_⟩)
  rcases Decidable.em (s.ft = 0 ∧ s.kd = 35) with q | q
  · rw [if_pos q]
    have hvl := ho.2.2.2.2.2.2.1 q.2
    have h10 := h.2.1.2.2.2
    have h11 := h.2.2.1.1
    refine brbN (fun _ => ?_) (fun w => absurd w (by decide))
    rw [h10]
    refine ⟨_, c, v, C_within (d := d + 5) _ _ _, ?_⟩
    rcases Decidable.em (lo ≤ s.num ∧ s.num ≤ hi) with z | z
    · rw [if_pos z]
      refine brbN (fun _ => ?_) (fun w => absurd w (by decide))
      rw [h11]
      obtain ⟨v1, e1, e2, e3⟩ := C_nextS (d := d) (c := c) h ho
      refine brbN (fun w => absurd q.1 w) (fun _ => ⟨c, v1, e1, by rw [h10], _, rfl, ?_, e3⟩)
      unfold tnS; rw [if_pos q.1, if_pos q.2, if_pos (by omega)]; exact e2
    · rw [if_neg z]
      refine brbN (fun w => absurd rfl w) (fun _ => ?_)
      obtain ⟨v1, e1, e2, e3⟩ := C_failsS (d := d + 5) (c := c) h ho 3 (by omega)
      refine ⟨c, v1, e1, ?_⟩
      have f11 := e2.2.2.1.1
      have f10 := e2.2.1.2.2.2
      rw [f11]
      refine brbN (fun w => ⟨?_, _, rfl, ?_, e3⟩) (fun w => absurd w (flS_ft (by omega)))
      · rw [f10]; unfold flS; rw [if_pos q.1]; rfl
      · unfold tnS; rw [if_pos q.1, if_pos q.2, if_neg (by omega)]; exact e2
  · rw [if_neg q]
    refine brbN (fun w => absurd rfl w) (fun _ => ?_)
    obtain ⟨v1, e1, e2, e3⟩ := C_failsS (d := d + 5) (c := c) h ho 2 (by omega)
    refine ⟨c, v1, e1, ?_⟩
    have f11 := e2.2.2.1.1
    have f10 := e2.2.1.2.2.2
    rw [f11]
    refine brbN (fun w => ⟨?_, _, rfl, ?_, e3⟩) (fun w => absurd w (flS_ft (by omega)))
    · rw [f10]; unfold flS; split <;> rfl
    · unfold tnS
      rcases Decidable.em (s.ft = 0) with z | z
      · rw [if_pos z, if_neg (fun z2 => q ⟨z, z2⟩)]; exact e2
      · rw [if_neg z]
        have : flS 2 s = s := by unfold flS; rw [if_neg z]
        rw [this] at e2; exact e2
theorem MS.al {T : Int → Int} {n : Int} {v v' : sF} {s : PS} (h : MS T n v s) {al : Int → Int} (ho : Off [167] v v') (ha : v' 167 = al) : MS T n v' (alS al s) := by
  obtain ⟨g1, g2, g3, g4, g5⟩ := h
  refine ⟨⟨?_, g1.2.1, g1.2.2.1, ?_⟩, ?_, ?_, ?_, ha⟩
  · rw [ho 163 (by decide)]; exact g1.1
  · rw [ho 166 (by decide)]; exact g1.2.2.2
  · rw [ho 163 (by decide)]; exact g2
  · rw [ho 163 (by decide)]; exact g3
  · rw [ho 163 (by decide)]; exact g4
theorem FR.o7 {v v' : sF} (h : Off [167] v v') : FR v v' := ⟨h.wk (by decide), fun i _ => by rw [h 163 (by decide)]⟩
theorem C_codesS {T : Int → Int} {n x : Int} {v : sF} {s : PS} (h : MS T n v s) (hb : s.ft = 0 → 0 ≤ s.al 853 ∧ s.al 853 < 900) : ∃ v', Ev (d + 1) 183 [(2, 163), (0, x)] (c, v) none (c, v') ∧ (MS T n v' (adS x s) ∧ FR v v') := by
  have h11 := h.2.2.1.1
  have h67 := h.2.2.2.2
  refine CV_of (loc183 x) (E183_0 x ?_)
  rw [h11, show v 167 853 = s.al 853 by rw [h67]]
  refine brbI (fun q => ?_) (fun q => ⟨rfl, _, rfl, ?_⟩)
  · have hbq := hb q
    rw [up_ne _ (by omega), show v 167 853 = s.al 853 by rw [h67]]
    have hof : Off [167] v (up (up v 167 (854 + s.al 853) x) 167 853 (s.al 853 + 1)) := ((Off.rf _ v).up (by decide)).up (by decide)
    refine rngI (by omega) (chkI (inbI (by omega) (by omega)) (rngI (by omega) ⟨rfl, _, rfl, ?_, FR.o7 hof⟩))
    unfold adS; rw [if_pos q]
    exact h.al hof (by rw [up_ua, up_ua, h67])
  · unfold adS; rw [if_neg q]; exact ⟨h, FR.rf v⟩
end Par1
