section Par8
variable {c : Nat}
theorem LC_wr {T : Int → Int} {n : Int} {v : sF} {s : PS} {a i k x y : Int} (h : LC T n v s) (ha : (39 ≤ a ∧ a ≤ 41) ∨ (48 ≤ a ∧ a ≤ 51)) (hm : s.ft = 0 → x = y ∧ ((a = 39 ∧ 0 ≤ i ∧ i < 6 ∧ k = 9 + i) ∨ (a = 40 ∧ 0 ≤ i ∧ i < 6 ∧ k = 15 + i) ∨ (a = 41 ∧ 0 ≤ i ∧ i < 6 ∧ k = 21 + i) ∨ (a = 48 ∧ i = 3 ∧ k = 27) ∨ (a = 49 ∧ 0 ≤ i ∧ i < 6 ∧ k = 30 + i) ∨ (a = 50 ∧ 0 ≤ i ∧ i < 6 ∧ k = 36 + i) ∨ (a = 51 ∧ 0 ≤ i ∧ i < 36 ∧ k = 42 + i))) : LC T n (up v a i x) (alS (ua s.al k y) s) := by
  refine ⟨h.1.al (fun b hb => up_off b (by omega)) (fun q j hj => ua_n (by have := hm q; omega)), fun q => ?_, ?_⟩
  · have hq : s.ft = 0 := q
    obtain ⟨e, hmm⟩ := hm hq
    rw [e]
    exact CT_up (h.2.1 hq) (Or.inr hmm)
  · unfold DB; rw [up_off 38 (by omega)]; exact h.2.2
theorem sLn_up {v v1 : sF} {a i x : Int} (h : Off sLn v v1) (ha : a ∈ sLn) : Off sLn v (up v1 a i x) := h.up ha
def fgB (k : Int) : Int := if k = 3 then 9 else if k = 4 then 15 else if k = 5 then 36 else 21
def fgH (al : Int → Int) (k : Int) : Int := if k = 3 then al 1 - 1 else if k = 6 then 10 else 9
def fgS (T : Int → Int) (n p : Int) (s : PS) : PS := alS (ua s.al (fgB s.kd + p) s.num) s
def fg1 (T : Int → Int) (n p : Int) (s : PS) : PS := alS (ua s.al (fgB s.kd + p) (stS T n s).num) (tnS T n 0 (fgH s.al s.kd) (stS T n s))
theorem vl_num {T : Int → Int} {n lo hi : Int} {s : PS} (ho : Ok0 n s) (h : (tnS T n lo hi s).ft = 0) : s.vl = s.num ∧ lo ≤ s.num ∧ s.num ≤ hi := by
  obtain ⟨h1, h2, h3⟩ := tnS_al.2.1 h
  have := ho.2.2.2.2.2.2.1 h2
  omega
theorem LO_al {T : Int → Int} {n k x : Int} {s s3 : PS} (hLO : LO n s) (ho3 : Ok0 n s3) (hst : s.st ≤ s3.st) (hal : s3.al = s.al) (hk : 9 ≤ k ∧ k < 78) (hf : s3.ft = 0 → s.ft = 0 ∧ ((9 ≤ k ∧ k < 15 ∧ 0 ≤ x ∧ x < s.al 1) ∨ (15 ≤ k ∧ k < 21 ∧ 0 ≤ x ∧ x ≤ 9) ∨ (21 ≤ k ∧ k < 27 ∧ 0 ≤ x ∧ x ≤ 10) ∨ (k = 27 ∧ 0 ≤ x ∧ x ≤ 999) ∨ (30 ≤ k ∧ k < 36 ∧ 0 ≤ x ∧ x < s.al 1) ∨ (36 ≤ k ∧ k < 42 ∧ 0 ≤ x ∧ x ≤ 9) ∨ (42 ≤ k ∧ k < 78 ∧ 0 ≤ x ∧ x ≤ 9))) : LO n (alS (ua s.al k x) s3) := by
  obtain ⟨l1, l2, l3, l4⟩ := hLO
  refine ⟨ho3, fun q => ?_, ?_, ?_⟩
  · have hq : s3.ft = 0 := q
    obtain ⟨f1, f2⟩ := hf hq
    obtain ⟨w1, w2⟩ := l2 f1
    refine ⟨WF_up w1 (Or.inr (Or.inr f2)), ?_⟩
    show ua s.al k x 853 ≤ s3.st
    rw [ua_n (by omega)]; omega
  · show 0 ≤ ua s.al k x 0 ∧ ua s.al k x 0 ≤ s3.st + 1
    rw [ua_n (by omega)]; omega
  · show 0 ≤ ua s.al k x 2 ∧ ua s.al k x 2 ≤ 6
    rw [ua_n (by omega)]; omega
theorem fg_LO {T : Int → Int} {n p : Int} {s : PS} (hLO : LO n s) (hf : s.ft = 0) (hk : 3 ≤ s.kd ∧ s.kd ≤ 6) (hp : 0 ≤ p ∧ p < 6) : LO n (fg1 T n p s) ∧ s.st + 1 ≤ (fg1 T n p s).st ∧ (fg1 T n p s).al 2 = s.al 2 := by
  have ho1 := Ok0_st (T := T) hLO.1
  have hlt := hLO.1.2.2.2.2.2.1 (by omega)
  have hst := tn_st (T := T) (lo := 0) (hi := fgH s.al s.kd) ho1.1
  have hB : fgB s.kd = 9 ∨ fgB s.kd = 15 ∨ fgB s.kd = 36 ∨ fgB s.kd = 21 := by unfold fgB; (repeat' split) <;> omega
  refine ⟨LO_al (T := T) hLO (Ok0_tn ho1.1) (by omega) tnS_al.1 (by omega) (fun q => ⟨hf, ?_⟩), ?_, ?_⟩
  · have hv := vl_num ho1.1 q
    unfold fgH at hv
    unfold fgB
    rcases (show s.kd = 3 ∨ s.kd = 4 ∨ s.kd = 5 ∨ s.kd = 6 by omega) with e | e | e | e <;> rw [e] at hv ⊢ <;> simp at hv ⊢ <;> omega
  · show s.st + 1 ≤ (tnS T n 0 (fgH s.al s.kd) (stS T n s)).st; omega
  · show ua s.al (fgB s.kd + p) _ 2 = s.al 2
    rw [ua_n (by omega)]
theorem C_isFlag (k : Int) {d : Nat} {v : sF} : Ev (d + 1) 48 [(0, k)] (c, v) (some (0, if 3 ≤ k ∧ k ≤ 6 then 1 else 0)) (c, v) := by
  refine Ev_of (loc48 k) (E48_0 k ?_)
  exact brbI (fun _ => ⟨by rw [if_pos (by omega)], rfl⟩) (fun _ => brbI (fun _ => ⟨by rw [if_pos (by omega)], rfl⟩) (fun _ => brbI (fun _ => ⟨by rw [if_pos (by omega)], rfl⟩) (fun _ => brbN (fun _ => ⟨by rw [if_neg (by omega)], rfl⟩) (fun _ => ⟨by rw [if_pos (by omega)], rfl⟩))))
theorem C_readFlag {T : Int → Int} {n p : Int} {d : Nat} {v : sF} {s : PS} (h : LC T n v s) (hLO : LO n s) (hf : s.ft = 0) (hk : 3 ≤ s.kd ∧ s.kd ≤ 6) (hp : 0 ≤ p ∧ p < 6) : ∃ v', Ev (d + 4) 49 [(2, 37), (0, p)] (c, v) none (c, v') ∧ (LC T n v' (fg1 T n p s) ∧ Off sLn v v') := by
  have ho1 := Ok0_st (T := T) hLO.1
  refine CV_of (loc49 p) (E49_0 p ?_)
  rw [h.1.1.1]
  refine kN (LC.take (d := d + 1) h hLO.1 s.kd) (fun v1 h1 => ?_)
  rw [tkS_t hf rfl] at h1
  have hct := h1.1.2.1 hf
  have fin : ∀ (hi a : Int) (w : sF), hi = fgH s.al s.kd → ((a = 39 ∧ fgB s.kd = 9) ∨ (a = 40 ∧ fgB s.kd = 15) ∨ (a = 41 ∧ fgB s.kd = 21) ∨ (a = 50 ∧ fgB s.kd = 36)) → LC T n w (tnS T n 0 hi (stS T n s)) → Off [37, 56] v1 w → LC T n (up w a p (if (tnS T n 0 hi (stS T n s)).ft = 0 then (stS T n s).vl else 0)) (fg1 T n p s) ∧ Off sLn v (up w a p (if (tnS T n 0 hi (stS T n s)).ft = 0 then (stS T n s).vl else 0)) := by
    intro hi a w e ha hw how
    subst e
    refine ⟨?_, ((h1.2.wk (by decide)).tr (how.wk (by decide))).up ?_⟩
    · have := LC_wr (a := a) (i := p) (k := fgB s.kd + p) (x := (if (tnS T n 0 (fgH s.al s.kd) (stS T n s)).ft = 0 then (stS T n s).vl else 0)) (y := (stS T n s).num) hw (by omega) (fun q => ⟨by rw [if_pos q]; exact (vl_num ho1.1 q).1, by omega⟩)
      rw [tnS_al.1] at this
      exact this
    · rcases ha with q | q | q | q <;> rw [q.1] <;> decide
  refine brbN (fun q3 => brbN (fun q4 => brbN (fun q5 => ?_) (fun q5 => ?_)) (fun q4 => ?_)) (fun q3 => ?_)
  · refine kI (LC.takeN (d := d) h1.1 ho1.1 0 10) (fun w hw => chkI (inbI hp.1 hp.2) ⟨rfl, _, rfl, fin 10 41 w ?_ ?_ hw.1 hw.2⟩)
    · unfold fgH; rw [if_neg q3, if_pos (by omega)]
    · right; right; left; refine ⟨rfl, ?_⟩; unfold fgB; rw [if_neg q3, if_neg q4, if_neg q5]
  · refine kI (LC.takeN (d := d) h1.1 ho1.1 0 9) (fun w hw => chkI (inbI hp.1 hp.2) ⟨rfl, _, rfl, fin 9 50 w ?_ ?_ hw.1 hw.2⟩)
    · unfold fgH; rw [if_neg q3, if_neg (by omega)]
    · right; right; right; refine ⟨rfl, ?_⟩; unfold fgB; rw [if_neg q3, if_neg q4, if_pos q5]
  · refine kI (LC.takeN (d := d) h1.1 ho1.1 0 9) (fun w hw => chkI (inbI hp.1 hp.2) ⟨rfl, _, rfl, fin 9 40 w ?_ ?_ hw.1 hw.2⟩)
    · unfold fgH; rw [if_neg q3, if_neg (by omega)]
    · right; left; refine ⟨rfl, ?_⟩; unfold fgB; rw [if_neg q3, if_pos q4]
  · have e38 : v1 38 0 = s.al 1 := hct.1.1
    rw [e38]
    have hw1 := (hLO.2.1 hf).1.1
    refine rngI (by omega) (kI (LC.takeN (d := d) h1.1 ho1.1 0 (s.al 1 - 1)) (fun w hw => chkI (inbI hp.1 hp.2) ⟨rfl, _, rfl, fin _ 39 w ?_ ?_ hw.1 hw.2⟩))
    · unfold fgH; rw [if_pos q3]
    · left; refine ⟨rfl, ?_⟩; unfold fgB; rw [if_pos q3]
theorem M_readFlag {T : Int → Int} {n p : Int} {d : Nat} {v : sF} {s : PS} (h : MS T n v s) (hLO : LO n s) (hf : s.ft = 0) (hk : 3 ≤ s.kd ∧ s.kd ≤ 6) (hp : 0 ≤ p ∧ p < 6) : ∃ v', Ev (d + 8) 192 [(2, 163), (0, p)] (c, v) (some (0, if (fg1 T n p s).ft = 0 then 1 else 0)) (c, v') ∧ (MS T n v' (fg1 T n p s) ∧ FR v v') := by
  have ho1 := Ok0_st (T := T) hLO.1
  have hw1 := (hLO.2.1 hf).1.1
  have eft : (fg1 T n p s).ft = (tnS T n 0 (fgH s.al s.kd) (stS T n s)).ft := rfl
  have fin : ∀ (hi B : Int) (w w2 : sF), hi = fgH s.al s.kd → B = fgB s.kd → FR v w → MS T n w2 (tnS T n 0 hi (stS T n s)) → FR w w2 → brb (!decide (w2 163 11 = 0)) ((some (0, 0) : Option sV) = some (0, if (fg1 T n p s).ft = 0 then 1 else 0) ∧ ∃ v', ((c, up w2 167 (B + p) (stS T n s).num) : sM) = (c, v') ∧ (MS T n v' (fg1 T n p s) ∧ FR v v')) ((some (0, 1) : Option sV) = some (0, if (fg1 T n p s).ft = 0 then 1 else 0) ∧ ∃ v', ((c, up w2 167 (B + p) (stS T n s).num) : sM) = (c, v') ∧ (MS T n v' (fg1 T n p s) ∧ FR v v')) := by
    intro hi B w w2 e1 e2 f1 hw2 f2
    subst e1 e2
    have hof : Off [167] w2 (up w2 167 (fgB s.kd + p) (stS T n s).num) := (Off.rf _ w2).up (by decide)
    have hms : MS T n (up w2 167 (fgB s.kd + p) (stS T n s).num) (fg1 T n p s) := hw2.al hof (by rw [up_ua, hw2.2.2.2.2, tnS_al.1]; rfl)
    rw [hw2.2.2.1.1, eft]
    exact brbN (fun q => ⟨by rw [if_neg q], _, rfl, hms, (f1.tr f2).tr (FR.o7 hof)⟩) (fun q => ⟨by rw [if_pos q], _, rfl, hms, (f1.tr f2).tr (FR.o7 hof)⟩)
  have hno : ∀ k : Int, s.kd ≠ k → eaS T n k s = s := fun k q => by unfold eaS; rw [if_neg (fun z => q z.2)]
  have hye : ∀ k : Int, s.kd = k → eaS T n k s = stS T n s := fun k q => by unfold eaS; rw [if_pos ⟨hf, q⟩]
  refine CI_of (loc192 p) (E192_0 p (kI (C_eatsS (d := d) h hLO.1 3 (by omega) (by decide)) (fun v1 h1 => ?_)))
  rcases Decidable.em (s.kd = 3) with q3 | q3
  · rw [hye 3 q3] at h1
    rw [if_pos ⟨hf, q3⟩]
    refine brbI (fun z => absurd z (by decide)) (fun _ => ?_)
    have e1 : v1 167 1 = s.al 1 := by rw [h1.1.2.2.2.2]; rfl
    rw [e1]
    refine rngI (by omega) (rngI (by omega) (kI (C_takesS (d := d) h1.1 ho1.1 0 (s.al 1 - 1)) (fun w hw => chkI (inbI (by omega) (by omega)) (fin _ 9 v1 w ?_ ?_ h1.2 hw.1 hw.2))))
    · unfold fgH; rw [if_pos q3]
    · unfold fgB; rw [if_pos q3]
  · rw [hno 3 q3] at h1
    rw [if_neg (fun z => q3 z.2)]
    refine brbI (fun _ => kI (C_eatsS (d := d) h1.1 hLO.1 4 (by omega) (by decide)) (fun v2 h2 => ?_)) (fun z => absurd rfl z)
    rcases Decidable.em (s.kd = 4) with q4 | q4
    · rw [hye 4 q4] at h2
      rw [if_pos ⟨hf, q4⟩]
      refine brbI (fun z => absurd z (by decide)) (fun _ => rngI (by omega) (kI (C_takesS (d := d) h2.1 ho1.1 0 9) (fun w hw => chkI (inbI (by omega) (by omega)) (fin _ 15 v2 w ?_ ?_ (h1.2.tr h2.2) hw.1 hw.2))))
      · unfold fgH; rw [if_neg q3, if_neg (by omega)]
      · unfold fgB; rw [if_neg q3, if_pos q4]
    · rw [hno 4 q4] at h2
      rw [if_neg (fun z => q4 z.2)]
      refine brbI (fun _ => kI (C_eatsS (d := d) h2.1 hLO.1 5 (by omega) (by decide)) (fun v3 h3 => ?_)) (fun z => absurd rfl z)
      rcases Decidable.em (s.kd = 5) with q5 | q5
      · rw [hye 5 q5] at h3
        rw [if_pos ⟨hf, q5⟩]
        refine brbI (fun z => absurd z (by decide)) (fun _ => rngI (by omega) (kI (C_takesS (d := d) h3.1 ho1.1 0 9) (fun w hw => chkI (inbI (by omega) (by omega)) (fin _ 36 v3 w ?_ ?_ ((h1.2.tr h2.2).tr h3.2) hw.1 hw.2))))
        · unfold fgH; rw [if_neg q3, if_neg (by omega)]
        · unfold fgB; rw [if_neg q3, if_neg q4, if_pos q5]
      · rw [hno 5 q5] at h3
        rw [if_neg (fun z => q5 z.2)]
        refine brbI (fun _ => kI (C_eatsS (d := d) h3.1 hLO.1 6 (by omega) (by decide)) (fun v4 h4 => ?_)) (fun z => absurd rfl z)
        have q6 : s.kd = 6 := by omega
        rw [hye 6 q6] at h4
        rw [if_pos ⟨hf, q6⟩]
        refine brbI (fun z => absurd z (by decide)) (fun _ => rngI (by omega) (kI (C_takesS (d := d) h4.1 ho1.1 0 10) (fun w hw => chkI (inbI (by omega) (by omega)) (fin _ 21 v4 w ?_ ?_ (((h1.2.tr h2.2).tr h3.2).tr h4.2) hw.1 hw.2))))
        · unfold fgH; rw [if_neg q3, if_pos q6]
        · unfold fgB; rw [if_neg q3, if_neg q4, if_neg q5]
theorem M_noFlag {T : Int → Int} {n p : Int} {d : Nat} {v : sF} {s : PS} (h : MS T n v s) (hO : Ok0 n s) (hk : ¬ (3 ≤ s.kd ∧ s.kd ≤ 6)) : ∃ v', Ev (d + 8) 192 [(2, 163), (0, p)] (c, v) (some (0, 0)) (c, v') ∧ (MS T n v' s ∧ FR v v') := by
  have hno : ∀ k : Int, s.kd ≠ k → eaS T n k s = s := fun k q => by unfold eaS; rw [if_neg (fun z => q z.2)]
  refine CI_of (loc192 p) (E192_0 p (kI (C_eatsS (d := d) h hO 3 (by omega) (by decide)) (fun v1 h1 => ?_)))
  rw [hno 3 (by omega)] at h1
  rw [if_neg (fun z => by omega)]
  refine brbI (fun _ => kI (C_eatsS (d := d) h1.1 hO 4 (by omega) (by decide)) (fun v2 h2 => ?_)) (fun z => absurd rfl z)
  rw [hno 4 (by omega)] at h2
  rw [if_neg (fun z => by omega)]
  refine brbI (fun _ => kI (C_eatsS (d := d) h2.1 hO 5 (by omega) (by decide)) (fun v3 h3 => ?_)) (fun z => absurd rfl z)
  rw [hno 5 (by omega)] at h3
  rw [if_neg (fun z => by omega)]
  refine brbI (fun _ => kI (C_eatsS (d := d) h3.1 hO 6 (by omega) (by decide)) (fun v4 h4 => ?_)) (fun z => absurd rfl z)
  rw [hno 6 (by omega)] at h4
  rw [if_neg (fun z => by omega)]
  exact brbI (fun _ => ⟨rfl, _, rfl, h4.1, ((h1.2.tr h2.2).tr h3.2).tr h4.2⟩) (fun z => absurd rfl z)
/-- one person more -/
def peS (p : Int) (s : PS) : PS := if s.ft = 0 then alS (ua s.al 2 (p + 1)) s else s
theorem lp_flag {T : Int → Int} {n p : Int} (hp : 0 ≤ p ∧ p < 6) : ∀ (m : Nat) (s : PS), (n - s.st).toNat ≤ m → LO n s → s.al 2 = p → ∃ s', LO n s' ∧ s.st ≤ s'.st ∧ (s.ft ≠ 0 → s' = s) ∧ (∀ (Dd c : Nat) (v : sF) (i : Int) (Q : sQ), 10 ≤ Dd → LC T n v s → (s.ft = 0 → i ≤ s.st) → (0 ≤ i ∧ i ≤ 2000) → (∀ v', LC T n v' s' → Off sLn v v' → Q none (c, v')) → Wp (Ev Dd) 0 (fun _ => 0) 47 Q 73 [(2, 37), (0, p), (0, i)] [] c v) ∧ (∀ (Dd c : Nat) (v : sF) (Q : sQ), 10 ≤ Dd → MS T n v s → (∀ v', MS T n v' s' → FR v v' → Q none (c, v')) → Wp (Ev Dd) 0 (fun _ => 0) 193 Q 83 [(2, 163), (0, p)] [] c v) := by
  have stop : ∀ s : PS, LO n s → s.al 2 = p → ¬ (s.ft = 0 ∧ (3 ≤ s.kd ∧ s.kd ≤ 6)) → ∃ s', LO n s' ∧ s.st ≤ s'.st ∧ (s.ft ≠ 0 → s' = s) ∧ (∀ (Dd c : Nat) (v : sF) (i : Int) (Q : sQ), 10 ≤ Dd → LC T n v s → (s.ft = 0 → i ≤ s.st) → (0 ≤ i ∧ i ≤ 2000) → (∀ v', LC T n v' s' → Off sLn v v' → Q none (c, v')) → Wp (Ev Dd) 0 (fun _ => 0) 47 Q 73 [(2, 37), (0, p), (0, i)] [] c v) ∧ (∀ (Dd c : Nat) (v : sF) (Q : sQ), 10 ≤ Dd → MS T n v s → (∀ v', MS T n v' s' → FR v v' → Q none (c, v')) → Wp (Ev Dd) 0 (fun _ => 0) 193 Q 83 [(2, 163), (0, p)] [] c v) := by
    intro s hLO h2 hno
    refine ⟨peS p s, ?_, ?_, fun z => by unfold peS; rw [if_neg z], fun Dd c v i Q hD hC hi hi2 hQ => ?_, fun Dd c v Q hD hM hQ => ?_⟩
    · unfold peS
      rcases Decidable.em (s.ft = 0) with q | q
      · rw [if_pos q]
        obtain ⟨l1, l2, l3, l4⟩ := hLO
        refine ⟨l1, fun _ => ⟨WF_up (l2 q).1 (Or.inr (Or.inl ⟨rfl, by omega, by omega⟩)), ?_⟩, ?_, ?_⟩
        · show ua s.al 2 (p + 1) 853 ≤ s.st; rw [ua_n (by omega)]; exact (l2 q).2
        · show 0 ≤ ua s.al 2 (p + 1) 0 ∧ ua s.al 2 (p + 1) 0 ≤ s.st + 1; rw [ua_n (by omega)]; exact l3
        · show 0 ≤ ua s.al 2 (p + 1) 2 ∧ ua s.al 2 (p + 1) 2 ≤ 6; rw [ua_s]; omega
      · rw [if_neg q]; exact hLO
    · unfold peS; split <;> exact Int.le_refl _
    · have ex : LC T n (up v 38 1 (p + 1)) (peS p s) ∧ Off sLn v (up v 38 1 (p + 1)) := by
        refine ⟨?_, (Off.rf _ v).up (by decide)⟩
        have hdb : DB (up v 38 1 (p + 1)) := by
          unfold DB; rw [up_ne _ (by decide), up_same, up_ne _ (by decide)]; exact ⟨hC.2.2.1, by omega, hC.2.2.2.2⟩
        unfold peS
        rcases Decidable.em (s.ft = 0) with q | q
        · rw [if_pos q]
          exact ⟨hC.1.al (fun b hb => up_off b (by omega)) (fun _ j hj => ua_n (by omega)), fun _ => CT_up (hC.2.1 q) (Or.inl ⟨rfl, Or.inl ⟨rfl, rfl⟩⟩), hdb⟩
        · rw [if_neg q]
          have := hC.1.al (al := s.al) (v' := up v 38 1 (p + 1)) (fun b hb => up_off b (by omega)) (fun _ _ _ => rfl)
          exact ⟨this, fun z => absurd z q, hdb⟩
      obtain ⟨d, rfl⟩ : ∃ d, Dd = d + 10 := ⟨Dd - 10, by omega⟩
      have hq := rngI (e := p + 1) (by omega) (hQ _ ex.1 ex.2)
      refine E47_73 _ _ (brbI (fun _ => hq) (fun _ => ?_))
      rw [hC.1.2.1.1, hC.1.1.1]
      refine brbN (fun _ => hq) (fun q => kI0 (C_isFlag (d := d + 9) s.kd) ?_)
      rw [if_neg (fun z => hno ⟨q, z⟩)]
      exact brbI (fun _ => hq) (fun z => absurd rfl z)
    · obtain ⟨d, rfl⟩ : ∃ d, Dd = d + 10 := ⟨Dd - 10, by omega⟩
      refine E193_83 _ ?_
      rw [hM.2.2.1.1]
      rcases Decidable.em (s.ft = 0) with q | q
      · have ep : peS p s = alS (ua s.al 2 (p + 1)) s := by unfold peS; rw [if_pos q]
        rw [ep] at hQ
        refine brbN (fun z => absurd q z) (fun _ => kI (M_noFlag (d := d + 2) hM hLO.1 (fun z => hno ⟨q, z⟩)) (fun v1 h1 => brbI (fun _ => ?_) (fun z => absurd rfl z)))
        have e2 : v1 167 2 = p := by rw [h1.1.2.2.2.2]; exact h2
        rw [h1.1.2.2.1.1, e2]
        have hof : Off [167] v1 (up v1 167 2 (p + 1)) := (Off.rf _ v1).up (by decide)
        exact brbN (fun z => absurd q z) (fun _ => rngI (by omega) (hQ _ (h1.1.al hof (by rw [up_ua, h1.1.2.2.2.2])) (h1.2.tr (FR.o7 hof))))
      · have ep : peS p s = s := by unfold peS; rw [if_neg q]
        rw [ep] at hQ
        exact brbN (fun _ => brbN (fun _ => hQ v hM (FR.rf v)) (fun z => absurd z q)) (fun z => absurd z q)
  intro m
  induction m with
  | zero =>
    intro s hm hLO h2
    refine stop s hLO h2 (fun q => ?_)
    have := hLO.1.2.2.2.2.2.1 (by omega)
    have := hLO.1.2.1.2
    omega
  | succ m ih =>
    intro s hm hLO h2
    rcases Decidable.em (s.ft = 0 ∧ (3 ≤ s.kd ∧ s.kd ≤ 6)) with q | q
    · obtain ⟨f1, f2, f3⟩ := fg_LO (T := T) hLO q.1 q.2 hp
      obtain ⟨s', g1, g2, gd, gc, gm⟩ := ih (fg1 T n p s) (by omega) f1 (f3.trans h2)
      refine ⟨s', g1, by omega, fun z => absurd q.1 z, fun Dd c v i Q hD hC hi hi2 hQ => ?_, fun Dd c v Q hD hM hQ => ?_⟩
      · obtain ⟨d, rfl⟩ : ∃ d, Dd = d + 10 := ⟨Dd - 10, by omega⟩
        have hiq := hi q.1
        have hlt := hLO.1.2.2.2.2.2.1 (by omega)
        have hnx := hLO.1.2.1.2
        have hn9 := hLO.1.1.2
        refine E47_73 _ _ (brbI (fun z => absurd z (by omega)) (fun _ => ?_))
        rw [hC.1.2.1.1, hC.1.1.1]
        refine brbN (fun z => absurd q.1 z) (fun _ => kI0 (C_isFlag (d := d + 9) s.kd) ?_)
        rw [if_pos q.2]
        exact brbI (fun z => absurd z (by decide)) (fun _ => kN (C_readFlag (d := d + 6) hC hLO q.1 q.2 hp) (fun v1 h1 => rngI (by omega) (gc (d + 10) c v1 (i + 1) Q hD h1.1 (fun _ => by omega) (by omega) (fun v' a b => hQ v' a (h1.2.tr b)))))
      · obtain ⟨d, rfl⟩ : ∃ d, Dd = d + 10 := ⟨Dd - 10, by omega⟩
        refine E193_83 _ ?_
        rw [hM.2.2.1.1]
        refine brbN (fun z => absurd q.1 z) (fun _ => kI (M_readFlag (d := d + 2) hM hLO q.1 q.2 hp) (fun v1 h1 => ?_))
        have hgo := gm (d + 10) c v1 Q hD h1.1 (fun v' a b => hQ v' a (h1.2.tr b))
        rcases Decidable.em ((fg1 T n p s).ft = 0) with w | w
        · rw [if_pos w]
          exact brbI (fun z => absurd z (by decide)) (fun _ => hgo)
        · rw [if_neg w]
          refine brbI (fun _ => ?_) (fun z => absurd rfl z)
          rw [h1.1.2.2.1.1]
          exact brbN (fun _ => hQ v1 (by rw [gd w]; exact h1.1) h1.2) (fun z => absurd z w)
    · exact stop s hLO h2 q
end Par8
