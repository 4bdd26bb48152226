section Par3
theorem lp_term {T : Int → Int} {n dep : Int} {D h : Nat} (hD1 : 1 ≤ D) (h8 : 8 ≤ h) (hg : Gdp T n false D h 55 185 dep) : ∀ (m : Nat) (s : PS), (n - s.st).toNat ≤ m → Ok0 n s → Bd s → ∃ s', Sg n [false] [false] (D + 1) 0 s s' ∧ (∀ (Dd c : Nat) (v : sF) (i : Int) (Q : sQ), h ≤ Dd → CS T n v s → (s.ft = 0 → i ≤ s.st) → (0 ≤ i ∧ i ≤ 2000) → (∀ v', CS T n v' s' → Off sC v v' → Q none (c, v')) → Wp (Ev Dd) 0 (fun _ => 0) 54 Q 7 [(2, 37), (0, dep), (0, i)] [] c v) ∧ (∀ (Dd c : Nat) (v : sF) (Q : sQ), h ≤ Dd → MS T n v s → (∀ v', MS T n v' s' → FR v v' → Q none (c, v')) → Wp (Ev Dd) 0 (fun _ => 0) 187 Q 5 [(2, 163), (0, dep)] [] c v) := by
  have stop : ∀ s : PS, Ok0 n s → ¬ (s.ft = 0 ∧ s.kd = 27) → ∃ s', Sg n [false] [false] (D + 1) 0 s s' ∧ (∀ (Dd c : Nat) (v : sF) (i : Int) (Q : sQ), h ≤ Dd → CS T n v s → (s.ft = 0 → i ≤ s.st) → (0 ≤ i ∧ i ≤ 2000) → (∀ v', CS T n v' s' → Off sC v v' → Q none (c, v')) → Wp (Ev Dd) 0 (fun _ => 0) 54 Q 7 [(2, 37), (0, dep), (0, i)] [] c v) ∧ (∀ (Dd c : Nat) (v : sF) (Q : sQ), h ≤ Dd → MS T n v s → (∀ v', MS T n v' s' → FR v v' → Q none (c, v')) → Wp (Ev Dd) 0 (fun _ => 0) 187 Q 5 [(2, 163), (0, dep)] [] c v) := by
    intro s ho hno
    refine ⟨s, Sg.rf ho (by simp), fun Dd c v i Q hD hC hi hi2 hQ => ?_, fun Dd c v Q hD hM hQ => ?_⟩
    · refine E54_7 _ _ (brbI (fun _ => hQ v hC (Off.rf _ v)) (fun _ => ?_))
      rw [hC.2.1.1, hC.1.1]
      exact brbN (fun _ => hQ v hC (Off.rf _ v)) (fun q => brbN (fun _ => hQ v hC (Off.rf _ v)) (fun q2 => absurd ⟨q, q2⟩ hno))
    · obtain ⟨d, rfl⟩ : ∃ d, Dd = d + 8 := ⟨Dd - 8, by omega⟩
      refine E187_5 _ (kI (C_eatsS (d := d + 1) hM ho 27 (by omega) (by decide)) (fun v1 hv => ?_))
      unfold eaS at hv
      rw [if_neg hno] at hv ⊢
      exact brbI (fun _ => hQ v1 hv.1 hv.2) (fun w => absurd rfl w)
  intro m
  induction m with
  | zero =>
    intro s hm ho hb
    refine stop s ho (fun q => ?_)
    have := ho.2.2.2.2.2.1 (by omega)
    have := ho.2.1.2
    omega
  | succ m ih =>
    intro s hm ho hb
    rcases Decidable.em (s.ft = 0 ∧ s.kd = 27) with q | q
    · have h36 : s.kd ≠ 36 := by omega
      have ho1 := Ok0_st (T := T) ho
      have hlt := ho.2.2.2.2.2.1 h36
      have hnx := ho.2.1.2
      have hn9 := ho.1.2
      have e1 : Sg n [false] [false] (D + 1) (-1) s (stS T n s) := Sg.st ho q.1 h36 (by simp)
      have etk : tkS T n 27 s = stS T n s := by unfold tkS; rw [if_pos q.1, if_pos q.2]
      have eea : eaS T n 27 s = stS T n s := by unfold eaS; rw [if_pos q]
      obtain ⟨s2, g1, gc, gm⟩ := hg (stS T n s) ho1.1 (e1.bd hb (by omega))
      have e2 : Sg n [false] [false, false] (D + 1) (-1) s s2 := by have := e1.tr (g1.fr [false]) hb; exact this
      have hroom := e2.room hb
      have e3 : Sg n [false] [false] (D + 1) 0 s (adS 3002 s2) := by
        have := e2.tr (Sg.ad (x := 3002) (us := [false, false]) (ws := [false]) g1.1 (fun z => (hroom z).1) (fun ts => rfl) (by simp; omega) (by simp) (fun _ => Or.inr (Or.inl (by decide)))) hb
        exact this
      have hst3 : s.st + 1 ≤ (adS 3002 s2).st := by
        have a1 := g1.2.2.1
        have a2 : (adS 3002 s2).st = s2.st := by unfold adS; split <;> rfl
        omega
      obtain ⟨s4, k1, kc, km1⟩ := ih (adS 3002 s2) (by omega) e3.1 (e3.bd hb (by omega))
      refine ⟨s4, by have := e3.tr k1 hb; exact this, fun Dd c v i Q hD hC hi hi2 hQ => ?_, fun Dd c v Q hD hM hQ => ?_⟩
      · have hiq := hi q.1
        have hst := ho.2.2.2.1
        refine E54_7 _ _ (brbI (fun z => absurd z (by omega)) (fun _ => ?_))
        rw [hC.2.1.1, hC.1.1]
        obtain ⟨d, rfl⟩ : ∃ d, Dd = d + 8 := ⟨Dd - 8, by omega⟩
        refine brbN (fun z => absurd q.1 z) (fun _ => brbN (fun z => absurd q.2 z) (fun _ => kN (C_take (d := d + 6) hC ho 27) (fun v1 hv1 => ?_)))
        rw [etk] at hv1
        refine kN (gc (d + 8) c v1 hD hv1.1) (fun v2 hv2 => kN (C_addR (d := d + 6) (x := 3002) hv2.1 (fun _ => by decide) (by omega) hroom) (fun v3 hv3 => rngI (by omega) (kc (d + 8) c v3 (i + 1) Q hD hv3.1 (fun _ => by omega) (by omega) (fun v' a b => hQ v' a ?_))))
        exact (((hv1.2.wk (by decide)).tr hv2.2).tr (hv3.2.wk (by decide))).tr b
      · obtain ⟨d, rfl⟩ : ∃ d, Dd = d + 8 := ⟨Dd - 8, by omega⟩
        refine E187_5 _ (kI (C_eatsS (d := d + 1) hM ho 27 (by omega) (by decide)) (fun v1 hv => ?_))
        rw [eea] at hv
        rw [if_pos q]
        refine brbI (fun w => absurd w (by decide)) (fun _ => kN (gm (d + 8) c v1 hD hv.1) (fun v2 hv2 => kN (C_codesS (d := d + 7) (x := 3002) hv2.1 hroom) (fun v3 hv3 => km1 (d + 8) c v3 Q hD hv3.1 (fun v' a b => hQ v' a ?_))))
        exact ((hv.2.tr hv2.2).tr hv3.2).tr b
    · exact stop s ho q
theorem term_ok {T : Int → Int} {n dep : Int} {D h : Nat} (hD1 : 1 ≤ D) (h8 : 8 ≤ h) (hg : Gdp T n false D h 55 185 dep) : Gdp T n false (D + 1) (h + 1) 54 187 dep := by
  intro s ho hb
  obtain ⟨s1, g1, gc, gm⟩ := hg s ho hb
  obtain ⟨s2, l1, lc, lm⟩ := lp_term hD1 h8 hg (n - s1.st).toNat s1 (Nat.le_refl _) g1.1 (g1.bd hb (by omega))
  refine ⟨s2, ?_, fun Dd c v hD hC => ?_, fun Dd c v hD hM => ?_⟩
  · have := (g1.mo (Nat.le_succ D) (Int.le_refl _)).tr l1 hb
    exact this
  · obtain ⟨d, rfl⟩ : ∃ d, Dd = d + 1 := ⟨Dd - 1, by omega⟩
    have hst := g1.1.2.2.2.1.1
    exact CV_of (loc54 dep) (E54_0 dep (kN (gc d c v (by omega) hC) (fun v1 hv => lc d c v1 0 _ (by omega) hv.1 (fun _ => hst) (by omega) (fun v2 a b => ⟨rfl, _, rfl, a, hv.2.tr b⟩))))
  · obtain ⟨d, rfl⟩ : ∃ d, Dd = d + 1 := ⟨Dd - 1, by omega⟩
    exact CV_of (loc187 dep) (E187_0 dep (kN (gm d c v (by omega) hM) (fun v1 hv => lm d c v1 _ (by omega) hv.1 (fun v2 a b => ⟨rfl, _, rfl, a, hv.2.tr b⟩))))
theorem lp_both {T : Int → Int} {n dep : Int} {D h : Nat} (hD1 : 1 ≤ D) (h8 : 8 ≤ h) (hg : Gdp T n true D h 61 189 dep) : ∀ (m : Nat) (s : PS), (n - s.st).toNat ≤ m → Ok0 n s → Bd s → ∃ s', Sg n [true] [true] (D + 1) 0 s s' ∧ (∀ (Dd c : Nat) (v : sF) (i : Int) (Q : sQ), h ≤ Dd → CS T n v s → (s.ft = 0 → i ≤ s.st) → (0 ≤ i ∧ i ≤ 2000) → (∀ v', CS T n v' s' → Off sC v v' → Q none (c, v')) → Wp (Ev Dd) 0 (fun _ => 0) 60 Q 7 [(2, 37), (0, dep), (0, i)] [] c v) ∧ (∀ (Dd c : Nat) (v : sF) (Q : sQ), h ≤ Dd → MS T n v s → (∀ v', MS T n v' s' → FR v v' → Q none (c, v')) → Wp (Ev Dd) 0 (fun _ => 0) 190 Q 5 [(2, 163), (0, dep)] [] c v) := by
  have stop : ∀ s : PS, Ok0 n s → ¬ (s.ft = 0 ∧ s.kd = 22) → ∃ s', Sg n [true] [true] (D + 1) 0 s s' ∧ (∀ (Dd c : Nat) (v : sF) (i : Int) (Q : sQ), h ≤ Dd → CS T n v s → (s.ft = 0 → i ≤ s.st) → (0 ≤ i ∧ i ≤ 2000) → (∀ v', CS T n v' s' → Off sC v v' → Q none (c, v')) → Wp (Ev Dd) 0 (fun _ => 0) 60 Q 7 [(2, 37), (0, dep), (0, i)] [] c v) ∧ (∀ (Dd c : Nat) (v : sF) (Q : sQ), h ≤ Dd → MS T n v s → (∀ v', MS T n v' s' → FR v v' → Q none (c, v')) → Wp (Ev Dd) 0 (fun _ => 0) 190 Q 5 [(2, 163), (0, dep)] [] c v) := by
    intro s ho hno
    refine ⟨s, Sg.rf ho (by simp), fun Dd c v i Q hD hC hi hi2 hQ => ?_, fun Dd c v Q hD hM hQ => ?_⟩
    · refine E60_7 _ _ (brbI (fun _ => hQ v hC (Off.rf _ v)) (fun _ => ?_))
      rw [hC.2.1.1, hC.1.1]
      exact brbN (fun _ => hQ v hC (Off.rf _ v)) (fun q => brbN (fun _ => hQ v hC (Off.rf _ v)) (fun q2 => absurd ⟨q, q2⟩ hno))
    · obtain ⟨d, rfl⟩ : ∃ d, Dd = d + 8 := ⟨Dd - 8, by omega⟩
      refine E190_5 _ (kI (C_eatsS (d := d + 1) hM ho 22 (by omega) (by decide)) (fun v1 hv => ?_))
      unfold eaS at hv
      rw [if_neg hno] at hv ⊢
      exact brbI (fun _ => hQ v1 hv.1 hv.2) (fun w => absurd rfl w)
  intro m
  induction m with
  | zero =>
    intro s hm ho hb
    refine stop s ho (fun q => ?_)
    have := ho.2.2.2.2.2.1 (by omega)
    have := ho.2.1.2
    omega
  | succ m ih =>
    intro s hm ho hb
    rcases Decidable.em (s.ft = 0 ∧ s.kd = 22) with q | q
    · have h36 : s.kd ≠ 36 := by omega
      have ho1 := Ok0_st (T := T) ho
      have hlt := ho.2.2.2.2.2.1 h36
      have hnx := ho.2.1.2
      have hn9 := ho.1.2
      have e1 : Sg n [true] [true] (D + 1) (-1) s (stS T n s) := Sg.st ho q.1 h36 (by simp)
      have etk : tkS T n 22 s = stS T n s := by unfold tkS; rw [if_pos q.1, if_pos q.2]
      have eea : eaS T n 22 s = stS T n s := by unfold eaS; rw [if_pos q]
      obtain ⟨s2, g1, gc, gm⟩ := hg (stS T n s) ho1.1 (e1.bd hb (by omega))
      have e2 : Sg n [true] [true, true] (D + 1) (-1) s s2 := by have := e1.tr (g1.fr [true]) hb; exact this
      have hroom := e2.room hb
      have e3 : Sg n [true] [true] (D + 1) 0 s (adS 3007 s2) := by
        have := e2.tr (Sg.ad (x := 3007) (us := [true, true]) (ws := [true]) g1.1 (fun z => (hroom z).1) (fun ts => rfl) (by simp; omega) (by simp) (fun _ => Or.inr (Or.inl (by decide)))) hb
        exact this
      have hst3 : s.st + 1 ≤ (adS 3007 s2).st := by
        have a1 := g1.2.2.1
        have a2 : (adS 3007 s2).st = s2.st := by unfold adS; split <;> rfl
        omega
      obtain ⟨s4, k1, kc, km1⟩ := ih (adS 3007 s2) (by omega) e3.1 (e3.bd hb (by omega))
      refine ⟨s4, by have := e3.tr k1 hb; exact this, fun Dd c v i Q hD hC hi hi2 hQ => ?_, fun Dd c v Q hD hM hQ => ?_⟩
      · have hiq := hi q.1
        have hst := ho.2.2.2.1
        refine E60_7 _ _ (brbI (fun z => absurd z (by omega)) (fun _ => ?_))
        rw [hC.2.1.1, hC.1.1]
        obtain ⟨d, rfl⟩ : ∃ d, Dd = d + 8 := ⟨Dd - 8, by omega⟩
        refine brbN (fun z => absurd q.1 z) (fun _ => brbN (fun z => absurd q.2 z) (fun _ => kN (C_take (d := d + 6) hC ho 22) (fun v1 hv1 => ?_)))
        rw [etk] at hv1
        refine kN (gc (d + 8) c v1 hD hv1.1) (fun v2 hv2 => kN (C_addR (d := d + 6) (x := 3007) hv2.1 (fun _ => by decide) (by omega) hroom) (fun v3 hv3 => rngI (by omega) (kc (d + 8) c v3 (i + 1) Q hD hv3.1 (fun _ => by omega) (by omega) (fun v' a b => hQ v' a ?_))))
        exact (((hv1.2.wk (by decide)).tr hv2.2).tr (hv3.2.wk (by decide))).tr b
      · obtain ⟨d, rfl⟩ : ∃ d, Dd = d + 8 := ⟨Dd - 8, by omega⟩
        refine E190_5 _ (kI (C_eatsS (d := d + 1) hM ho 22 (by omega) (by decide)) (fun v1 hv => ?_))
        rw [eea] at hv
        rw [if_pos q]
        refine brbI (fun w => absurd w (by decide)) (fun _ => kN (gm (d + 8) c v1 hD hv.1) (fun v2 hv2 => kN (C_codesS (d := d + 7) (x := 3007) hv2.1 hroom) (fun v3 hv3 => km1 (d + 8) c v3 Q hD hv3.1 (fun v' a b => hQ v' a ?_))))
        exact ((hv.2.tr hv2.2).tr hv3.2).tr b
    · exact stop s ho q
theorem both_ok {T : Int → Int} {n dep : Int} {D h : Nat} (hD1 : 1 ≤ D) (h8 : 8 ≤ h) (hg : Gdp T n true D h 61 189 dep) : Gdp T n true (D + 1) (h + 1) 60 190 dep := by
  intro s ho hb
  obtain ⟨s1, g1, gc, gm⟩ := hg s ho hb
  obtain ⟨s2, l1, lc, lm⟩ := lp_both hD1 h8 hg (n - s1.st).toNat s1 (Nat.le_refl _) g1.1 (g1.bd hb (by omega))
  refine ⟨s2, ?_, fun Dd c v hD hC => ?_, fun Dd c v hD hM => ?_⟩
  · have := (g1.mo (Nat.le_succ D) (Int.le_refl _)).tr l1 hb
    exact this
  · obtain ⟨d, rfl⟩ : ∃ d, Dd = d + 1 := ⟨Dd - 1, by omega⟩
    have hst := g1.1.2.2.2.1.1
    exact CV_of (loc60 dep) (E60_0 dep (kN (gc d c v (by omega) hC) (fun v1 hv => lc d c v1 0 _ (by omega) hv.1 (fun _ => hst) (by omega) (fun v2 a b => ⟨rfl, _, rfl, a, hv.2.tr b⟩))))
  · obtain ⟨d, rfl⟩ : ∃ d, Dd = d + 1 := ⟨Dd - 1, by omega⟩
    exact CV_of (loc190 dep) (E190_0 dep (kN (gm d c v (by omega) hM) (fun v1 hv => lm d c v1 _ (by omega) hv.1 (fun v2 a b => ⟨rfl, _, rfl, a, hv.2.tr b⟩))))
theorem lp_truth {T : Int → Int} {n dep : Int} {D h : Nat} (hD1 : 1 ≤ D) (h8 : 8 ≤ h) (hg : Gdp T n true D h 60 190 dep) : ∀ (m : Nat) (s : PS), (n - s.st).toNat ≤ m → Ok0 n s → Bd s → ∃ s', Sg n [true] [true] (D + 1) 0 s s' ∧ (∀ (Dd c : Nat) (v : sF) (i : Int) (Q : sQ), h ≤ Dd → CS T n v s → (s.ft = 0 → i ≤ s.st) → (0 ≤ i ∧ i ≤ 2000) → (∀ v', CS T n v' s' → Off sC v v' → Q none (c, v')) → Wp (Ev Dd) 0 (fun _ => 0) 59 Q 7 [(2, 37), (0, dep), (0, i)] [] c v) ∧ (∀ (Dd c : Nat) (v : sF) (Q : sQ), h ≤ Dd → MS T n v s → (∀ v', MS T n v' s' → FR v v' → Q none (c, v')) → Wp (Ev Dd) 0 (fun _ => 0) 191 Q 5 [(2, 163), (0, dep)] [] c v) := by
  have stop : ∀ s : PS, Ok0 n s → ¬ (s.ft = 0 ∧ s.kd = 21) → ∃ s', Sg n [true] [true] (D + 1) 0 s s' ∧ (∀ (Dd c : Nat) (v : sF) (i : Int) (Q : sQ), h ≤ Dd → CS T n v s → (s.ft = 0 → i ≤ s.st) → (0 ≤ i ∧ i ≤ 2000) → (∀ v', CS T n v' s' → Off sC v v' → Q none (c, v')) → Wp (Ev Dd) 0 (fun _ => 0) 59 Q 7 [(2, 37), (0, dep), (0, i)] [] c v) ∧ (∀ (Dd c : Nat) (v : sF) (Q : sQ), h ≤ Dd → MS T n v s → (∀ v', MS T n v' s' → FR v v' → Q none (c, v')) → Wp (Ev Dd) 0 (fun _ => 0) 191 Q 5 [(2, 163), (0, dep)] [] c v) := by
    intro s ho hno
    refine ⟨s, Sg.rf ho (by simp), fun Dd c v i Q hD hC hi hi2 hQ => ?_, fun Dd c v Q hD hM hQ => ?_⟩
    · refine E59_7 _ _ (brbI (fun _ => hQ v hC (Off.rf _ v)) (fun _ => ?_))
      rw [hC.2.1.1, hC.1.1]
      exact brbN (fun _ => hQ v hC (Off.rf _ v)) (fun q => brbN (fun _ => hQ v hC (Off.rf _ v)) (fun q2 => absurd ⟨q, q2⟩ hno))
    · obtain ⟨d, rfl⟩ : ∃ d, Dd = d + 8 := ⟨Dd - 8, by omega⟩
      refine E191_5 _ (kI (C_eatsS (d := d + 1) hM ho 21 (by omega) (by decide)) (fun v1 hv => ?_))
      unfold eaS at hv
      rw [if_neg hno] at hv ⊢
      exact brbI (fun _ => hQ v1 hv.1 hv.2) (fun w => absurd rfl w)
  intro m
  induction m with
  | zero =>
    intro s hm ho hb
    refine stop s ho (fun q => ?_)
    have := ho.2.2.2.2.2.1 (by omega)
    have := ho.2.1.2
    omega
  | succ m ih =>
    intro s hm ho hb
    rcases Decidable.em (s.ft = 0 ∧ s.kd = 21) with q | q
    · have h36 : s.kd ≠ 36 := by omega
      have ho1 := Ok0_st (T := T) ho
      have hlt := ho.2.2.2.2.2.1 h36
      have hnx := ho.2.1.2
      have hn9 := ho.1.2
      have e1 : Sg n [true] [true] (D + 1) (-1) s (stS T n s) := Sg.st ho q.1 h36 (by simp)
      have etk : tkS T n 21 s = stS T n s := by unfold tkS; rw [if_pos q.1, if_pos q.2]
      have eea : eaS T n 21 s = stS T n s := by unfold eaS; rw [if_pos q]
      obtain ⟨s2, g1, gc, gm⟩ := hg (stS T n s) ho1.1 (e1.bd hb (by omega))
      have e2 : Sg n [true] [true, true] (D + 1) (-1) s s2 := by have := e1.tr (g1.fr [true]) hb; exact this
      have hroom := e2.room hb
      have e3 : Sg n [true] [true] (D + 1) 0 s (adS 3008 s2) := by
        have := e2.tr (Sg.ad (x := 3008) (us := [true, true]) (ws := [true]) g1.1 (fun z => (hroom z).1) (fun ts => rfl) (by simp; omega) (by simp) (fun _ => Or.inr (Or.inl (by decide)))) hb
        exact this
      have hst3 : s.st + 1 ≤ (adS 3008 s2).st := by
        have a1 := g1.2.2.1
        have a2 : (adS 3008 s2).st = s2.st := by unfold adS; split <;> rfl
        omega
      obtain ⟨s4, k1, kc, km1⟩ := ih (adS 3008 s2) (by omega) e3.1 (e3.bd hb (by omega))
      refine ⟨s4, by have := e3.tr k1 hb; exact this, fun Dd c v i Q hD hC hi hi2 hQ => ?_, fun Dd c v Q hD hM hQ => ?_⟩
      · have hiq := hi q.1
        have hst := ho.2.2.2.1
        refine E59_7 _ _ (brbI (fun z => absurd z (by omega)) (fun _ => ?_))
        rw [hC.2.1.1, hC.1.1]
        obtain ⟨d, rfl⟩ : ∃ d, Dd = d + 8 := ⟨Dd - 8, by omega⟩
        refine brbN (fun z => absurd q.1 z) (fun _ => brbN (fun z => absurd q.2 z) (fun _ => kN (C_take (d := d + 6) hC ho 21) (fun v1 hv1 => ?_)))
        rw [etk] at hv1
        refine kN (gc (d + 8) c v1 hD hv1.1) (fun v2 hv2 => kN (C_addR (d := d + 6) (x := 3008) hv2.1 (fun _ => by decide) (by omega) hroom) (fun v3 hv3 => rngI (by omega) (kc (d + 8) c v3 (i + 1) Q hD hv3.1 (fun _ => by omega) (by omega) (fun v' a b => hQ v' a ?_))))
        exact (((hv1.2.wk (by decide)).tr hv2.2).tr (hv3.2.wk (by decide))).tr b
      · obtain ⟨d, rfl⟩ : ∃ d, Dd = d + 8 := ⟨Dd - 8, by omega⟩
        refine E191_5 _ (kI (C_eatsS (d := d + 1) hM ho 21 (by omega) (by decide)) (fun v1 hv => ?_))
        rw [eea] at hv
        rw [if_pos q]
        refine brbI (fun w => absurd w (by decide)) (fun _ => kN (gm (d + 8) c v1 hD hv.1) (fun v2 hv2 => kN (C_codesS (d := d + 7) (x := 3008) hv2.1 hroom) (fun v3 hv3 => km1 (d + 8) c v3 Q hD hv3.1 (fun v' a b => hQ v' a ?_))))
        exact ((hv.2.tr hv2.2).tr hv3.2).tr b
    · exact stop s ho q
theorem truth_ok {T : Int → Int} {n dep : Int} {D h : Nat} (hD1 : 1 ≤ D) (h8 : 8 ≤ h) (hg : Gdp T n true D h 60 190 dep) : Gdp T n true (D + 1) (h + 1) 59 191 dep := by
  intro s ho hb
  obtain ⟨s1, g1, gc, gm⟩ := hg s ho hb
  obtain ⟨s2, l1, lc, lm⟩ := lp_truth hD1 h8 hg (n - s1.st).toNat s1 (Nat.le_refl _) g1.1 (g1.bd hb (by omega))
  refine ⟨s2, ?_, fun Dd c v hD hC => ?_, fun Dd c v hD hM => ?_⟩
  · have := (g1.mo (Nat.le_succ D) (Int.le_refl _)).tr l1 hb
    exact this
  · obtain ⟨d, rfl⟩ : ∃ d, Dd = d + 1 := ⟨Dd - 1, by omega⟩
    have hst := g1.1.2.2.2.1.1
    exact CV_of (loc59 dep) (E59_0 dep (kN (gc d c v (by omega) hC) (fun v1 hv => lc d c v1 0 _ (by omega) hv.1 (fun _ => hst) (by omega) (fun v2 a b => ⟨rfl, _, rfl, a, hv.2.tr b⟩))))
  · obtain ⟨d, rfl⟩ : ∃ d, Dd = d + 1 := ⟨Dd - 1, by omega⟩
    exact CV_of (loc191 dep) (E191_0 dep (kN (gm d c v (by omega) hM) (fun v1 hv => lm d c v1 _ (by omega) hv.1 (fun v2 a b => ⟨rfl, _, rfl, a, hv.2.tr b⟩))))
theorem lp_sum {T : Int → Int} {n dep : Int} {D h : Nat} (hD1 : 1 ≤ D) (h8 : 8 ≤ h) (hg : Gdp T n false D h 54 187 dep) : ∀ (m : Nat) (s : PS), (n - s.st).toNat ≤ m → Ok0 n s → Bd s → ∃ s', Sg n [false] [false] (D + 1) 0 s s' ∧ (∀ (Dd c : Nat) (v : sF) (i : Int) (Q : sQ), h ≤ Dd → CS T n v s → (s.ft = 0 → i ≤ s.st) → (0 ≤ i ∧ i ≤ 2000) → (∀ v', CS T n v' s' → Off sC v v' → Q none (c, v')) → Wp (Ev Dd) 0 (fun _ => 0) 53 Q 7 [(2, 37), (0, dep), (0, i), (9, 0)] [] c v) ∧ (∀ (Dd c : Nat) (v : sF) (Q : sQ), h ≤ Dd → MS T n v s → (∀ v', MS T n v' s' → FR v v' → Q none (c, v')) → Wp (Ev Dd) 0 (fun _ => 0) 188 Q 5 [(2, 163), (0, dep), (9, 0)] [] c v) := by
  have stop : ∀ s : PS, Ok0 n s → ¬ (s.ft = 0 ∧ (s.kd = 25 ∨ s.kd = 26)) → ∃ s', Sg n [false] [false] (D + 1) 0 s s' ∧ (∀ (Dd c : Nat) (v : sF) (i : Int) (Q : sQ), h ≤ Dd → CS T n v s → (s.ft = 0 → i ≤ s.st) → (0 ≤ i ∧ i ≤ 2000) → (∀ v', CS T n v' s' → Off sC v v' → Q none (c, v')) → Wp (Ev Dd) 0 (fun _ => 0) 53 Q 7 [(2, 37), (0, dep), (0, i), (9, 0)] [] c v) ∧ (∀ (Dd c : Nat) (v : sF) (Q : sQ), h ≤ Dd → MS T n v s → (∀ v', MS T n v' s' → FR v v' → Q none (c, v')) → Wp (Ev Dd) 0 (fun _ => 0) 188 Q 5 [(2, 163), (0, dep), (9, 0)] [] c v) := by
    intro s ho hno
    refine ⟨s, Sg.rf ho (by simp), fun Dd c v i Q hD hC hi hi2 hQ => ?_, fun Dd c v Q hD hM hQ => ?_⟩
    · refine E53_7 _ _ (brbI (fun _ => hQ v hC (Off.rf _ v)) (fun _ => ?_))
      rw [hC.2.1.1, hC.1.1]
      exact brbN (fun _ => hQ v hC (Off.rf _ v)) (fun q => brbI (fun q2 => absurd ⟨q, Or.inl q2⟩ hno) (fun _ => brbI (fun q2 => absurd ⟨q, Or.inr q2⟩ hno) (fun _ => hQ v hC (Off.rf _ v))))
    · obtain ⟨d, rfl⟩ : ∃ d, Dd = d + 8 := ⟨Dd - 8, by omega⟩
      refine E188_5 _ (kI0 (C_isS (d := d + 7) hM ho 25 (by omega) (by decide)) ?_)
      rw [if_neg (fun z => hno ⟨z.1, Or.inl z.2⟩)]
      refine brbN (fun w => absurd rfl w) (fun _ => kI0 (C_isS (d := d + 7) hM ho 26 (by omega) (by decide)) ?_)
      rw [if_neg (fun z => hno ⟨z.1, Or.inr z.2⟩)]
      exact brbI (fun _ => hQ v hM (FR.rf v)) (fun w => absurd rfl w)
  intro m
  induction m with
  | zero =>
    intro s hm ho hb
    refine stop s ho (fun q => ?_)
    have := ho.2.2.2.2.2.1 (by omega)
    have := ho.2.1.2
    omega
  | succ m ih =>
    intro s hm ho hb
    rcases Decidable.em (s.ft = 0 ∧ (s.kd = 25 ∨ s.kd = 26)) with q | q
    · obtain ⟨qf, qk⟩ := q
      rcases qk with qk | qk
      · have q : s.ft = 0 ∧ s.kd = 25 := ⟨qf, qk⟩
        have h36 : s.kd ≠ 36 := by omega
        have ho1 := Ok0_st (T := T) ho
        have hlt := ho.2.2.2.2.2.1 h36
        have hnx := ho.2.1.2
        have hn9 := ho.1.2
        have e1 : Sg n [false] [false] (D + 1) (-1) s (stS T n s) := Sg.st ho q.1 h36 (by simp)
        have etk : tkS T n 25 s = stS T n s := by unfold tkS; rw [if_pos q.1, if_pos q.2]
        obtain ⟨s2, g1, gc, gm⟩ := hg (stS T n s) ho1.1 (e1.bd hb (by omega))
        have e2 : Sg n [false] [false, false] (D + 1) (-1) s s2 := by have := e1.tr (g1.fr [false]) hb; exact this
        have hroom := e2.room hb
        have e3 : Sg n [false] [false] (D + 1) 0 s (adS 3000 s2) := by
          have := e2.tr (Sg.ad (x := 3000) (us := [false, false]) (ws := [false]) g1.1 (fun z => (hroom z).1) (fun ts => rfl) (by simp; omega) (by simp) (fun _ => Or.inr (Or.inl (by decide)))) hb
          exact this
        have hst3 : s.st + 1 ≤ (adS 3000 s2).st := by
          have a1 := g1.2.2.1
          have a2 : (adS 3000 s2).st = s2.st := by unfold adS; split <;> rfl
          omega
        obtain ⟨s4, k1, kc, km1⟩ := ih (adS 3000 s2) (by omega) e3.1 (e3.bd hb (by omega))
        refine ⟨s4, by have := e3.tr k1 hb; exact this, fun Dd c v i Q hD hC hi hi2 hQ => ?_, fun Dd c v Q hD hM hQ => ?_⟩
        · have hiq := hi q.1
          have hst := ho.2.2.2.1
          refine E53_7 _ _ (brbI (fun z => absurd z (by omega)) (fun _ => ?_))
          rw [hC.2.1.1, hC.1.1, q.2]
          obtain ⟨d, rfl⟩ : ∃ d, Dd = d + 8 := ⟨Dd - 8, by omega⟩
          refine brbN (fun z => absurd q.1 z) (fun _ => brbI (fun _ => kN (C_take (d := d + 6) hC ho 25) (fun v1 hv1 => ?_)) (fun z => absurd rfl z))
          rw [etk] at hv1
          refine kN (gc (d + 8) c v1 hD hv1.1) (fun v2 hv2 => kN (C_addR (d := d + 6) (x := 3000) hv2.1 (fun _ => by decide) (by omega) hroom) (fun v3 hv3 => rngI (by omega) (kc (d + 8) c v3 (i + 1) Q hD hv3.1 (fun _ => by omega) (by omega) (fun v' a b => hQ v' a ?_))))
          exact (((hv1.2.wk (by decide)).tr hv2.2).tr (hv3.2.wk (by decide))).tr b
        · obtain ⟨d, rfl⟩ : ∃ d, Dd = d + 8 := ⟨Dd - 8, by omega⟩
          refine E188_5 _ (kI0 (C_isS (d := d + 7) hM ho 25 (by omega) (by decide)) ?_)
          rw [if_pos q]
          refine brbN (fun _ => ?_) (fun w => absurd w (by decide))
          rw [hM.2.1.1, q.2]
          refine brbN (fun w => absurd (by decide) w) (fun _ => kN (C_nextS (d := d + 2) hM ho) (fun v1 hv => kN (gm (d + 8) c v1 hD hv.1) (fun v2 hv2 => kN (C_codesS (d := d + 7) (x := 3000) hv2.1 hroom) (fun v3 hv3 => km1 (d + 8) c v3 Q hD hv3.1 (fun v' a b => hQ v' a ?_)))))
          exact ((hv.2.tr hv2.2).tr hv3.2).tr b
      · have q : s.ft = 0 ∧ s.kd = 26 := ⟨qf, qk⟩
        have h36 : s.kd ≠ 36 := by omega
        have ho1 := Ok0_st (T := T) ho
        have hlt := ho.2.2.2.2.2.1 h36
        have hnx := ho.2.1.2
        have hn9 := ho.1.2
        have e1 : Sg n [false] [false] (D + 1) (-1) s (stS T n s) := Sg.st ho q.1 h36 (by simp)
        have etk : tkS T n 26 s = stS T n s := by unfold tkS; rw [if_pos q.1, if_pos q.2]
        obtain ⟨s2, g1, gc, gm⟩ := hg (stS T n s) ho1.1 (e1.bd hb (by omega))
        have e2 : Sg n [false] [false, false] (D + 1) (-1) s s2 := by have := e1.tr (g1.fr [false]) hb; exact this
        have hroom := e2.room hb
        have e3 : Sg n [false] [false] (D + 1) 0 s (adS 3001 s2) := by
          have := e2.tr (Sg.ad (x := 3001) (us := [false, false]) (ws := [false]) g1.1 (fun z => (hroom z).1) (fun ts => rfl) (by simp; omega) (by simp) (fun _ => Or.inr (Or.inl (by decide)))) hb
          exact this
        have hst3 : s.st + 1 ≤ (adS 3001 s2).st := by
          have a1 := g1.2.2.1
          have a2 : (adS 3001 s2).st = s2.st := by unfold adS; split <;> rfl
          omega
        obtain ⟨s4, k1, kc, km1⟩ := ih (adS 3001 s2) (by omega) e3.1 (e3.bd hb (by omega))
        refine ⟨s4, by have := e3.tr k1 hb; exact this, fun Dd c v i Q hD hC hi hi2 hQ => ?_, fun Dd c v Q hD hM hQ => ?_⟩
        · have hiq := hi q.1
          have hst := ho.2.2.2.1
          refine E53_7 _ _ (brbI (fun z => absurd z (by omega)) (fun _ => ?_))
          rw [hC.2.1.1, hC.1.1, q.2]
          obtain ⟨d, rfl⟩ : ∃ d, Dd = d + 8 := ⟨Dd - 8, by omega⟩
          refine brbN (fun z => absurd q.1 z) (fun _ => brbI (fun z => absurd z (by decide)) (fun _ => brbI (fun _ => kN (C_take (d := d + 6) hC ho 26) (fun v1 hv1 => ?_)) (fun z => absurd rfl z)))
          rw [etk] at hv1
          refine kN (gc (d + 8) c v1 hD hv1.1) (fun v2 hv2 => kN (C_addR (d := d + 6) (x := 3001) hv2.1 (fun _ => by decide) (by omega) hroom) (fun v3 hv3 => rngI (by omega) (kc (d + 8) c v3 (i + 1) Q hD hv3.1 (fun _ => by omega) (by omega) (fun v' a b => hQ v' a ?_))))
          exact (((hv1.2.wk (by decide)).tr hv2.2).tr (hv3.2.wk (by decide))).tr b
        · obtain ⟨d, rfl⟩ : ∃ d, Dd = d + 8 := ⟨Dd - 8, by omega⟩
          refine E188_5 _ (kI0 (C_isS (d := d + 7) hM ho 25 (by omega) (by decide)) ?_)
          rw [if_neg (fun z => by omega)]
          refine brbN (fun w => absurd rfl w) (fun _ => kI0 (C_isS (d := d + 7) hM ho 26 (by omega) (by decide)) ?_)
          rw [if_pos q]
          refine brbI (fun w => absurd w (by decide)) (fun _ => ?_)
          rw [hM.2.1.1, q.2]
          refine brbN (fun _ => kN (C_nextS (d := d + 2) hM ho) (fun v1 hv => kN (gm (d + 8) c v1 hD hv.1) (fun v2 hv2 => kN (C_codesS (d := d + 7) (x := 3001) hv2.1 hroom) (fun v3 hv3 => km1 (d + 8) c v3 Q hD hv3.1 (fun v' a b => hQ v' a ?_))))) (fun w => absurd w (by decide))
          exact ((hv.2.tr hv2.2).tr hv3.2).tr b
    · exact stop s ho q
theorem sum_ok {T : Int → Int} {n dep : Int} {D h : Nat} (hD1 : 1 ≤ D) (h8 : 8 ≤ h) (hg : Gdp T n false D h 54 187 dep) : Gdp T n false (D + 1) (h + 1) 53 188 dep := by
  intro s ho hb
  obtain ⟨s1, g1, gc, gm⟩ := hg s ho hb
  obtain ⟨s2, l1, lc, lm⟩ := lp_sum hD1 h8 hg (n - s1.st).toNat s1 (Nat.le_refl _) g1.1 (g1.bd hb (by omega))
  refine ⟨s2, ?_, fun Dd c v hD hC => ?_, fun Dd c v hD hM => ?_⟩
  · have := (g1.mo (Nat.le_succ D) (Int.le_refl _)).tr l1 hb
    exact this
  · obtain ⟨d, rfl⟩ : ∃ d, Dd = d + 1 := ⟨Dd - 1, by omega⟩
    have hst := g1.1.2.2.2.1.1
    exact CV_of (loc53 dep) (E53_0 dep (kN (gc d c v (by omega) hC) (fun v1 hv => lc d c v1 0 _ (by omega) hv.1 (fun _ => hst) (by omega) (fun v2 a b => ⟨rfl, _, rfl, a, hv.2.tr b⟩))))
  · obtain ⟨d, rfl⟩ : ∃ d, Dd = d + 1 := ⟨Dd - 1, by omega⟩
    exact CV_of (loc188 dep) (E188_0 dep (kN (gm d c v (by omega) hM) (fun v1 hv => lm d c v1 _ (by omega) hv.1 (fun v2 a b => ⟨rfl, _, rfl, a, hv.2.tr b⟩))))
end Par3
