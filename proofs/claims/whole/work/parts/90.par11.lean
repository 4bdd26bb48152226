section Par11
variable {c : Nat}
/-- behind a line's end -/
def enS (T : Int → Int) (n : Int) (s : PS) : PS := alS (ua (tkS T n 23 s).al 0 ((tkS T n 23 s).al 0 + 1)) (tkS T n 23 s)
theorem M_ends1 {T : Int → Int} {n : Int} {d : Nat} {v : sF} {s : PS} (h : MS T n v s) (ho : Ok0 n s) (hb : 0 ≤ s.al 0 ∧ s.al 0 ≤ 2000) : ∃ v', Ev (d + 8) 197 [(2, 163)] (c, v) none (c, v') ∧ (MS T n v' (enS T n s) ∧ FR v v') := by
  refine CV_of loc197 (E197_0 (tk_m (d := d) h ho 23 (by omega) (by decide) (fun v1 h1 f1 => ?_)))
  have e : v1 167 0 = (tkS T n 23 s).al 0 := by rw [h1.2.2.2.2]
  rw [e]
  have e2 : (tkS T n 23 s).al = s.al := tkS_al.1
  have hof : Off [167] v1 (up v1 167 0 ((tkS T n 23 s).al 0 + 1)) := (Off.rf _ v1).up (by decide)
  exact rngI (by rw [e2]; omega) ⟨rfl, _, rfl, h1.al hof (by rw [up_ua, h1.2.2.2.2]), f1.tr (FR.o7 hof)⟩
/-- what the text ends with -/
def LX (n : Int) (s : PS) : Prop := Ok0 n s ∧ (s.ft = 0 → LO n s)
def CX (T : Int → Int) (n : Int) (v : sF) (s : PS) : Prop := CS T n v s ∧ (s.ft = 0 → CT v s.al)
theorem en_ok {T : Int → Int} {n : Int} {s : PS} (h : LO n s) : Ok0 n (enS T n s) ∧ ((enS T n s).ft = 0 → LO n (enS T n s) ∧ s.st + 1 ≤ (enS T n s).st) := by
  obtain ⟨l1, l2, l3, l4⟩ := h
  have e2 : (tkS T n 23 s).al = s.al := tkS_al.1
  refine ⟨Ok0_tk l1, fun q => ?_⟩
  have q' : (tkS T n 23 s).ft = 0 := q
  have f0 := tkS_al.2.1 q'
  have hst : s.st + 1 ≤ (tkS T n 23 s).st := by
    have hk : s.kd = 23 := by
      rcases Decidable.em (s.kd = 23) with z | z
      · exact z
      · unfold tkS at q'; rw [if_pos f0, if_neg z] at q'; exact absurd q' (flS_ft (by omega))
    rw [tkS_t f0 hk]
    have a := (Ok0_st (T := T) l1).2
    have b := l1.2.2.2.2.2.1 (by omega)
    omega
  obtain ⟨w1, w2⟩ := l2 f0
  refine ⟨⟨Ok0_tk l1, fun _ => ⟨?_, ?_⟩, ?_, ?_⟩, hst⟩
  · show WF (ua (tkS T n 23 s).al 0 ((tkS T n 23 s).al 0 + 1))
    rw [e2]; exact WF_up w1 (Or.inl rfl)
  · show ua (tkS T n 23 s).al 0 ((tkS T n 23 s).al 0 + 1) 853 ≤ (tkS T n 23 s).st
    rw [ua_n (by omega), e2]; omega
  · show 0 ≤ ua (tkS T n 23 s).al 0 ((tkS T n 23 s).al 0 + 1) 0 ∧ ua (tkS T n 23 s).al 0 ((tkS T n 23 s).al 0 + 1) 0 ≤ (tkS T n 23 s).st + 1
    rw [ua_s, e2]; omega
  · show 0 ≤ ua (tkS T n 23 s).al 0 ((tkS T n 23 s).al 0 + 1) 2 ∧ ua (tkS T n 23 s).al 0 ((tkS T n 23 s).al 0 + 1) 2 ≤ 6
    rw [ua_n (by omega), e2]; exact l4
theorem lp_lines {T : Int → Int} {n : Int} : ∀ (m : Nat) (s : PS), (n - s.st).toNat ≤ m → LX n s → ∃ s', LX n s' ∧ (∀ (Dd c : Nat) (v : sF) (i : Int) (Q : sQ), 70 ≤ Dd → CS T n v s → (s.ft = 0 → LC T n v s) → (s.ft = 0 → i ≤ s.st) → (0 ≤ i ∧ i ≤ 2000) → (∀ v', CX T n v' s' → Off sLn v v' → Q none (c, v')) → Wp (Ev Dd) 0 (fun _ => 0) 42 Q 74 [(2, 37), (9, 0), (0, i)] [] c v) ∧ (∀ (Dd c : Nat) (v : sF) (Q : sQ), 70 ≤ Dd → MS T n v s → (∀ v', MS T n v' s' → FR v v' → (s'.ft ≠ 0 → Q (some (0, -30 - s'.ft)) (c, up (up v' 163 13 s'.ft) 163 14 s'.fp)) ∧ (s'.ft = 0 → Wp (Ev Dd) 0 (fun _ => 0) 198 Q 154 [(2, 163), (9, 0), (0, 0)] [] c (up (up v' 163 13 0) 163 14 (-1)))) → Wp (Ev Dd) 0 (fun _ => 0) 198 Q 83 [(2, 163), (9, 0), (9, 0)] [] c v) := by
  have stop : ∀ s : PS, LX n s → ¬ (s.ft = 0 ∧ s.kd ≠ 36) → ∃ s', LX n s' ∧ (∀ (Dd c : Nat) (v : sF) (i : Int) (Q : sQ), 70 ≤ Dd → CS T n v s → (s.ft = 0 → LC T n v s) → (s.ft = 0 → i ≤ s.st) → (0 ≤ i ∧ i ≤ 2000) → (∀ v', CX T n v' s' → Off sLn v v' → Q none (c, v')) → Wp (Ev Dd) 0 (fun _ => 0) 42 Q 74 [(2, 37), (9, 0), (0, i)] [] c v) ∧ (∀ (Dd c : Nat) (v : sF) (Q : sQ), 70 ≤ Dd → MS T n v s → (∀ v', MS T n v' s' → FR v v' → (s'.ft ≠ 0 → Q (some (0, -30 - s'.ft)) (c, up (up v' 163 13 s'.ft) 163 14 s'.fp)) ∧ (s'.ft = 0 → Wp (Ev Dd) 0 (fun _ => 0) 198 Q 154 [(2, 163), (9, 0), (0, 0)] [] c (up (up v' 163 13 0) 163 14 (-1)))) → Wp (Ev Dd) 0 (fun _ => 0) 198 Q 83 [(2, 163), (9, 0), (9, 0)] [] c v) := by
    intro s hX hno
    refine ⟨s, hX, fun Dd c v i Q hD hC hL hi hi2 hQ => ?_, fun Dd c v Q hD hM hQ => ?_⟩
    · have hq := hQ v ⟨hC, fun q => (hL q).2.1 q⟩ (Off.rf _ v)
      refine E42_74 _ (brbI (fun _ => hq) (fun _ => ?_))
      rw [hC.2.1.1, hC.1.1]
      exact brbN (fun _ => hq) (fun q => brbI (fun _ => hq) (fun z => absurd ⟨q, z⟩ hno))
    · obtain ⟨q1, q2⟩ := hQ v hM (FR.rf v)
      have h4 := hX.1.2.2.2.2.2.2.2.2
      refine E198_83 ?_
      rw [hM.2.2.1.1, hM.2.1.1]
      rcases Decidable.em (s.ft = 0) with q | q
      · rw [q]
        have hk : s.kd = 36 := by
          rcases Decidable.em (s.kd = 36) with z | z
          · exact z
          · exact absurd ⟨q, z⟩ hno
        rw [hk]
        exact brbN (fun z => absurd rfl z) (fun _ => brbI (fun _ => brbN (fun z => absurd rfl z) (fun _ => brbI (fun _ => q2 q) (fun z => absurd rfl z))) (fun z => absurd (by decide) z))
      · have := hM.2.2.1.2 q
        rw [this]
        exact brbN (fun _ => brbN (fun _ => brbI (fun z => absurd z q) (fun _ => rngI (by omega) (q1 q))) (fun z => absurd z q)) (fun z => absurd z q)
  intro m
  induction m with
  | zero =>
    intro s hm hX
    refine stop s hX (fun q => ?_)
    have := hX.1.2.2.2.2.2.1 q.2
    have := hX.1.2.1.2
    omega
  | succ m ih =>
    intro s hm hX
    rcases Decidable.em (s.ft = 0 ∧ s.kd ≠ 36) with q | q
    · have hLO := hX.2 q.1
      obtain ⟨s1, a1, a2, a3, a4⟩ := line_ok (T := T) s hLO q.1
      obtain ⟨b1, b2⟩ := en_ok (T := T) a1
      have hX2 : LX n (enS T n s1) := ⟨b1, fun z => (b2 z).1⟩
      have hst := hLO.1.2.2.2.2.2.1 q.2
      have hnx := hLO.1.2.1.2
      have hn9 := hLO.1.1.2
      -- a dead end is its own end
      have hgo : ∃ s', LX n s' ∧ (∀ (Dd c : Nat) (v : sF) (i : Int) (Q : sQ), 70 ≤ Dd → CS T n v (enS T n s1) → ((enS T n s1).ft = 0 → LC T n v (enS T n s1)) → ((enS T n s1).ft = 0 → i ≤ (enS T n s1).st) → (0 ≤ i ∧ i ≤ 2000) → (∀ v', CX T n v' s' → Off sLn v v' → Q none (c, v')) → Wp (Ev Dd) 0 (fun _ => 0) 42 Q 74 [(2, 37), (9, 0), (0, i)] [] c v) ∧ (∀ (Dd c : Nat) (v : sF) (Q : sQ), 70 ≤ Dd → MS T n v (enS T n s1) → (∀ v', MS T n v' s' → FR v v' → (s'.ft ≠ 0 → Q (some (0, -30 - s'.ft)) (c, up (up v' 163 13 s'.ft) 163 14 s'.fp)) ∧ (s'.ft = 0 → Wp (Ev Dd) 0 (fun _ => 0) 198 Q 154 [(2, 163), (9, 0), (0, 0)] [] c (up (up v' 163 13 0) 163 14 (-1)))) → Wp (Ev Dd) 0 (fun _ => 0) 198 Q 83 [(2, 163), (9, 0), (9, 0)] [] c v) := by
        rcases Decidable.em ((enS T n s1).ft = 0) with z | z
        · have := (b2 z).2
          exact ih (enS T n s1) (by omega) hX2
        · exact stop _ hX2 (fun w => z w.1)
      obtain ⟨s', g1, gc, gm⟩ := hgo
      refine ⟨s', g1, fun Dd c v i Q hD hC hL hi hi2 hQ => ?_, fun Dd c v Q hD hM hQ => ?_⟩
      · obtain ⟨d, rfl⟩ : ∃ d, Dd = d + 70 := ⟨Dd - 70, by omega⟩
        have hiq := hi q.1
        refine E42_74 _ (brbI (fun z => absurd z (by omega)) (fun _ => ?_))
        rw [hC.2.1.1, hC.1.1]
        refine brbN (fun z => absurd q.1 z) (fun _ => brbI (fun z => absurd z q.2) (fun _ => kN (a3 (d + 70) c v (by omega) (hL q.1)) (fun v1 h1 => kN (LC.take (d := d + 68) h1.1 a1.1 23) (fun v2 h2 => ?_))))
        have hdb := h2.1.2.2.2.2
        have hE : CS T n (up v2 38 2 (v2 38 2 + 1)) (enS T n s1) := h2.1.1.al (fun a ha => up_off a (by omega)) (fun _ k hk => ua_n (by omega))
        refine rngI (by omega) (rngI (by omega) (gc (d + 70) c _ (i + 1) Q hD hE (fun z => ⟨hE, fun _ => ?_, ?_⟩) (fun z => ?_) (by omega) (fun v' x y => hQ v' x ?_)))
        · have z' : (tkS T n 23 s1).ft = 0 := z
          have hct := h2.1.2.1 z'
          have : v2 38 2 = (tkS T n 23 s1).al 0 := hct.1.2.2
          rw [this]
          exact CT_up hct (Or.inl ⟨rfl, Or.inr (Or.inl ⟨rfl, rfl⟩)⟩)
        · have z' : (tkS T n 23 s1).ft = 0 := z
          have hct := h2.1.2.1 z'
          have e : v2 38 2 = (tkS T n 23 s1).al 0 := hct.1.2.2
          have e2 : (tkS T n 23 s1).al = s1.al := tkS_al.1
          have l3 := a1.2.2.1
          have l4 := a1.1.2.2.2.1
          have l5 := a1.1.2.1
          rw [e2] at e
          unfold DB
          rw [up_ne _ (by decide), up_ne _ (by decide), up_same]
          exact ⟨h2.1.2.2.1, h2.1.2.2.2.1, by omega⟩
        · have := (b2 z).2
          omega
        · exact ((h1.2.tr (h2.2.wk (by decide))).up (by decide)).tr y
      · obtain ⟨d, rfl⟩ : ∃ d, Dd = d + 70 := ⟨Dd - 70, by omega⟩
        refine E198_83 ?_
        rw [hM.2.2.1.1, hM.2.1.1]
        have h25 : ¬ km s.kd = 25 := fun z => q.2 (km_inj hLO.1.2.2.1 (by omega) (z.trans (by decide)))
        have l3 := a1.2.2.1
        have l4 := a1.1.2.2.2.1
        have l5 := a1.1.2.1
        exact brbN (fun z => absurd q.1 z) (fun _ => brbI (fun z => absurd z h25) (fun _ => kN (a4 (d + 70) c v (by omega) hM) (fun v1 h1 => kN (M_ends1 (d := d + 62) h1.1 a1.1 (by omega)) (fun v2 h2 => gm (d + 70) c v2 Q hD h2.1 (fun v' x y => hQ v' x ((h1.2.tr h2.2).tr y))))))
    · exact stop s hX q
end Par11
