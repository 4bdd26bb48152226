section Par5
variable {c : Nat}
theorem adS_p {x : Int} {s : PS} : (adS x s).kd = s.kd ∧ (adS x s).ft = s.ft ∧ (adS x s).st = s.st ∧ (adS x s).law = s.law := by unfold adS; split <;> exact ⟨rfl, rfl, rfl, rfl⟩
theorem bd_room {n : Int} {s : PS} (ho : Ok0 n s) (hb : Bd s) (hk : s.kd ≠ 36) : s.ft = 0 → 0 ≤ s.al 853 ∧ s.al 853 < 900 := fun q => by
  have f := hb.2 q
  have := ho.2.2.2.2.2.1 hk
  have := ho.2.1
  have := ho.1
  omega
theorem tck_n {x : Int} (h : 0 ≤ x ∧ x < 1008) (us : List Bool) : tck x us = some (false :: us) := by
  unfold tck
  rw [if_neg (by omega)]
  split
  · rfl
  · rw [if_pos (by omega)]
set_option maxHeartbeats 2000000 in
theorem atom_ok {T : Int → Int} {n dep : Int} {A B Dm h : Nat} (hdep : 0 ≤ dep ∧ dep ≤ 6) (hs : dep < 6 → Gdp T n false A h 53 188 (dep + 1)) (ht : dep < 6 → Gdp T n true B h 59 191 (dep + 1)) (hA : A + 2 ≤ Dm) (hB : B ≤ Dm) (h3 : 3 ≤ Dm) (h8 : 8 ≤ h) : Gdp T n false Dm (h + 2) 55 185 dep := by
  intro s ho hb
  rcases Decidable.em (s.ft = 0) with hf | hf
  · have hlaw : 0 ≤ s.law := by have := hb.1; omega
    have h38 := ho.2.2.1
    rcases Decidable.em (s.kd = 35) with h35 | h35
    · have hvl := ho.2.2.2.2.2.2.1 h35
      have hroom := bd_room ho hb (by omega)
      obtain ⟨p1, p2, p3, p4⟩ := adS_p (x := s.vl) (s := s)
      have e1 : Sg n [] [false] Dm 1 s (adS s.vl s) := Sg.ad ho (fun z => (hroom z).1) (fun ts => tck_n (by omega) _) (by simp) (by simp; omega) (fun _ => Or.inl (by omega))
      have e2 : Sg n [] [false] Dm 0 s (tkS T n 35 (adS s.vl s)) := by have := e1.tr (Sg.tk (T := T) (k := 35) e1.1 (by decide) (by simp; omega)) hb; exact this
      refine ⟨_, e2, fun Dd c v hD hC => ?_, fun Dd c v hD hM => ?_⟩
      · obtain ⟨d, rfl⟩ : ∃ d, Dd = d + 9 + 1 := ⟨Dd - 10, by omega⟩
        refine CV_of (loc55 _) (E55_0 _ ?_)
        rw [hC.2.1.1, hC.1.1, hC.1.2.2]
        refine brbI (fun _ => brbN (fun z => absurd h35 z) (fun _ => kN (C_addL (d := d + 8) (x := s.vl) hC (fun _ => by unfold enc; rw [if_pos (by omega)]) hroom) (fun v1 h1 => kN (C_take (d := d + 7) h1.1 e1.1 35) (fun v2 h2 => ⟨rfl, _, rfl, h2.1, (h1.2.wk (by decide)).tr (h2.2.wk (by decide))⟩)))) (fun z => absurd hf z)
      · obtain ⟨d, rfl⟩ : ∃ d, Dd = d + 9 + 1 := ⟨Dd - 10, by omega⟩
        refine CV_of (loc185 _) (E185_0 _ (kI0 (C_isS (d := d + 8) hM ho 35 (by omega) (by decide)) ?_))
        rw [if_pos ⟨hf, h35⟩, hM.2.1.2.2.2, ← hvl.2]
        refine brbI (fun w => absurd w (by decide)) (fun _ => kN (C_codesS (d := d + 8) (x := s.vl) hM hroom) (fun v1 h1 => kN (C_nextS (d := d + 3) h1.1 e1.1) (fun v2 h2 => ⟨rfl, _, rfl, ?_, h1.2.tr h2.2⟩)))
        rw [tkS_t (by rw [p2]; exact hf) (by rw [p1]; exact h35)]
        exact h2.1
    · rcases Decidable.em (wo s.law s.kd = -1) with hw | hw
      · have clp : ∀ (d c : Nat) (v : sF) (Q : sQ), CS T n v s → (brb (!decide (s.kd = 28)) (brb (!decide (s.kd = 16)) (∃ c4 v5, Ev (d + 9) 43 [(2, 37), (0, 2)] (c, v) none (c4, v5) ∧ Q none (c4, v5)) (∃ r8 c6 v7, Ev (d + 9) 57 [(2, 37), (0, dep)] (c, v) (some (0, r8)) (c6, v7) ∧ brb (decide (r8 = 0)) (∃ c9 v10, Ev (d + 9) 43 [(2, 37), (0, 2)] (c6, v7) none (c9, v10) ∧ Q none (c9, v10)) (rngc (dep + 1) (∃ c11 v12, Ev (d + 9) 56 [(2, 37), (0, dep + 1)] (c6, v7) none (c11, v12) ∧ Q none (c11, v12))))) (∃ r15 c13 v14, Ev (d + 9) 57 [(2, 37), (0, dep)] (c, v) (some (0, r15)) (c13, v14) ∧ brb (decide (r15 = 0)) (brb (!decide (s.kd = 16)) (∃ c16 v17, Ev (d + 9) 43 [(2, 37), (0, 2)] (c13, v14) none (c16, v17) ∧ Q none (c16, v17)) (∃ r20 c18 v19, Ev (d + 9) 57 [(2, 37), (0, dep)] (c13, v14) (some (0, r20)) (c18, v19) ∧ brb (decide (r20 = 0)) (∃ c21 v22, Ev (d + 9) 43 [(2, 37), (0, 2)] (c18, v19) none (c21, v22) ∧ Q none (c21, v22)) (rngc (dep + 1) (∃ c23 v24, Ev (d + 9) 56 [(2, 37), (0, dep + 1)] (c18, v19) none (c23, v24) ∧ Q none (c23, v24))))) (∃ c25 v26, Ev (d + 9) 44 [(2, 37), (0, 28)] (c13, v14) none (c25, v26) ∧ rngc (dep + 1) (∃ c27 v28, Ev (d + 9) 53 [(2, 37), (0, dep + 1)] (c25, v26) none (c27, v28) ∧ ∃ c29 v30, Ev (d + 9) 44 [(2, 37), (0, 29)] (c27, v28) none (c29, v30) ∧ Q none (c29, v30))))) → Wp (Ev (d + 9)) 0 (fun _ => 0) 55 Q 0 [(2, 37), (0, dep), (9, 0)] [] c v := by
          intro d c v Q hC hQ
          refine E55_0 _ ?_
          rw [hC.2.1.1, hC.1.1]
          refine brbI (fun _ => brbN (fun _ => kI0 (C_isOfLaw (d := d + 8) (hC.2.1.2.2 hlaw) s.kd) ?_) (fun z => absurd z h35)) (fun z => absurd hf z)
          rw [if_pos hw]
          exact brbI (fun _ => hQ) (fun z => absurd rfl z)
        have mop : ∀ (d c : Nat) (v : sF) (Q : sQ), MS T n v s → (∃ r29 c27 v28, Ev (d + 9) 178 [(2, 163), (0, 35)] (c, v) (some (0, r29)) (c27, v28) ∧ brb (decide (r29 = 0)) (∃ r32 c30 v31, Ev (d + 9) 178 [(2, 163), (0, 12)] (c27, v28) (some (0, r32)) (c30, v31) ∧ brb (decide (r32 = 0)) (∃ c33 v34, Ev (d + 9) 177 [(2, 163), (0, 2)] (c30, v31) none (c33, v34) ∧ Q none (c33, v34)) (∃ c35 v36, Ev (d + 9) 186 [(2, 163), (0, dep)] (c30, v31) none (c35, v36) ∧ Q none (c35, v36))) (∃ r39 c37 v38, Ev (d + 9) 184 [(2, 163), (0, dep)] (c27, v28) (some (0, r39)) (c37, v38) ∧ brb (!decide (r39 = 0)) (rngc (dep + 1) (∃ c40 v41, Ev (d + 9) 188 [(2, 163), (0, dep + 1)] (c37, v38) none (c40, v41) ∧ ∃ r44 c42 v43, Ev (d + 9) 179 [(2, 163), (0, 36)] (c40, v41) (some (0, r44)) (c42, v43) ∧ brb (!decide (r44 = 0)) (Q none (c42, v43)) (∃ c45 v46, Ev (d + 9) 177 [(2, 163), (0, 2)] (c42, v43) none (c45, v46) ∧ Q none (c45, v46)))) (Q none (c37, v38)))) → Wp (Ev (d + 9)) 0 (fun _ => 0) 185 Q 0 [(2, 163), (0, dep)] [] c v := by
          intro d c v Q hM hQ
          refine E185_0 _ (kI0 (C_isS (d := d + 8) hM ho 35 (by omega) (by decide)) ?_)
          rw [if_neg (fun z => h35 z.2), hM.2.2.1.1, hM.2.1.1]
          refine brbI (fun _ => brbN (fun z => absurd hf z) (fun _ => kI0 (C_wordOf (d := d + 8) (hM.2.2.2.1 hlaw) (km s.kd)) ?_)) (fun z => absurd rfl z)
          rw [wo_km hb.1 h38, hw]
          exact brbI (fun _ => hQ) (fun z => absurd rfl z)
        rcases Decidable.em (s.kd = 28) with h28 | h28
        · rcases Decidable.em (dep < 6) with hd6 | hd6
          · have em : mnS dep s = s := by unfold mnS; rw [if_pos hd6]
            have eg : giS T n dep s = stS T n s := by unfold giS; rw [em, if_pos hf]
            have e1 : Sg n [] [] Dm (-1) s (stS T n s) := Sg.st ho hf (by omega) (by simp)
            obtain ⟨s2, g2, gc2, gm2⟩ := hs hd6 (stS T n s) e1.1 (e1.bd hb (by omega))
            have e2 : Sg n [] [false] Dm (-1) s s2 := by have := e1.tr (g2.mo (show A ≤ Dm by omega) (Int.le_refl _)) hb; exact this
            have e3 : Sg n [] [false] Dm 0 s (tkS T n 29 s2) := (e2.tr (Sg.tk (T := T) (k := 29) g2.1 (by decide) (by simp; omega)) hb).mo (Nat.le_refl _) (by omega)
            refine ⟨_, e3, fun Dd c v hD hC => ?_, fun Dd c v hD hM => ?_⟩
            · obtain ⟨d, rfl⟩ : ∃ d, Dd = d + 9 + 1 := ⟨Dd - 10, by omega⟩
              refine CV_of (loc55 _) (clp d c v _ hC (brbN (fun z => absurd h28 z) (fun _ => kI (C_mayNest (d := d + 7) hC) (fun v1 h1 => ?_))))
              rw [em] at h1 ⊢
              rw [if_pos hf]
              refine brbI (fun z => absurd z (by decide)) (fun _ => kN (C_take (d := d + 7) h1.1 ho 28) (fun v2 h2 => ?_))
              rw [tkS_t hf h28] at h2
              exact rngI (by omega) (kN (gc2 (d + 9) c v2 (by omega) h2.1) (fun v3 h3 => kN (C_take (d := d + 7) h3.1 g2.1 29) (fun v4 h4 => ⟨rfl, _, rfl, h4.1, (((h1.2.wk (by decide)).tr (h2.2.wk (by decide))).tr h3.2).tr (h4.2.wk (by decide))⟩)))
            · obtain ⟨d, rfl⟩ : ∃ d, Dd = d + 9 + 1 := ⟨Dd - 10, by omega⟩
              refine CV_of (loc185 _) (mop d c v _ hM (kI0 (C_isS (d := d + 8) hM ho 28 (by omega) (by decide)) ?_))
              rw [if_pos ⟨hf, h28⟩]
              refine brbI (fun z => absurd z (by decide)) (fun _ => kI (C_goesIn (d := d + 2) hM ho hdep.2) (fun v1 h1 => ?_))
              rw [eg] at h1
              rw [em, if_pos hf]
              exact brbN (fun _ => rngI (by omega) (kN (gm2 (d + 9) c v1 (by omega) h1.1) (fun v2 h2 => tk_m (d := d + 2) h2.1 g2.1 29 (by omega) (by decide) (fun v3 h3 f3 => ⟨rfl, _, rfl, h3, (h1.2.tr h2.2).tr f3⟩)))) (fun z => absurd z (by decide))
          · have em : mnS dep s = flS 4 s := by unfold mnS; rw [if_neg hd6]
            have hne : (flS 4 s).ft ≠ 0 := flS_ft (by omega)
            have eg : giS T n dep s = flS 4 s := by unfold giS; rw [em, if_neg hne]
            refine ⟨_, Sg.fl (w := 4) ho (by omega), fun Dd c v hD hC => ?_, fun Dd c v hD hM => ?_⟩
            · obtain ⟨d, rfl⟩ : ∃ d, Dd = d + 9 + 1 := ⟨Dd - 10, by omega⟩
              refine CV_of (loc55 _) (clp d c v _ hC (brbN (fun z => absurd h28 z) (fun _ => kI (C_mayNest (d := d + 7) hC) (fun v1 h1 => ?_))))
              rw [em] at h1 ⊢
              rw [if_neg hne]
              refine brbI (fun _ => brbN (fun _ => kN (C_failR (d := d + 8) h1.1 2 (by omega)) (fun v2 h2 => ⟨rfl, _, rfl, by rw [flS_d hne] at h2; exact h2.1, (h1.2.wk (by decide)).tr (h2.2.wk (by decide))⟩)) (fun z => absurd z (by omega))) (fun z => absurd rfl z)
            · obtain ⟨d, rfl⟩ : ∃ d, Dd = d + 9 + 1 := ⟨Dd - 10, by omega⟩
              refine CV_of (loc185 _) (mop d c v _ hM (kI0 (C_isS (d := d + 8) hM ho 28 (by omega) (by decide)) ?_))
              rw [if_pos ⟨hf, h28⟩]
              refine brbI (fun z => absurd z (by decide)) (fun _ => kI (C_goesIn (d := d + 2) hM ho hdep.2) (fun v1 h1 => ?_))
              rw [eg] at h1
              rw [em, if_neg hne]
              exact brbN (fun z => absurd rfl z) (fun _ => ⟨rfl, _, rfl, h1.1, h1.2⟩)
        · rcases Decidable.em (s.kd = 16) with h16 | h16
          · rcases Decidable.em (dep < 6) with hd6 | hd6
            · have em : mnS dep s = s := by unfold mnS; rw [if_pos hd6]
              obtain ⟨s', a1, a2, a3⟩ := if_ok ⟨hdep.1, hd6⟩ (hs hd6) (ht hd6) hA hB h3 h8 s ho hb hf h16
              refine ⟨s', a1, fun Dd c v hD hC => ?_, fun Dd c v hD hM => ?_⟩
              · obtain ⟨d, rfl⟩ : ∃ d, Dd = d + 9 + 1 := ⟨Dd - 10, by omega⟩
                refine CV_of (loc55 _) (clp d c v _ hC (brbN (fun _ => brbN (fun z => absurd h16 z) (fun _ => kI (C_mayNest (d := d + 7) hC) (fun v1 h1 => ?_))) (fun z => absurd z h28)))
                rw [em] at h1 ⊢
                rw [if_pos hf]
                exact brbI (fun z => absurd z (by decide)) (fun _ => rngI (by omega) (kN (a2 (d + 9) c v1 (by omega) h1.1) (fun v2 h2 => ⟨rfl, _, rfl, h2.1, (h1.2.wk (by decide)).tr h2.2⟩)))
              · obtain ⟨d, rfl⟩ : ∃ d, Dd = d + 9 + 1 := ⟨Dd - 10, by omega⟩
                refine CV_of (loc185 _) (mop d c v _ hM (kI0 (C_isS (d := d + 8) hM ho 28 (by omega) (by decide)) ?_))
                rw [if_neg (fun z => h28 z.2)]
                refine brbI (fun _ => kI0 (C_isS (d := d + 8) hM ho 16 (by omega) (by decide)) ?_) (fun z => absurd rfl z)
                rw [if_pos ⟨hf, h16⟩]
                exact brbI (fun z => absurd z (by decide)) (fun _ => kN (a3 (d + 9) c v (by omega) hM) (fun v2 h2 => ⟨rfl, _, rfl, h2⟩))
            · have em : mnS dep s = flS 4 s := by unfold mnS; rw [if_neg hd6]
              have hne : (flS 4 s).ft ≠ 0 := flS_ft (by omega)
              have eg : giS T n dep s = flS 4 s := by unfold giS; rw [em, if_neg hne]
              refine ⟨_, Sg.fl (w := 4) ho (by omega), fun Dd c v hD hC => ?_, fun Dd c v hD hM => ?_⟩
              · obtain ⟨d, rfl⟩ : ∃ d, Dd = d + 9 + 1 := ⟨Dd - 10, by omega⟩
                refine CV_of (loc55 _) (clp d c v _ hC (brbN (fun _ => brbN (fun z => absurd h16 z) (fun _ => kI (C_mayNest (d := d + 7) hC) (fun v1 h1 => ?_))) (fun z => absurd z h28)))
                rw [em] at h1 ⊢
                rw [if_neg hne]
                exact brbI (fun _ => kN (C_failR (d := d + 8) h1.1 2 (by omega)) (fun v2 h2 => ⟨rfl, _, rfl, by rw [flS_d hne] at h2; exact h2.1, (h1.2.wk (by decide)).tr (h2.2.wk (by decide))⟩)) (fun z => absurd rfl z)
              · obtain ⟨d, rfl⟩ : ∃ d, Dd = d + 9 + 1 := ⟨Dd - 10, by omega⟩
                refine CV_of (loc185 _) (mop d c v _ hM (kI0 (C_isS (d := d + 8) hM ho 28 (by omega) (by decide)) ?_))
                rw [if_neg (fun z => h28 z.2)]
                refine brbI (fun _ => kI0 (C_isS (d := d + 8) hM ho 16 (by omega) (by decide)) ?_) (fun z => absurd rfl z)
                rw [if_pos ⟨hf, h16⟩]
                refine brbI (fun z => absurd z (by decide)) (fun _ => kN (CV_of (loc186 _) (E186_0 _ (kI (C_goesIn (d := d + 1) hM ho hdep.2) (fun v1 h1 => ?_))) : ∃ v', Ev (d + 8 + 1) 186 [(2, 163), (0, dep)] (c, v) none (c, v') ∧ (MS T n v' (flS 4 s) ∧ FR v v')) (fun v2 h2 => ⟨rfl, _, rfl, h2⟩))
                rw [eg] at h1
                rw [em, if_neg hne]
                exact brbN (fun z => absurd rfl z) (fun _ => ⟨rfl, _, rfl, h1.1, h1.2⟩)
          · refine ⟨_, Sg.fl (w := 2) ho (by omega), fun Dd c v hD hC => ?_, fun Dd c v hD hM => ?_⟩
            · obtain ⟨d, rfl⟩ : ∃ d, Dd = d + 9 + 1 := ⟨Dd - 10, by omega⟩
              exact CV_of (loc55 _) (clp d c v _ hC (brbN (fun _ => brbN (fun _ => kN (C_failR (d := d + 8) hC 2 (by omega)) (fun v2 h2 => ⟨rfl, _, rfl, h2.1, h2.2.wk (by decide)⟩)) (fun z => absurd z h16)) (fun z => absurd z h28)))
            · obtain ⟨d, rfl⟩ : ∃ d, Dd = d + 9 + 1 := ⟨Dd - 10, by omega⟩
              refine CV_of (loc185 _) (mop d c v _ hM (kI0 (C_isS (d := d + 8) hM ho 28 (by omega) (by decide)) ?_))
              rw [if_neg (fun z => h28 z.2)]
              refine brbI (fun _ => kI0 (C_isS (d := d + 8) hM ho 16 (by omega) (by decide)) ?_) (fun z => absurd rfl z)
              rw [if_neg (fun z => h16 z.2)]
              exact brbI (fun _ => kN (C_failsS (d := d + 8) hM ho 2 (by omega)) (fun v2 h2 => ⟨rfl, _, rfl, h2⟩)) (fun z => absurd rfl z)
      · have h36 : s.kd ≠ 36 := fun z => hw (by rw [z]; unfold wo; simp)
        have hroom := bd_room ho hb h36
        obtain ⟨w1, w2, w3⟩ := wo_enc hb.1 h38 hw
        obtain ⟨p1, p2, p3, p4⟩ := adS_p (x := 1000 + wo s.law s.kd) (s := s)
        have e1 : Sg n [] [false] Dm 1 s (adS (1000 + wo s.law s.kd) s) := Sg.ad ho (fun z => (hroom z).1) (fun ts => tck_n (by omega) _) (by simp) (by simp; omega) (fun _ => w3)
        have e2 : Sg n [] [false] Dm 0 s (tkS T n s.kd (adS (1000 + wo s.law s.kd) s)) := by have := e1.tr (Sg.tk (T := T) (k := s.kd) e1.1 h36 (by simp; omega)) hb; exact this
        refine ⟨_, e2, fun Dd c v hD hC => ?_, fun Dd c v hD hM => ?_⟩
        · obtain ⟨d, rfl⟩ : ∃ d, Dd = d + 9 + 1 := ⟨Dd - 10, by omega⟩
          refine CV_of (loc55 _) (E55_0 _ ?_)
          rw [hC.2.1.1, hC.1.1]
          refine brbI (fun _ => brbN (fun _ => kI0 (C_isOfLaw (d := d + 8) (hC.2.1.2.2 hlaw) s.kd) ?_) (fun z => absurd z h35)) (fun z => absurd hf z)
          rw [if_neg hw]
          exact brbI (fun z => absurd z (by decide)) (fun _ => kN (C_addR (d := d + 7) (x := 1000 + wo s.law s.kd) hC (fun _ => w1) h38 hroom) (fun v1 h1 => kN (C_take (d := d + 7) h1.1 e1.1 s.kd) (fun v2 h2 => ⟨rfl, _, rfl, h2.1, (h1.2.wk (by decide)).tr (h2.2.wk (by decide))⟩)))
        · obtain ⟨d, rfl⟩ : ∃ d, Dd = d + 9 + 1 := ⟨Dd - 10, by omega⟩
          refine CV_of (loc185 _) (E185_0 _ (kI0 (C_isS (d := d + 8) hM ho 35 (by omega) (by decide)) ?_))
          have hwd := C_wordOf (d := d + 8) (c := c) (hM.2.2.2.1 hlaw) (km s.kd)
          rw [wo_km hb.1 h38] at hwd
          rw [if_neg (fun z => h35 z.2), hM.2.2.1.1, hM.2.1.1]
          refine brbI (fun _ => brbN (fun z => absurd hf z) (fun _ => kI0 hwd ?_)) (fun z => absurd rfl z)
          refine brbI (fun z => absurd z hw) (fun _ => ?_)
          rw [hM.2.1.1]
          refine kI0 hwd (rngI (by omega) (kN (C_codesS (d := d + 8) (x := 1000 + wo s.law s.kd) hM hroom) (fun v1 h1 => kN (C_nextS (d := d + 3) h1.1 e1.1) (fun v2 h2 => ⟨rfl, _, rfl, ?_, h1.2.tr h2.2⟩))))
          rw [tkS_t (by rw [p2]; exact hf) p1]
          exact h2.1
  · refine ⟨s, Sg.dead ho hf, fun Dd c v hD hC => ?_, fun Dd c v hD hM => ?_⟩
    · obtain ⟨d, rfl⟩ : ∃ d, Dd = d + 9 + 1 := ⟨Dd - 10, by omega⟩
      refine CV_of (loc55 _) (E55_0 _ ?_)
      rw [hC.2.1.1]
      exact brbI (fun z => absurd z hf) (fun _ => ⟨rfl, _, rfl, hC, Off.rf _ v⟩)
    · obtain ⟨d, rfl⟩ : ∃ d, Dd = d + 9 + 1 := ⟨Dd - 10, by omega⟩
      refine CV_of (loc185 _) (E185_0 _ (kI0 (C_isS (d := d + 8) hM ho 35 (by omega) (by decide)) ?_))
      rw [if_neg (fun z => hf z.1), hM.2.2.1.1]
      refine brbI (fun _ => brbN (fun _ => kI0 (C_isS (d := d + 8) hM ho 28 (by omega) (by decide)) ?_) (fun z => absurd z hf)) (fun z => absurd rfl z)
      rw [if_neg (fun z => hf z.1)]
      refine brbI (fun _ => kI0 (C_isS (d := d + 8) hM ho 16 (by omega) (by decide)) ?_) (fun z => absurd rfl z)
      rw [if_neg (fun z => hf z.1)]
      exact brbI (fun _ => kN (C_failsS (d := d + 8) hM ho 2 (by omega)) (fun v2 h2 => ⟨rfl, _, rfl, by rw [flS_d hf] at h2; exact h2⟩)) (fun z => absurd rfl z)
end Par5
