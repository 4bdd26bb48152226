section Par6
variable {c : Nat}
def cmX (k : Int) : Int := if k = 32 then 3003 else if k = 33 then 3004 else 3005
def cmS (T : Int → Int) (n : Int) (s : PS) : PS := if s.ft = 0 ∧ (s.kd = 32 ∨ s.kd = 33 ∨ s.kd = 34) then stS T n s else flS 2 s
theorem cmX_t (k : Int) (ts : List Bool) : tck (cmX k) ([false, false] ++ ts) = some ([true] ++ ts) := by
  unfold cmX
  split
  · rfl
  · split <;> rfl
theorem cmX_w (k law : Int) : wok law (cmX k) := Or.inr (Or.inl (by unfold cmX; split <;> (try split) <;> decide))
set_option maxHeartbeats 2000000 in
theorem unit_ok {T : Int → Int} {n dep : Int} {A B C Dm h h2 : Nat} (hdep : 0 ≤ dep ∧ dep ≤ 6) (hs : Gdp T n false A h 53 188 dep) (hu : dep < 6 → Gdp T n true C h2 61 189 (dep + 1)) (ht : dep < 6 → Gdp T n true B h2 59 191 (dep + 1)) (hA : A + 1 ≤ Dm) (hC : C ≤ Dm) (hB : B ≤ Dm) (h3 : 2 ≤ Dm) (h8 : 8 ≤ h) (hh : h2 ≤ h + 1) : Gdp T n true Dm (h + 2) 61 189 dep := by
  intro s ho hb
  rcases Decidable.em (s.ft = 0 ∧ s.kd = 20) with q20 | q20
  · obtain ⟨hf, h20⟩ := q20
    rcases Decidable.em (dep < 6) with hd6 | hd6
    · have em : mnS dep s = s := by unfold mnS; rw [if_pos hd6]
      have eg : giS T n dep s = stS T n s := by unfold giS; rw [em, if_pos hf]
      have e1 : Sg n [] [] Dm (-1) s (stS T n s) := Sg.st ho hf (by omega) (by simp)
      obtain ⟨s2, g2, gc2, gm2⟩ := hu hd6 (stS T n s) e1.1 (e1.bd hb (by omega))
      have e2 : Sg n [] [true] Dm (-1) s s2 := by have := e1.tr (g2.mo hC (Int.le_refl _)) hb; exact this
      have hroom := e2.room hb
      have e3 : Sg n [] [true] Dm 0 s (adS 3006 s2) := by
        have := e2.tr (Sg.ad (x := 3006) (us := [true]) (ws := [true]) g2.1 (fun z => (hroom z).1) (fun ts => rfl) (by simp; omega) (by simp; omega) (fun _ => Or.inr (Or.inl (by decide)))) hb
        exact this
      refine ⟨_, e3, fun Dd c v hD hCv => ?_, fun Dd c v hD hM => ?_⟩
      · obtain ⟨d, rfl⟩ : ∃ d, Dd = d + 9 + 1 := ⟨Dd - 10, by omega⟩
        refine CV_of (loc61 _) (E61_0 _ ?_)
        rw [hCv.2.1.1, hCv.1.1]
        refine brbI (fun _ => brbN (fun z => absurd h20 z) (fun _ => kI (C_mayNest (d := d + 7) hCv) (fun v1 h1 => ?_))) (fun z => absurd hf z)
        rw [em] at h1 ⊢
        rw [if_pos hf]
        refine brbI (fun z => absurd z (by decide)) (fun _ => kN (C_take (d := d + 7) h1.1 ho 20) (fun v2 h2 => ?_))
        rw [tkS_t hf h20] at h2
        exact rngI (by omega) (kN (gc2 (d + 9) c v2 (by omega) h2.1) (fun v3 h3 => kN (C_addR (d := d + 7) (x := 3006) h3.1 (fun _ => by decide) (by omega) hroom) (fun v4 h4 => ⟨rfl, _, rfl, h4.1, (((h1.2.wk (by decide)).tr (h2.2.wk (by decide))).tr h3.2).tr (h4.2.wk (by decide))⟩)))
      · obtain ⟨d, rfl⟩ : ∃ d, Dd = d + 9 + 1 := ⟨Dd - 10, by omega⟩
        refine CV_of (loc189 _) (E189_0 _ (kI0 (C_isS (d := d + 8) hM ho 20 (by omega) (by decide)) ?_))
        rw [if_pos ⟨hf, h20⟩]
        refine brbI (fun z => absurd z (by decide)) (fun _ => kI (C_goesIn (d := d + 2) hM ho hdep.2) (fun v1 h1 => ?_))
        rw [eg] at h1
        rw [em, if_pos hf]
        exact brbN (fun _ => rngI (by omega) (kN (gm2 (d + 9) c v1 (by omega) h1.1) (fun v2 h2 => kN (C_codesS (d := d + 8) (x := 3006) h2.1 hroom) (fun v3 h3 => ⟨rfl, _, rfl, h3.1, (h1.2.tr h2.2).tr h3.2⟩)))) (fun z => absurd z (by decide))
    · have em : mnS dep s = flS 4 s := by unfold mnS; rw [if_neg hd6]
      have hne : (flS 4 s).ft ≠ 0 := flS_ft (by omega)
      have eg : giS T n dep s = flS 4 s := by unfold giS; rw [em, if_neg hne]
      refine ⟨_, Sg.fl (w := 4) ho (by omega), fun Dd c v hD hCv => ?_, fun Dd c v hD hM => ?_⟩
      · obtain ⟨d, rfl⟩ : ∃ d, Dd = d + 9 + 1 := ⟨Dd - 10, by omega⟩
        refine CV_of (loc61 _) (E61_0 _ ?_)
        rw [hCv.2.1.1, hCv.1.1]
        refine brbI (fun _ => brbN (fun z => absurd h20 z) (fun _ => kI (C_mayNest (d := d + 7) hCv) (fun v1 h1 => ?_))) (fun z => absurd hf z)
        rw [em] at h1 ⊢
        rw [if_neg hne]
        exact brbI (fun _ => ⟨rfl, _, rfl, h1.1, h1.2.wk (by decide)⟩) (fun z => absurd rfl z)
      · obtain ⟨d, rfl⟩ : ∃ d, Dd = d + 9 + 1 := ⟨Dd - 10, by omega⟩
        refine CV_of (loc189 _) (E189_0 _ (kI0 (C_isS (d := d + 8) hM ho 20 (by omega) (by decide)) ?_))
        rw [if_pos ⟨hf, h20⟩]
        refine brbI (fun z => absurd z (by decide)) (fun _ => kI (C_goesIn (d := d + 2) hM ho hdep.2) (fun v1 h1 => ?_))
        rw [eg] at h1
        rw [em, if_neg hne]
        exact brbN (fun z => absurd rfl z) (fun _ => ⟨rfl, _, rfl, h1.1, h1.2⟩)
  · rcases Decidable.em (s.ft = 0 ∧ s.kd = 30) with q30 | q30
    · obtain ⟨hf, h30⟩ := q30
      rcases Decidable.em (dep < 6) with hd6 | hd6
      · have em : mnS dep s = s := by unfold mnS; rw [if_pos hd6]
        have eg : giS T n dep s = stS T n s := by unfold giS; rw [em, if_pos hf]
        have e1 : Sg n [] [] Dm (-1) s (stS T n s) := Sg.st ho hf (by omega) (by simp)
        obtain ⟨s2, g2, gc2, gm2⟩ := ht hd6 (stS T n s) e1.1 (e1.bd hb (by omega))
        have e2 : Sg n [] [true] Dm (-1) s s2 := by have := e1.tr (g2.mo hB (Int.le_refl _)) hb; exact this
        have e3 : Sg n [] [true] Dm 0 s (tkS T n 31 s2) := (e2.tr (Sg.tk (T := T) (k := 31) g2.1 (by decide) (by simp; omega)) hb).mo (Nat.le_refl _) (by omega)
        refine ⟨_, e3, fun Dd c v hD hCv => ?_, fun Dd c v hD hM => ?_⟩
        · obtain ⟨d, rfl⟩ : ∃ d, Dd = d + 9 + 1 := ⟨Dd - 10, by omega⟩
          refine CV_of (loc61 _) (E61_0 _ ?_)
          rw [hCv.2.1.1, hCv.1.1]
          refine brbI (fun _ => brbN (fun _ => brbN (fun z => absurd h30 z) (fun _ => kI (C_mayNest (d := d + 7) hCv) (fun v1 h1 => ?_))) (fun z => absurd z (by omega))) (fun z => absurd hf z)
          rw [em] at h1 ⊢
          rw [if_pos hf]
          refine brbI (fun z => absurd z (by decide)) (fun _ => kN (C_take (d := d + 7) h1.1 ho 30) (fun v2 h2 => ?_))
          rw [tkS_t hf h30] at h2
          exact rngI (by omega) (kN (gc2 (d + 9) c v2 (by omega) h2.1) (fun v3 h3 => kN (C_take (d := d + 7) h3.1 g2.1 31) (fun v4 h4 => ⟨rfl, _, rfl, h4.1, (((h1.2.wk (by decide)).tr (h2.2.wk (by decide))).tr h3.2).tr (h4.2.wk (by decide))⟩)))
        · obtain ⟨d, rfl⟩ : ∃ d, Dd = d + 9 + 1 := ⟨Dd - 10, by omega⟩
          refine CV_of (loc189 _) (E189_0 _ (kI0 (C_isS (d := d + 8) hM ho 20 (by omega) (by decide)) ?_))
          rw [if_neg q20]
          refine brbI (fun _ => kI0 (C_isS (d := d + 8) hM ho 30 (by omega) (by decide)) ?_) (fun z => absurd rfl z)
          rw [if_pos ⟨hf, h30⟩]
          refine brbI (fun z => absurd z (by decide)) (fun _ => kI (C_goesIn (d := d + 2) hM ho hdep.2) (fun v1 h1 => ?_))
          rw [eg] at h1
          rw [em, if_pos hf]
          exact brbN (fun _ => rngI (by omega) (kN (gm2 (d + 9) c v1 (by omega) h1.1) (fun v2 h2 => tk_m (d := d + 2) h2.1 g2.1 31 (by omega) (by decide) (fun v3 h3 f3 => ⟨rfl, _, rfl, h3, (h1.2.tr h2.2).tr f3⟩)))) (fun z => absurd z (by decide))
      · have em : mnS dep s = flS 4 s := by unfold mnS; rw [if_neg hd6]
        have hne : (flS 4 s).ft ≠ 0 := flS_ft (by omega)
        have eg : giS T n dep s = flS 4 s := by unfold giS; rw [em, if_neg hne]
        refine ⟨_, Sg.fl (w := 4) ho (by omega), fun Dd c v hD hCv => ?_, fun Dd c v hD hM => ?_⟩
        · obtain ⟨d, rfl⟩ : ∃ d, Dd = d + 9 + 1 := ⟨Dd - 10, by omega⟩
          refine CV_of (loc61 _) (E61_0 _ ?_)
          rw [hCv.2.1.1, hCv.1.1]
          refine brbI (fun _ => brbN (fun _ => brbN (fun z => absurd h30 z) (fun _ => kI (C_mayNest (d := d + 7) hCv) (fun v1 h1 => ?_))) (fun z => absurd z (by omega))) (fun z => absurd hf z)
          rw [em] at h1 ⊢
          rw [if_neg hne]
          exact brbI (fun _ => ⟨rfl, _, rfl, h1.1, h1.2.wk (by decide)⟩) (fun z => absurd rfl z)
        · obtain ⟨d, rfl⟩ : ∃ d, Dd = d + 9 + 1 := ⟨Dd - 10, by omega⟩
          refine CV_of (loc189 _) (E189_0 _ (kI0 (C_isS (d := d + 8) hM ho 20 (by omega) (by decide)) ?_))
          rw [if_neg q20]
          refine brbI (fun _ => kI0 (C_isS (d := d + 8) hM ho 30 (by omega) (by decide)) ?_) (fun z => absurd rfl z)
          rw [if_pos ⟨hf, h30⟩]
          refine brbI (fun z => absurd z (by decide)) (fun _ => kI (C_goesIn (d := d + 2) hM ho hdep.2) (fun v1 h1 => ?_))
          rw [eg] at h1
          rw [em, if_neg hne]
          exact brbN (fun z => absurd rfl z) (fun _ => ⟨rfl, _, rfl, h1.1, h1.2⟩)
    · obtain ⟨s1, g1, gc1, gm1⟩ := hs s ho hb
      have e1 : Sg n [] [false] Dm 0 s s1 := g1.mo (by omega) (Int.le_refl _)
      have e2 : Sg n [] [false] Dm (-1) s (cmS T n s1) := by
        have : Sg n [false] [false] Dm (-1) s1 (cmS T n s1) := by
          unfold cmS
          rcases Decidable.em (s1.ft = 0 ∧ (s1.kd = 32 ∨ s1.kd = 33 ∨ s1.kd = 34)) with z | z
          · rw [if_pos z]; exact Sg.st g1.1 z.1 (by omega) (by simp; omega)
          · rw [if_neg z]; exact Sg.fl g1.1 (by omega)
        have := e1.tr this hb
        exact this
      obtain ⟨s3, g3, gc3, gm3⟩ := hs (cmS T n s1) e2.1 (e2.bd hb (by omega))
      have e3 : Sg n [] [false, false] Dm (-1) s s3 := by have := e2.tr ((g3.fr [false]).mo (show A + 1 ≤ Dm by omega) (Int.le_refl _)) hb; exact this
      have hroom := e3.room hb
      have e4 : Sg n [] [true] Dm 0 s (adS (cmX s1.kd) s3) := by
        have := e3.tr (Sg.ad (x := cmX s1.kd) (us := [false, false]) (ws := [true]) g3.1 (fun z => (hroom z).1) (cmX_t s1.kd) (by simp; omega) (by simp; omega) (fun _ => cmX_w _ _)) hb
        exact this
      have h38 := g1.1.2.2.1
      have hcd : ∀ z : s3.ft = 0, s1.ft = 0 ∧ (s1.kd = 32 ∨ s1.kd = 33 ∨ s1.kd = 34) := fun z => by
        have z2 := g3.live z
        unfold cmS at z2
        rcases Decidable.em (s1.ft = 0 ∧ (s1.kd = 32 ∨ s1.kd = 33 ∨ s1.kd = 34)) with w | w
        · exact w
        · rw [if_neg w] at z2; exact absurd z2 (flS_ft (by omega))
      have hen : s3.ft = 0 → 1000 + s1.kd = enc (cmX s1.kd) := fun z => by
        rcases (hcd z).2 with w | w | w <;> rw [w] <;> decide
      refine ⟨_, e4, fun Dd c v hD hCv => ?_, fun Dd c v hD hM => ?_⟩
      · have hcmp : ∀ (D c : Nat) (v : sF), h + 1 ≤ D → CS T n v s → ∃ v', Ev D 62 [(2, 37), (0, dep)] (c, v) none (c, v') ∧ (CS T n v' (adS (cmX s1.kd) s3) ∧ Off sC v v') := by
          intro D c v hD hCv
          obtain ⟨d, rfl⟩ : ∃ d, D = d + 8 + 1 := ⟨D - 9, by omega⟩
          refine CV_of (loc62 _) (E62_0 _ (kN (gc1 (d + 8) c v (by omega) hCv) (fun v1 h1 => ?_)))
          rw [h1.1.1.1]
          have tail : ∀ (w : sF) (sa : PS), CS T n w sa → Ok0 n sa → tkS T n s1.kd sa = cmS T n s1 → Off sC v1 w → ∃ c3 v4, Ev (d + 8) 44 [(2, 37), (0, s1.kd)] (c, w) none (c3, v4) ∧ ∃ c5 v6, Ev (d + 8) 53 [(2, 37), (0, dep)] (c3, v4) none (c5, v6) ∧ ∃ c7 v8, Ev (d + 8) 52 [(2, 37), (0, s1.kd)] (c5, v6) none (c7, v8) ∧ ((none : Option sV) = none ∧ ∃ v', ((c7, v8) : sM) = (c, v') ∧ (CS T n v' (adS (cmX s1.kd) s3) ∧ Off sC v v')) := by
            intro w sa hw hoa hta hof
            refine kN (C_take (d := d + 6) hw hoa s1.kd) (fun v2 h2 => ?_)
            rw [hta] at h2
            exact kN (gc3 (d + 8) c v2 (by omega) h2.1) (fun v3 h3 => kN (C_addR (d := d + 6) (x := cmX s1.kd) h3.1 hen h38 hroom) (fun v4 h4 => ⟨rfl, _, rfl, h4.1, (((h1.2.tr hof).tr (h2.2.wk (by decide))).tr h3.2).tr (h4.2.wk (by decide))⟩))
          have hk : ∀ k : Int, s1.kd = k → (k = 32 ∨ k = 33 ∨ k = 34) → tkS T n s1.kd s1 = cmS T n s1 := fun k e hk => by
            rcases Decidable.em (s1.ft = 0) with z | z
            · rw [tkS_t z rfl]; unfold cmS; rw [if_pos ⟨z, by omega⟩]
            · rw [tkS_d z]; unfold cmS; rw [if_neg (fun w => z w.1), flS_d z]
          refine brbI (fun z => tail v1 s1 h1.1 g1.1 (hk _ z (by omega)) (Off.rf _ _)) (fun z1 => brbI (fun z => tail v1 s1 h1.1 g1.1 (hk _ z (by omega)) (Off.rf _ _)) (fun z2 => brbI (fun z => tail v1 s1 h1.1 g1.1 (hk _ z (by omega)) (Off.rf _ _)) (fun z3 => kN (C_failR (d := d + 7) h1.1 2 (by omega)) (fun v2 h2 => tail v2 (flS 2 s1) h2.1 (Ok0_fl g1.1 (by omega)) ?_ (h2.2.wk (by decide))))))
          rw [tkS_d (flS_ft (by omega))]
          unfold cmS; rw [if_neg (by omega)]
        obtain ⟨d, rfl⟩ : ∃ d, Dd = d + 9 + 1 := ⟨Dd - 10, by omega⟩
        refine CV_of (loc61 _) (E61_0 _ ?_)
        rw [hCv.2.1.1, hCv.1.1]
        rcases Decidable.em (s.ft = 0) with hf | hf
        · exact brbI (fun _ => brbN (fun _ => brbN (fun _ => kN (hcmp (d + 9) c v (by omega) hCv) (fun v1 h1 => ⟨rfl, _, rfl, h1⟩)) (fun z => absurd ⟨hf, z⟩ q30)) (fun z => absurd ⟨hf, z⟩ q20)) (fun z => absurd hf z)
        · refine brbI (fun z => absurd z hf) (fun _ => ⟨rfl, _, rfl, ?_, Off.rf _ v⟩)
          rw [e4.2.2.2.1 hf]
          exact hCv
      · obtain ⟨d, rfl⟩ : ∃ d, Dd = d + 9 + 1 := ⟨Dd - 10, by omega⟩
        refine CV_of (loc189 _) (E189_0 _ (kI0 (C_isS (d := d + 8) hM ho 20 (by omega) (by decide)) ?_))
        rw [if_neg q20]
        refine brbI (fun _ => kI0 (C_isS (d := d + 8) hM ho 30 (by omega) (by decide)) ?_) (fun z => absurd rfl z)
        rw [if_neg q30]
        refine brbI (fun _ => kN (gm1 (d + 9) c v (by omega) hM) (fun v1 h1 => ?_)) (fun z => absurd rfl z)
        have i32 := C_isS (d := d + 8) (c := c) h1.1 g1.1 (k' := 39) 32 (by omega) (by decide)
        have i33 := C_isS (d := d + 8) (c := c) h1.1 g1.1 (k' := 40) 33 (by omega) (by decide)
        have i34 := C_isS (d := d + 8) (c := c) h1.1 g1.1 (k' := 41) 34 (by omega) (by decide)
        have tail : ∀ (w : sF) (x : Int), MS T n w (cmS T n s1) → FR v1 w → (s3.ft = 0 → x = cmX s1.kd) → ∃ c86 v87, Ev (d + 9) 188 [(2, 163), (0, dep)] (c, w) none (c86, v87) ∧ ∃ c88 v89, Ev (d + 9) 183 [(2, 163), (0, x)] (c86, v87) none (c88, v89) ∧ ((none : Option sV) = none ∧ ∃ v', ((c88, v89) : sM) = (c, v') ∧ (MS T n v' (adS (cmX s1.kd) s3) ∧ FR v v')) := by
          intro w x hw hfr hx
          refine kN (gm3 (d + 9) c w (by omega) hw) (fun v2 h2 => kN (C_codesS (d := d + 8) (x := x) h2.1 hroom) (fun v3 h3 => ⟨rfl, _, rfl, ?_, ((h1.2.tr hfr).tr h2.2).tr h3.2⟩))
          rcases Decidable.em (s3.ft = 0) with z | z
          · rw [← hx z]; exact h3.1
          · rw [adS_d z]; rw [adS_d z] at h3; exact h3.1
        have nxt : ∀ k : Int, s1.ft = 0 → s1.kd = k → (k = 32 ∨ k = 33 ∨ k = 34) → cmS T n s1 = stS T n s1 := fun k z e hk => by unfold cmS; rw [if_pos ⟨z, by omega⟩]
        rcases Decidable.em (s1.ft = 0 ∧ s1.kd = 32) with z32 | z32
        · rw [if_pos z32] at i32
          have hn := nxt 32 z32.1 z32.2 (by omega)
          refine kI0 i32 (brbI (fun z => absurd z (by decide)) (fun _ => kI0 i32 (brbN (fun _ => kN (C_nextS (d := d + 3) h1.1 g1.1) (fun v2 h2 => tail v2 3003 (by rw [hn]; exact h2.1) h2.2 (fun _ => by rw [z32.2]; decide))) (fun z => absurd z (by decide)))))
        · rw [if_neg z32] at i32
          rcases Decidable.em (s1.ft = 0 ∧ s1.kd = 33) with z33 | z33
          · rw [if_pos z33] at i33
            have hn := nxt 33 z33.1 z33.2 (by omega)
            exact kI0 i32 (brbI (fun _ => kI0 i33 (brbI (fun z => absurd z (by decide)) (fun _ => kI0 i32 (brbN (fun z => absurd rfl z) (fun _ => kI0 i33 (brbN (fun _ => kN (C_nextS (d := d + 3) h1.1 g1.1) (fun v2 h2 => tail v2 3004 (by rw [hn]; exact h2.1) h2.2 (fun _ => by rw [z33.2]; decide))) (fun z => absurd z (by decide)))))))) (fun z => absurd rfl z))
          · rw [if_neg z33] at i33
            rcases Decidable.em (s1.ft = 0 ∧ s1.kd = 34) with z34 | z34
            · rw [if_pos z34] at i34
              have hn := nxt 34 z34.1 z34.2 (by omega)
              exact kI0 i32 (brbI (fun _ => kI0 i33 (brbI (fun _ => kI0 i32 (brbN (fun z => absurd rfl z) (fun _ => kI0 i33 (brbN (fun z => absurd rfl z) (fun _ => kI0 i34 (brbI (fun z => absurd z (by decide)) (fun _ => kN (C_nextS (d := d + 3) h1.1 g1.1) (fun v2 h2 => tail v2 3005 (by rw [hn]; exact h2.1) h2.2 (fun _ => by rw [z34.2]; decide))))))))) (fun z => absurd rfl z))) (fun z => absurd rfl z))
            · rw [if_neg z34] at i34
              have hn : cmS T n s1 = flS 2 s1 := by
                unfold cmS
                rw [if_neg (fun w => by
                  rcases w.2 with e | e | e
                  · exact z32 ⟨w.1, e⟩
                  · exact z33 ⟨w.1, e⟩
                  · exact z34 ⟨w.1, e⟩)]
              refine kI0 i32 (brbI (fun _ => kI0 i33 (brbI (fun _ => kI0 i32 (brbN (fun z => absurd rfl z) (fun _ => kI0 i33 (brbN (fun z => absurd rfl z) (fun _ => kI0 i34 (brbI (fun _ => kN (C_failsS (d := d + 8) h1.1 g1.1 2 (by omega)) (fun v2 h2 => tail v2 3005 (by rw [hn]; exact h2.1) h2.2 (fun z => ?_))) (fun z => absurd rfl z))))))) (fun z => absurd rfl z))) (fun z => absurd rfl z))
              have hh := hcd z
              rcases hh.2 with e | e | e
              · exact absurd ⟨hh.1, e⟩ z32
              · exact absurd ⟨hh.1, e⟩ z33
              · exact absurd ⟨hh.1, e⟩ z34
/-- laws are read alike -/
theorem law_ok {T : Int → Int} {n : Int} : ∀ r : Nat, r ≤ 6 → Gdp T n false (5 + 5 * r) (12 + 8 * r) 53 188 (6 - (r : Int)) ∧ Gdp T n true (6 + 5 * r) (14 + 8 * r) 61 189 (6 - (r : Int)) ∧ Gdp T n true (8 + 5 * r) (16 + 8 * r) 59 191 (6 - (r : Int)) := by
  have step : ∀ (dep : Int) (Da ha D h : Nat), 0 ≤ dep ∧ dep ≤ 6 → Gdp T n false Da ha 55 185 dep → 3 ≤ Da → 8 ≤ ha → D = Da + 2 → h = ha + 2 → (dep < 6 → ∃ C h2, Gdp T n true C h2 61 189 (dep + 1) ∧ C ≤ D + 1 ∧ h2 ≤ h + 1) → (dep < 6 → ∃ B h2, Gdp T n true B h2 59 191 (dep + 1) ∧ B ≤ D + 1 ∧ h2 ≤ h + 1) → Gdp T n false D h 53 188 dep ∧ Gdp T n true (D + 1) (h + 2) 61 189 dep ∧ Gdp T n true (D + 3) (h + 4) 59 191 dep := by
    intro dep Da ha D h hd hat h1 h2 eD eh hu ht
    have hs : Gdp T n false D h 53 188 dep := by
      have := sum_ok (by omega) (by omega) (term_ok (by omega) h2 hat)
      exact this.mo (by omega) (by omega)
    have hun : Gdp T n true (D + 1) (h + 2) 61 189 dep := by
      refine unit_ok (A := D) (B := D + 1) (C := D + 1) (h2 := h + 1) hd hs (fun q => ?_) (fun q => ?_) (by omega) (by omega) (by omega) (by omega) (by omega) (by omega)
      · obtain ⟨C, k, a, b, e⟩ := hu q
        exact a.mo b e
      · obtain ⟨C, k, a, b, e⟩ := ht q
        exact a.mo b e
    exact ⟨hs, hun, truth_ok (by omega) (by omega) (both_ok (by omega) (by omega) hun)⟩
  intro r
  induction r with
  | zero =>
    intro _
    have hat : Gdp T n false 3 10 55 185 (6 - ((0 : Nat) : Int)) := atom_ok (A := 0) (B := 0) (h := 8) (by omega) (fun q => absurd q (by omega)) (fun q => absurd q (by omega)) (by omega) (by omega) (by omega) (by omega)
    exact step _ 3 10 _ _ (by omega) hat (by omega) (by omega) (by omega) (by omega) (fun q => absurd q (by omega)) (fun q => absurd q (by omega))
  | succ r ih =>
    intro hr
    obtain ⟨i1, i2, i3⟩ := ih (by omega)
    rw [show 6 - (r : Int) = 6 - ((r + 1 : Nat) : Int) + 1 by omega] at i1 i2 i3
    have hat : Gdp T n false (8 + 5 * r) (16 + 8 * r + 2) 55 185 (6 - ((r + 1 : Nat) : Int)) := atom_ok (A := 5 + 5 * r) (B := 8 + 5 * r) (h := 16 + 8 * r) (by omega) (fun q => i1.mo (by omega) (by omega)) (fun q => i3) (by omega) (by omega) (by omega) (by omega)
    have := step _ (8 + 5 * r) (16 + 8 * r + 2) (5 + 5 * (r + 1)) (12 + 8 * (r + 1)) (by omega) hat (by omega) (by omega) (by omega) (by omega) (fun q => ⟨_, _, i2, by omega, by omega⟩) (fun q => ⟨_, _, i3, by omega, by omega⟩)
    exact ⟨this.1, this.2.1.mo (by omega) (by omega), this.2.2.mo (by omega) (by omega)⟩
end Par6
