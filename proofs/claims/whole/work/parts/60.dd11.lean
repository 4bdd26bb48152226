section Dd11
variable {d c : Nat}
/-- the cells that the class's deeds write -/
def cXD : List Int := [7, 11, 12] ++ ((List.range 24).map (fun i : Nat => 13 + (i : Int)) ++ (List.range 87).map (fun i : Nat => 58 + (i : Int)))
theorem cXD_mem {b : Int} : b ∈ cXD ↔ (b = 7 ∨ b = 11 ∨ b = 12 ∨ (13 ≤ b ∧ b ≤ 36) ∨ (58 ≤ b ∧ b ≤ 144)) := by
  unfold cXD
  rw [List.mem_append, List.mem_append, List.mem_map, List.mem_map]
  simp only [List.mem_cons, List.not_mem_nil, or_false, List.mem_range]
  constructor
  · rintro ((h | h | h) | ⟨i, hi, rfl⟩ | ⟨i, hi, rfl⟩) <;> omega
  · rintro (h | h | h | h | h)
    · exact Or.inl (Or.inl h)
    · exact Or.inl (Or.inr (Or.inl h))
    · exact Or.inl (Or.inr (Or.inr h))
    · exact Or.inr (Or.inl ⟨(b - 13).toNat, by omega, by omega⟩)
    · exact Or.inr (Or.inr ⟨(b - 58).toNat, by omega, by omega⟩)
theorem cDd_13 {b : Int} (h : b ∈ cDd 13) : b = 7 ∨ b = 11 ∨ b = 12 ∨ (13 ≤ b ∧ b ≤ 20) ∨ (140 ≤ b ∧ b ≤ 144) := by rw [cDd_mem, cPs_mem, nOf_mem] at h; omega
theorem cDd_29 {b : Int} (h : b ∈ cDd 29) : b = 7 ∨ b = 11 ∨ b = 12 ∨ (29 ≤ b ∧ b ≤ 36) ∨ (140 ≤ b ∧ b ≤ 144) := by rw [cDd_mem, cPs_mem, nOf_mem] at h; omega
theorem psh_k {al b al' : Int → Int} (h0 : 0 ≤ al 102 ∧ al 102 ≤ 10) (h : pshR al b al') : ∀ k : Int, (k < 102 ∨ 854 ≤ k) → al' k = al k := fun k hk => by
  have hr : al' 102 ≤ 10 := by rw [h.2.1]; split <;> omega
  exact h.1 k (by omega)
theorem St_psh {al b al' : Int → Int} (h0 : 0 ≤ al 102 ∧ al 102 ≤ 10) (h : pshR al b al') (hS : St al) : St al' ∧ al' 27 = al 27 ∧ sameT al al' := ⟨St_cg (psh_k h0 h) hS, psh_k h0 h 27 (by omega), fun k hk => psh_k h0 h k (by omega)⟩
/-- keeping the day before -/
theorem C_keep21 {v : sF} {al al1 al2 : Int → Int} {B : Int} (hS : St al) (hS1 : St al1) (hk : kK al al1) (hR : CR v 13 al1) (hN : NowR v 21 al) (hP : PsR v al1 B) (hp : pshR al1 al al2) (h27 : al 27 ≤ B) : ∃ v', Ev (d + 2) 39 [(2, 58), (2, 21)] (c, v) none (c, v') ∧ Off cPa v v' ∧ CR v' 13 al2 ∧ PsR v' al2 B := by
  obtain ⟨v', hE, hO, hP'⟩ := C_keep (d := d) (c := c) (a := 21) (Or.inr rfl) hP hp hS h27 (fun k hk2 => (hk k (by omega)).symm) hN
  have hs := St_psh hP.2.1 hp hS1
  refine ⟨v', hE, hO, ⟨TolR_cg hS1.1 hs.2.2 (hR.1.off hO (fun k hk z => by rw [cPa_mem] at z; omega)), NowR_cg hS1.2.2.1.2 (fun k k0 k1 => psh_k hP.2.1 hp k (by omega)) (hR.2.off hO (fun k k0 k1 z => by rw [cPa_mem] at z; omega))⟩, hP'⟩
theorem X_doOne {v : sF} {k p x : Int} {al al2 : Int → Int} {B : Int} (hS : St al) (hR : CR v 13 al) (hP : PsR v al B) (h27 : al 27 ≤ B) (hk : 0 ≤ k ∧ k ≤ 3) (hv : dvR al k p x al2) : ∃ v', Ev (d + 4) 122 [(2, 1), (0, k), (0, p), (0, x)] (c, v) (some (0, rD al k p x)) (c, v') ∧ Off cXD v v' ∧ CR v' 13 al2 ∧ PsR v' al2 B := by
  obtain ⟨v1, hE1, hO1, hN1⟩ := C_copy (d := d + 2) (c := c) (v := v) (a0 := 21) (a1 := 13) NT_21 NT_13 (by omega) hS.2.2.1.2 hR.2
  have hR1 : CR v1 13 al := ⟨hR.1.off hO1 (fun k hk z => by rw [nOf_mem] at z; omega), hR.2.off hO1 (fun k k0 k1 z => by rw [nOf_mem] at z; omega)⟩
  have hP1 : PsR v1 al B := hP.off hO1 (fun k hk => by rw [nOf_mem] at hk; omega)
  obtain ⟨al1, h1⟩ : ∃ al1, (dw al k p x = 0 → dR al k p x al1 ∧ K96 al al1 ∧ pshR al1 al al2) := by
    rcases hv with ⟨h, _⟩ | ⟨h, al1, h1⟩
    · exact ⟨al, fun q => absurd q h⟩
    · exact ⟨al1, fun _ => h1⟩
  obtain ⟨r, v2, hE2, hO2, h⟩ := C_act (d := d + 1) (c := c) (k := k) (p := p) (x := x) (al' := al1) (Or.inl rfl) hS hR1 hk (fun q => (h1 q).1)
  have hO12 : Off cXD v v2 := (hO1.wk (fun b hb => cXD_mem.2 (by rw [nOf_mem] at hb; omega))).tr (hO2.wk (fun b hb => cXD_mem.2 (by rw [nOf_mem] at hb; omega)))
  have hw := dw_r al k p x
  refine CI_of (loc122 k p x) (E122_0 k p x ⟨c, v1, hE1, r, c, v2, hE2, ?_⟩)
  rcases h with ⟨h2, h3, h4⟩ | ⟨h2, h3, h4⟩ | ⟨h2, h3, h4, h5⟩
  · rcases hv with ⟨q1, q2⟩ | ⟨q1, _⟩
    · subst h4
      rw [q2]
      exact brbI (fun _ => ⟨by unfold rD; rw [if_neg q1, h2, h3]; rfl, v2, rfl, hO12, hR1, hP1⟩) (fun z => absurd z (by omega))
    · omega
  · rcases hv with ⟨q1, q2⟩ | ⟨q1, _⟩
    · subst h4
      rw [q2]
      exact brbI (fun _ => ⟨by unfold rD; rw [if_neg q1, h2, h3]; rfl, v2, rfl, hO12, hR1, hP1⟩) (fun z => absurd z (by omega))
    · omega
  · have hh := h1 h2
    have hkk := dR_kK hS hk h2 hh.1
    have hst := St_dR hS hk h2 hh.1
    have hR2 : CR v2 13 al1 := ⟨TolR_cg hS.1 hkk.s (hR1.1.off hO2 (fun k hk z => by rw [nOf_mem] at z; omega)), h5⟩
    have hP2 : PsR v2 al1 B := (hP1.off hO2 (fun k hk => by rw [nOf_mem] at hk; omega)).kk hkk (Int.le_refl B)
    obtain ⟨v3, hE3, hO3, hR3, hP3⟩ := C_keep21 (d := d + 1) (c := c) hS hst.1 hkk hR2 (hN1.off hO2 (fun k k0 k1 z => by rw [nOf_mem] at z; omega)) hP2 hh.2.2 h27
    exact brbI (fun z => absurd z (by omega)) (fun _ => ⟨c, v3, hE3, by unfold rD; rw [if_pos h2, h4], v3, rfl, hO12.tr (hO3.wk (fun b hb => cXD_mem.2 (by rw [cPa_mem] at hb; omega))), hR3, hP3⟩)
theorem X_mail {v : sF} {p x : Int} {al al2 : Int → Int} {B : Int} (hS : St al) (hR : CR v 13 al) (hP : PsR v al B) (h27 : al 27 ≤ B) (hv : dvR al 0 p x al2) : ∃ v', Ev (d + 5) 118 [(2, 1), (0, p), (0, x)] (c, v) (some (0, rD al 0 p x)) (c, v') ∧ Off cXD v v' ∧ CR v' 13 al2 ∧ PsR v' al2 B := by
  obtain ⟨v1, hE, h⟩ := X_doOne (d := d) (c := c) hS hR hP h27 (by omega) hv
  exact CI_of (loc118 p x) (E118_0 p x ⟨_, c, v1, hE, rfl, v1, rfl, h⟩)
theorem X_move {v : sF} {p x : Int} {al al2 : Int → Int} {B : Int} (hS : St al) (hR : CR v 13 al) (hP : PsR v al B) (h27 : al 27 ≤ B) (hv : dvR al 1 p x al2) : ∃ v', Ev (d + 5) 119 [(2, 1), (0, p), (0, x)] (c, v) (some (0, rD al 1 p x)) (c, v') ∧ Off cXD v v' ∧ CR v' 13 al2 ∧ PsR v' al2 B := by
  obtain ⟨v1, hE, h⟩ := X_doOne (d := d) (c := c) hS hR hP h27 (by omega) hv
  exact CI_of (loc119 p x) (E119_0 p x ⟨_, c, v1, hE, rfl, v1, rfl, h⟩)
theorem X_arouse {v : sF} {p x : Int} {al al2 : Int → Int} {B : Int} (hS : St al) (hR : CR v 13 al) (hP : PsR v al B) (h27 : al 27 ≤ B) (hv : dvR al 2 p x al2) : ∃ v', Ev (d + 5) 120 [(2, 1), (0, p), (0, x)] (c, v) (some (0, rD al 2 p x)) (c, v') ∧ Off cXD v v' ∧ CR v' 13 al2 ∧ PsR v' al2 B := by
  obtain ⟨v1, hE, h⟩ := X_doOne (d := d) (c := c) hS hR hP h27 (by omega) hv
  exact CI_of (loc120 p x) (E120_0 p x ⟨_, c, v1, hE, rfl, v1, rfl, h⟩)
theorem X_mood {v : sF} {p x : Int} {al al2 : Int → Int} {B : Int} (hS : St al) (hR : CR v 13 al) (hP : PsR v al B) (h27 : al 27 ≤ B) (hv : dvR al 3 p x al2) : ∃ v', Ev (d + 5) 121 [(2, 1), (0, p), (0, x)] (c, v) (some (0, rD al 3 p x)) (c, v') ∧ Off cXD v v' ∧ CR v' 13 al2 ∧ PsR v' al2 B := by
  obtain ⟨v1, hE, h⟩ := X_doOne (d := d) (c := c) hS hR hP h27 (by omega) hv
  exact CI_of (loc121 p x) (E121_0 p x ⟨_, c, v1, hE, rfl, v1, rfl, h⟩)
theorem X_days {v : sF} {x r : Int} {al al2 : Int → Int} {B : Int} (hS : St al) (hR : CR v 13 al) (hP : PsR v al B) (h27 : al 27 ≤ B) (hB : al 27 ≤ 900000) (hv : dyV al x r al2) : ∃ v', Ev (d + 7) 123 [(2, 1), (0, x)] (c, v) (some (0, r)) (c, v') ∧ Off cXD v v' ∧ CR v' 13 al2 ∧ PsR v' al2 B := by
  refine CI_of (loc123 x) (E123_0 x ?_)
  rcases hv with ⟨h1, h2, h3⟩ | ⟨h1, al1, hd, hK, hp, hr⟩
  · rw [h2, h3]
    exact brbI (fun _ => ⟨rfl, v, rfl, Off.rf _ v, hR, hP⟩) (fun z => brbI (fun z2 => absurd ⟨by omega, z2⟩ h1) (fun _ => ⟨rfl, v, rfl, Off.rf _ v, hR, hP⟩))
  · have hkk := DyR_kK hS hd
    have h102 : al1 102 = al 102 := hkk 102 (by omega)
    have hr2 : 1 ≤ al2 102 ∧ al2 102 ≤ 10 := by rw [hp.2.1]; have := hP.2.1; split <;> omega
    obtain ⟨ap, hap⟩ : ∃ ap : Int → Int, ap = fun k => if 27 ≤ k ∧ k < 102 then al k else al2 k := ⟨_, rfl⟩
    have ap1 : ∀ k : Int, 27 ≤ k → k < 102 → ap k = al k := fun k k0 k1 => by rw [hap]; exact if_pos ⟨k0, k1⟩
    have ap2 : ∀ k : Int, (k < 27 ∨ 102 ≤ k) → ap k = al2 k := fun k hk => by rw [hap]; exact if_neg (by omega)
    have hpp : pshR al al ap := by
      refine ⟨fun k hk => ?_, ?_, fun j i j0 j1 i0 i1 => ?_, fun i i0 i1 => ?_⟩
      · rw [ap2 102 (by omega)] at hk
        by_cases e : 27 ≤ k ∧ k < 102
        · exact ap1 k e.1 e.2
        · rw [ap2 k (by omega), hp.1 k (by omega), hkk k (by omega)]
      · rw [ap2 102 (by omega), hp.2.1, h102]
      · rw [ap2 102 (by omega)] at j1
        rw [ap2 _ (by omega), hp.2.2.1 j i j0 j1 i0 i1, h102]
        exact hkk _ (by split <;> omega)
      · rw [ap2 102 (by omega), ap2 _ (by omega)]
        exact hp.2.2.2 i i0 i1
    have hS2 := St_Dy hS hd
    obtain ⟨v1, hE1, hO1, hP1⟩ := C_keep (d := d + 4) (c := c) (a := 13) (Or.inl rfl) hP hpp hS h27 (fun k _ => rfl) hR.2
    have hR1 : CR v1 13 al := ⟨hR.1.off hO1 (fun k hk z => by rw [cPa_mem] at z; omega), hR.2.off hO1 (fun k k0 k1 z => by rw [cPa_mem] at z; omega)⟩
    obtain ⟨v2, hE2, hO2, hN2⟩ := C_pass (d := d) (c := c) (n := x.toNat) (Or.inl rfl) hS hR1 hd (by omega) hB
    rw [show ((x.toNat : Nat) : Int) = x by omega, ← hr] at hE2
    have hst := St_psh (by rw [h102]; exact hP.2.1) hp hS2
    refine brbI (fun z => absurd z (by omega)) (fun _ => brbI (fun _ => ⟨c, v1, hE1, r, c, v2, hE2, rfl, v2, rfl, (hO1.wk (fun b hb => cXD_mem.2 (by rw [cPa_mem] at hb; omega))).tr (hO2.wk (fun b hb => cXD_mem.2 (by rw [cPs_mem] at hb; omega))), ⟨?_, ?_⟩, ?_⟩) (fun z => absurd h1.2 z))
    · exact TolR_cg hS2.1 hst.2.2 (TolR_cg hS.1 hkk.s (hR1.1.off hO2 (fun k hk z => by rw [cPs_mem] at z; omega)))
    · exact NowR_cg hS2.2.2.1.2 (fun k k0 k1 => psh_k (by rw [h102]; exact hP.2.1) hp k (by omega)) hN2
    · exact (hP1.off hO2 (fun k hk => by rw [cPs_mem] at hk; omega)).kk (fun k hk => (ap2 k hk).symm) (Int.le_refl B)
theorem X_undo {v : sF} {x : Int} {al al2 : Int → Int} {B : Int} (hS : St al) (hR : CR v 13 al) (hP : PsR v al B) (h27 : al 27 ≤ B) (hv : (1 ≤ x ∧ x ≤ al 102 ∧ uR al x al2) ∨ (¬ (1 ≤ x ∧ x ≤ al 102) ∧ al2 = al)) : ∃ v', Ev (d + 3) 124 [(2, 1), (0, x)] (c, v) (some (0, if 1 ≤ x ∧ x ≤ al 102 then al 102 - x else -3)) (c, v') ∧ Off cXD v v' ∧ CR v' 13 al2 ∧ PsR v' al2 B ∧ St al2 ∧ al2 27 ≤ B := by
  refine CI_of (loc124 x) (E124_0 x ?_)
  rw [hP.1]
  rcases hv with ⟨h1, h2, hu⟩ | ⟨h1, h2⟩
  · obtain ⟨v1, hE, hO, hP1, hN, hS1, hB⟩ := C_bringBack (d := d) (c := c) ⟨h1, h2⟩ hP hu
    have hO2 : Off cXD v v1 := hO.wk (fun b hb => cXD_mem.2 (by rw [List.mem_cons, nOf_mem] at hb; omega))
    rw [if_pos ⟨h1, h2⟩]
    refine brbI (fun z => absurd z (by omega)) (fun _ => brbI (fun _ => ⟨c, v1, hE, by rw [hP1.1, hu.2.1], v1, rfl, hO2, ⟨TolR_cg hS.1 (fun k hk => hu.1 k (by omega)) (hR.1.off hO (fun k hk z => by rw [List.mem_cons, nOf_mem] at z; omega)), hN⟩, hP1, hS1, hB⟩) (fun z => absurd h2 z))
  · rw [if_neg h1, h2]
    exact brbI (fun _ => ⟨rfl, v, rfl, Off.rf _ v, hR, hP, hS, h27⟩) (fun z => brbI (fun z2 => absurd ⟨by omega, z2⟩ h1) (fun _ => ⟨rfl, v, rfl, Off.rf _ v, hR, hP, hS, h27⟩))
theorem tr_there {v : sF} (hT : TrR v) {t : Int} (ht : 0 ≤ t ∧ t < 4) : v (155 + 2 * t) 0 = (if v 179 t = -1 then 0 else 1) ∧ (0 ≤ tsz v t ∧ tsz v t ≤ 40) ∧ (v 179 t ≠ -1 → TrX v t (tsz v t) (tnm v t)) := by
  have h := hT t ht.1 ht.2
  exact ⟨h.2.2.1, h.2.1, fun q => (h.2.2.2 q).2⟩
theorem X_judge {v : sF} {t y r : Int} {al : Int → Int} {B : Int} (hS : St al) (hR : CR v 13 al) (hP : PsR v al B) (hB : al 27 + 40 ≤ 900000) (hT : TrR v) (hv : jgV al (v 179 t) (tsz v t) (tnm v t) t y r) : ∃ v', Ev (d + 8) 125 [(2, 1), (0, t), (0, y)] (c, v) (some (0, r)) (c, v') ∧ Off cXD v v' ∧ CR v' 13 al ∧ PsR v' al B := by
  have hI := C_isTrayX (d := d + 6) (c := c) (v := v) (x := t)
  have hid : Off cXD v v ∧ CR v 13 al ∧ PsR v al B := ⟨Off.rf _ v, hR, hP⟩
  refine CI_of (loc125 t y) (E125_0 t y ⟨_, c, v, hI, bfz (fun z => ?_) (fun ht => ?_)⟩)
  · have e : r = -2 := by
      rcases hv with h | h | h | h
      · exact h.2
      · exact h.2.2
      · exact absurd h.2.1 z
      · exact absurd h.2.1 z
    rw [e]; exact ⟨rfl, v, rfl, hid⟩
  · by_cases hy : 0 ≤ y ∧ y ≤ 3
    · refine brbI (fun z => absurd z (by omega)) (fun _ => brbI (fun _ => ?_) (fun z => absurd hy.2 z))
      have hth := tr_there hT ht
      have ty := tr_ty ht
      refine chkI (inbI (by omega) (by omega)) (cktI (beqI ty.1) ?_)
      rw [hth.1]
      rcases hv with h | h | h | ⟨_, _, hT1, n, why, al1, hn0, hrun, htl, hr⟩
      · exact absurd hy h.1
      · exact absurd ht h.2.1
      · rw [if_pos h.2.2.1, h.2.2.2]
        exact brbN (fun q => absurd rfl q) (fun _ => ⟨rfl, v, rfl, hid⟩)
      · rw [if_neg hT1]
        refine brbN (fun _ => ?_) (fun q => absurd q (by decide))
        obtain ⟨v1, hE1, hO1, hN1⟩ := C_copy (d := d + 6) (c := c) (v := v) (a0 := 29) (a1 := 13) NT_29 NT_13 (by omega) hS.2.2.1.2 hR.2
        have hR1 : CR v1 29 al := ⟨hR.1.off hO1 (fun k hk z => by rw [nOf_mem] at z; omega), hN1⟩
        have hX1 : TrX v1 t (tsz v t) (tnm v t) := (hth.2.2 hT1).off ht hO1 (fun k hk => by rw [nOf_mem] at hk; omega)
        obtain ⟨v2, hE2, hO2, hR2, hwy⟩ := C_actAll (d := d) (c := c) (v := v1) (Or.inr rfl) ht hth.2.1 hX1 hn0 htl hrun hS hB hR1
        have hinv := RunR_inv _ hS hrun
        have hO12 : Off cXD v v2 := (hO1.wk (fun b hb => cXD_mem.2 (by rw [nOf_mem] at hb; omega))).tr (hO2.wk (fun b hb => cXD_mem.2 (by have := cDd_29 hb; omega)))
        have hfin : Off cXD v v2 ∧ CR v2 13 al ∧ PsR v2 al B := by
          refine ⟨hO12, ⟨?_, ?_⟩, ?_⟩
          · exact (hR.1.off hO1 (fun k hk z => by rw [nOf_mem] at z; omega)).off hO2 (fun k hk z => by have := cDd_29 z; omega)
          · exact (hR.2.off hO1 (fun k k0 k1 z => by rw [nOf_mem] at z; omega)).off hO2 (fun k k0 k1 z => by have := cDd_29 z; omega)
          · exact (hP.off hO1 (fun k hk => by rw [nOf_mem] at hk; omega)).off hO2 (fun k hk => by have := cDd_29 hk; omega)
        refine ⟨c, v1, hE1, chkI (inbI (by omega) (by omega)) ⟨n, c, v2, hE2, ?_⟩⟩
        rw [hwy]
        unfold jA at hr
        refine brbI (fun y0 => brbN (fun w => ?_) (fun w => ?_)) (fun y0 => brbI (fun y1 => ?_) (fun y1 => brbI (fun y2 => ⟨_, c, v2, C_givenBits (d := d + 6) NT_29 hinv.1.2.2 hR2.2, ?_⟩) (fun y2 => ⟨_, c, v2, C_lyingBits (d := d + 6) hinv.1 hR2.2, ?_⟩)))
        · rw [if_pos y0, if_neg w] at hr; rw [hr]; exact ⟨rfl, v2, rfl, hfin⟩
        · rw [if_pos y0, if_pos w] at hr; rw [hr]; exact ⟨rfl, v2, rfl, hfin⟩
        · rw [if_neg y0, if_pos y1] at hr; rw [hr]; exact ⟨rfl, v2, rfl, hfin⟩
        · rw [if_neg y0, if_neg y1, if_pos y2] at hr; rw [hr]; exact ⟨rfl, v2, rfl, hfin⟩
        · rw [if_neg y0, if_neg y1, if_neg y2] at hr; rw [hr]; exact ⟨rfl, v2, rfl, hfin⟩
    · have e : r = -2 := by
        rcases hv with h | h | h | h
        · exact h.2
        · exact h.2.2
        · exact absurd h.1 hy
        · exact absurd h.1 hy
      rw [e]
      exact brbI (fun _ => ⟨rfl, v, rfl, hid⟩) (fun z => brbI (fun z2 => absurd ⟨by omega, z2⟩ hy) (fun _ => ⟨rfl, v, rfl, hid⟩))
/-- kept, if any -/
theorem C_keptIfAny {v : sF} {r : Int} {al al1 al2 : Int → Int} {B : Int} (hS : St al) (hS1 : St al1) (hk : kK al al1) (hR : CR v 13 al1) (hN : NowR v 21 al) (hP : PsR v al1 B) (hp : (r ≤ 0 ∧ al2 = al1) ∨ (¬ r ≤ 0 ∧ pshR al1 al al2)) (h27 : al 27 ≤ B) : ∃ v', Ev (d + 3) 128 [(2, 1), (0, r)] (c, v) (some (0, r)) (c, v') ∧ Off cPa v v' ∧ CR v' 13 al2 ∧ PsR v' al2 B := by
  refine CI_of (loc128 r) (E128_0 r ?_)
  rcases hp with ⟨h1, h2⟩ | ⟨h1, h2⟩
  · rw [h2]
    exact brbI (fun _ => ⟨rfl, v, rfl, Off.rf _ v, hR, hP⟩) (fun z => absurd h1 z)
  · obtain ⟨v', hE, hO, hR', hP'⟩ := C_keep21 (d := d) (c := c) hS hS1 hk hR hN hP h2 h27
    exact brbI (fun z => absurd z h1) (fun _ => ⟨c, v', hE, rfl, v', rfl, hO, hR', hP'⟩)
theorem X_perform {v : sF} {t r : Int} {al al2 : Int → Int} {B : Int} (hS : St al) (hR : CR v 13 al) (hP : PsR v al B) (h27 : al 27 ≤ B) (hB : al 27 + 40 ≤ 900000) (hT : TrR v) (hv : pfV al (v 179 t) (tsz v t) (tnm v t) t r al2) : ∃ v', Ev (d + 8) 126 [(2, 1), (0, t)] (c, v) (some (0, r)) (c, v') ∧ Off cXD v v' ∧ CR v' 13 al2 ∧ PsR v' al2 B := by
  have hI := C_isTrayX (d := d + 6) (c := c) (v := v) (x := t)
  refine CI_of (loc126 t) (E126_0 t ⟨_, c, v, hI, bfi (fun ht => ?_) (fun z => ?_)⟩)
  · have hth := tr_there hT ht
    have ty := tr_ty ht
    refine chkI (inbI (by omega) (by omega)) (cktI (beqI ty.1) ?_)
    rw [hth.1]
    rcases hv with h | ⟨_, hT1, h2, h3⟩ | ⟨_, hT1, why, al1, hn0, hrun, htl, hr⟩
    · exact absurd ht h.1
    · rw [if_pos hT1, h2, h3]
      exact brbN (fun q => absurd rfl q) (fun _ => ⟨rfl, v, rfl, Off.rf _ v, hR, hP⟩)
    · rw [if_neg hT1]
      refine brbN (fun _ => ?_) (fun q => absurd q (by decide))
      obtain ⟨v1, hE1, hO1, hN1⟩ := C_copy (d := d + 6) (c := c) (v := v) (a0 := 21) (a1 := 13) NT_21 NT_13 (by omega) hS.2.2.1.2 hR.2
      have hR1 : CR v1 13 al := ⟨hR.1.off hO1 (fun k hk z => by rw [nOf_mem] at z; omega), hR.2.off hO1 (fun k k0 k1 z => by rw [nOf_mem] at z; omega)⟩
      have hX1 : TrX v1 t (tsz v t) (tnm v t) := (hth.2.2 hT1).off ht hO1 (fun k hk => by rw [nOf_mem] at hk; omega)
      obtain ⟨v2, hE2, hO2, hR2, hwy⟩ := C_actAll (d := d) (c := c) (v := v1) (Or.inl rfl) ht hth.2.1 hX1 hn0 htl hrun hS hB hR1
      have hinv := RunR_inv _ hS hrun
      have hP2 : PsR v2 al1 B := ((hP.off hO1 (fun k hk => by rw [nOf_mem] at hk; omega)).off hO2 (fun k hk => by have := cDd_13 hk; omega)).kk hinv.2.1 (Int.le_refl B)
      obtain ⟨v3, hE3, hO3, hR3, hP3⟩ := C_keptIfAny (d := d + 4) (c := c) (r := r) hS hinv.1 hinv.2.1 hR2 (hN1.off hO2 (fun k k0 k1 z => by have := cDd_13 z; omega)) hP2 hr h27
      exact ⟨c, v1, hE1, chkI (inbI (by omega) (by omega)) ⟨r, c, v2, hE2, r, c, v3, hE3, rfl, v3, rfl, ((hO1.wk (fun b hb => cXD_mem.2 (by rw [nOf_mem] at hb; omega))).tr (hO2.wk (fun b hb => cXD_mem.2 (by have := cDd_13 hb; omega)))).tr (hO3.wk (fun b hb => cXD_mem.2 (by rw [cPa_mem] at hb; omega))), hR3, hP3⟩⟩
  · rcases hv with ⟨_, h2, h3⟩ | h | h
    · rw [h2, h3]; exact ⟨rfl, v, rfl, Off.rf _ v, hR, hP⟩
    · exact absurd h.1 z
    · exact absurd h.1 z
theorem X_year {v : sF} {s N r : Int} {al al2 : Int → Int} {B : Int} (hS : St al) (hR : CR v 13 al) (hP : PsR v al B) (h27 : al 27 ≤ B) (hB : al 27 + 40 ≤ 900000) (hv : yrV al s N r al2) : ∃ v', Ev (d + 8) 127 [(2, 1), (0, s), (0, N)] (c, v) (some (0, r)) (c, v') ∧ Off cXD v v' ∧ CR v' 13 al2 ∧ PsR v' al2 B := by
  refine CI_of (loc127 s N) (E127_0 s N ?_)
  rcases hv with ⟨h1, h2, h3⟩ | ⟨h1, al1, hy, hr⟩
  · rw [h2, h3]
    exact brbI (fun _ => ⟨rfl, v, rfl, Off.rf _ v, hR, hP⟩) (fun z => brbI (fun z2 => absurd ⟨by omega, z2⟩ h1) (fun _ => ⟨rfl, v, rfl, Off.rf _ v, hR, hP⟩))
  · obtain ⟨v1, hE1, hO1, hN1⟩ := C_copy (d := d + 6) (c := c) (v := v) (a0 := 21) (a1 := 13) NT_21 NT_13 (by omega) hS.2.2.1.2 hR.2
    have hR1 : CR v1 13 al := ⟨hR.1.off hO1 (fun k hk z => by rw [nOf_mem] at z; omega), hR.2.off hO1 (fun k k0 k1 z => by rw [nOf_mem] at z; omega)⟩
    obtain ⟨v2, hE2, hO2, hR2⟩ := C_byDraws (d := d) (c := c) (v := v1) (s := s) (Or.inl rfl) (by omega) hy hS hB hR1
    have hinv := YrR_inv _ hS hy
    have hP2 : PsR v2 al1 B := ((hP.off hO1 (fun k hk => by rw [nOf_mem] at hk; omega)).off hO2 (fun k hk => by have := cDd_13 hk; omega)).kk hinv.2.1 (Int.le_refl B)
    obtain ⟨v3, hE3, hO3, hR3, hP3⟩ := C_keptIfAny (d := d + 4) (c := c) (r := r) hS hinv.1 hinv.2.1 hR2 (hN1.off hO2 (fun k k0 k1 z => by have := cDd_13 z; omega)) hP2 hr h27
    exact brbI (fun z => absurd z (by omega)) (fun _ => brbI (fun _ => ⟨c, v1, hE1, r, c, v2, hE2, r, c, v3, hE3, rfl, v3, rfl, ((hO1.wk (fun b hb => cXD_mem.2 (by rw [nOf_mem] at hb; omega))).tr (hO2.wk (fun b hb => cXD_mem.2 (by have := cDd_13 hb; omega)))).tr (hO3.wk (fun b hb => cXD_mem.2 (by rw [cPa_mem] at hb; omega))), hR3, hP3⟩) (fun z => absurd h1.2 z))
end Dd11
