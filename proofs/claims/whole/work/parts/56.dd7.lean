section Dd7
variable {d c : Nat}
def lcg (s : Int) : Int := w32 ((w32 (1103515245 * s)) + 12345)
def drw (s n : Int) : Int := Int.tmod (iush (lcg s) 16) n
theorem iush16 (x : Int) : 0 ≤ iush x 16 ∧ iush x 16 ≤ 65535 := by
  unfold iush
  generalize (Int32.ofInt x).toUInt32 = u
  have hs : (Int32.ofInt 16).toUInt32 &&& Int32.toUInt32 31 = 16 := by decide
  rw [hs]
  have hu : u.toNat < 4294967296 := u.toNat_lt
  have hn : (u >>> (16 : UInt32)).toNat = u.toNat / 65536 := by
    rw [UInt32.toNat_shiftRight]
    show u.toNat >>> 16 = _
    rw [Nat.shiftRight_eq_div_pow]
  have hi : (u >>> (16 : UInt32)).toInt32.toInt = ((u >>> (16 : UInt32)).toNat : Int) := by
    show (u >>> (16 : UInt32)).toBitVec.toInt = _
    rw [BitVec.toInt_eq_toNat_of_lt]
    · rfl
    · show 2 * (u >>> (16 : UInt32)).toNat < _
      rw [hn]; omega
  rw [hi, hn]
  omega
theorem drw6 (s : Int) : 0 ≤ drw s 6 ∧ drw s 6 < 6 := by
  unfold drw
  obtain ⟨n, hn⟩ := Int.eq_ofNat_of_zero_le (iush16 (lcg s)).1
  rw [hn, show Int.tmod (n : Int) 6 = ((n % 6 : Nat) : Int) from rfl]
  omega
theorem drw10 (s : Int) : 0 ≤ drw s 10 ∧ drw s 10 < 10 := by
  unfold drw
  obtain ⟨n, hn⟩ := Int.eq_ofNat_of_zero_le (iush16 (lcg s)).1
  rw [hn, show Int.tmod (n : Int) 10 = ((n % 10 : Nat) : Int) from rfl]
  omega
theorem C_drawX {v : sF} {n : Int} (hn : 0 < n) : Ev (d + 1) 17 [(2, 144), (0, n)] (c, v) (some (0, drw (v 144 3) n)) (c, up v 144 3 (lcg (v 144 3))) :=
  Ev_of (loc17 n) (E17_0 n (brbI (fun z => absurd z (by omega)) (fun _ => chkN (by omega) ⟨rfl, rfl⟩)))
theorem C_drawM {v : sF} {n : Int} (hn : 0 < n) : Ev (d + 1) 241 [(2, 163), (0, n)] (c, v) (some (0, drw (v 163 21) n)) (c, up v 163 21 (lcg (v 163 21))) :=
  Ev_of (loc241 n) (E241_0 n (chkN (by omega) ⟨rfl, rfl⟩))
def dcx (s : Int) : Int := drw (lcg (lcg s)) (if drw s 6 = 5 then 10 else 6)
def dcd (s : Int) : Int := if drw s 6 < 2 then -1 else 100 * (drw s 6 - 2) + 10 * drw (lcg s) 6 + dcx s
def dnx (s : Int) : Int := if drw s 6 < 2 then lcg s else lcg (lcg (lcg s))
theorem dcx_rng (s : Int) : 0 ≤ dcx s ∧ dcx s < 10 := by
  unfold dcx
  by_cases e : drw s 6 = 5
  · rw [if_pos e]; exact drw10 _
  · rw [if_neg e]; have := drw6 (lcg (lcg s)); omega
theorem dcd_rng (s : Int) : -1 ≤ dcd s ∧ dcd s ≤ 399 := by
  have h1 := drw6 s
  have h2 := drw6 (lcg s)
  have h3 := dcx_rng s
  unfold dcd
  split <;> omega
theorem C_drawn {v : sF} : ∃ v', Ev (d + 2) 242 [(2, 163)] (c, v) (some (0, dcd (v 163 21))) (c, v') ∧ Off [163] v v' ∧ (∀ i : Int, i ≠ 21 → v' 163 i = v 163 i) ∧ v' 163 21 = dnx (v 163 21) := by
  obtain ⟨s, hs⟩ : ∃ s, v 163 21 = s := ⟨_, rfl⟩
  have h1 := drw6 s
  have h2 := drw6 (lcg s)
  have hE := C_drawM (d := d) (c := c) (v := v) (n := 6) (by decide)
  rw [hs] at hE ⊢
  refine CI_of loc242 (E242_0 ⟨_, c, _, hE, brbI (fun z => ?_) (fun z => ?_)⟩)
  · have hE2 := C_drawM (d := d) (c := c) (v := up v 163 21 (lcg s)) (n := 6) (by decide)
    rw [up_same] at hE2
    have hdx : dcx s = drw (lcg (lcg s)) (if drw s 6 = 5 then 10 else 6) := rfl
    have hdn : dnx s = lcg (lcg (lcg s)) := by unfold dnx; rw [if_neg (by omega)]
    have hdc : dcd s = 100 * (drw s 6 - 2) + 10 * drw (lcg s) 6 + dcx s := by unfold dcd; rw [if_neg (by omega)]
    have hO : ∀ x, Off [163] v (up (up (up v 163 21 (lcg s)) 163 21 (lcg (lcg s))) 163 21 x) := fun x => (((Off.rf _ v).up (by decide)).up (by decide)).up (by decide)
    refine ⟨_, c, _, hE2, rngI (by omega) (rngI (by omega) (rngI (by omega) (rngI (by omega) (brbN (fun z2 => ?_) (fun z2 => ?_)))))⟩
    · have hE3 := C_drawM (d := d) (c := c) (v := up (up v 163 21 (lcg s)) 163 21 (lcg (lcg s))) (n := 6) (by decide)
      rw [up_same] at hE3
      rw [if_neg z2] at hdx
      have h3 := drw6 (lcg (lcg s))
      refine ⟨_, c, _, hE3, rngI (by omega) ⟨by rw [hdc, hdx], _, rfl, hO _, fun i hi => by rw [up_ne _ hi, up_ne _ hi, up_ne _ hi], by rw [up_same, hdn]⟩⟩
    · have hE3 := C_drawM (d := d) (c := c) (v := up (up v 163 21 (lcg s)) 163 21 (lcg (lcg s))) (n := 10) (by decide)
      rw [up_same] at hE3
      rw [if_pos z2] at hdx
      have h3 := drw10 (lcg (lcg s))
      refine ⟨_, c, _, hE3, rngI (by omega) ⟨by rw [hdc, hdx], _, rfl, hO _, fun i hi => by rw [up_ne _ hi, up_ne _ hi, up_ne _ hi], by rw [up_same, hdn]⟩⟩
  · have hdc : dcd s = -1 := by unfold dcd; rw [if_pos (by omega)]
    have hdn : dnx s = lcg s := by unfold dnx; rw [if_pos (by omega)]
    exact ⟨by rw [hdc], _, rfl, (Off.rf _ v).up (by decide), fun i hi => up_ne _ hi, by rw [up_same, hdn]⟩
/-- a year of drawn deeds -/
def YrR : Nat → Int → (Int → Int) → Int → (Int → Int) → Prop
  | 0, _, al, n, al' => n = 0 ∧ al' = al
  | m + 1, s, al, n, al' => (dwE al (dcd s) = 0 ∧ ∃ al1, dRE al (dcd s) al1 ∧ YrR m (dnx s) al1 (n - 1) al') ∨ (dwE al (dcd s) ≠ 0 ∧ YrR m (dnx s) al n al')
theorem YrR_rng : ∀ (m : Nat) {s n : Int} {al al' : Int → Int}, YrR m s al n al' → 0 ≤ n ∧ n ≤ m := by
  intro m
  induction m with
  | zero => intro s n al al' h; have := h.1; omega
  | succ m ih =>
    intro s n al al' h
    rcases h with ⟨_, al1, _, h⟩ | ⟨_, h⟩
    · have := ih h; omega
    · have := ih h; omega
theorem ym_loop {N : Int} (hN : N ≤ 40) : ∀ (m : Nat) (k i s : Int) (v : sF) (Q : sQ), 0 ≤ k → k ≤ i → i + m = N → St (v 164) → v 163 18 = -1 → v 164 27 + m ≤ 900000 → v 163 21 = s → (∀ (n : Int) (v' : sF), Off [163, 164, 168, 169] v v' → (∀ j : Int, j ≠ 21 → v' 163 j = v 163 j) → YrR m s (v 164) n (v' 164) → brb (decide (k + n ≤ 0)) (Q (some (0, k + n)) (c, v')) (∃ c1 v2, Ev (d + 7) 220 [(2, 163)] (c, v') none (c1, v2) ∧ Q (some (0, k + n)) (c1, v2))) → Wp (Ev (d + 7)) 0 (fun _ => 0) 243 Q 34 [(2, 163), (9, 0), (0, N), (0, k), (0, i), (9, 0)] [] c v := by
  intro m
  induction m with
  | zero =>
    intro k i s v Q k0 ki hi hS hid h27 hs hQ
    refine E243_34 _ _ _ (brbI (fun _ => ?_) (fun z => absurd z (by omega)))
    have := hQ 0 v (Off.rf _ v) (fun _ _ => rfl) ⟨rfl, rfl⟩
    rw [Int.add_zero] at this
    exact this
  | succ m ih =>
    intro k i s v Q k0 ki hi hS hid h27 hs hQ
    obtain ⟨v1, hE1, hO1, h163, h21⟩ := C_drawn (d := d + 5) (c := c) (v := v)
    rw [hs] at hE1 h21
    have e164 : v1 164 = v 164 := hO1 164 (by decide)
    have hid1 : v1 163 18 = -1 := by rw [h163 18 (by decide)]; exact hid
    have hW := C_whyNot (d := d + 2) (c := c) (v := v1) (e := dcd s) (by rw [e164]; exact hS.1)
    rw [e164] at hW
    refine E243_34 _ _ _ (brbI (fun z => absurd z (by omega)) (fun _ => ⟨_, c, v1, hE1, _, c, v1, hW, brbI (fun z => ?_) (fun z => rngI (by omega) ?_)⟩))
    · obtain ⟨v2, hE2, hO2, hd⟩ := C_does (d := d) (c := c) (v := v1) (e := dcd s) (by rw [e164]; exact hS) hid1 (by rw [e164]; omega) (by rw [e164]; exact z)
      rw [e164] at hd
      have hst := St_dRE hS z hd
      have e163 : v2 163 = v1 163 := hO2 163 (by decide)
      refine ⟨c, v2, hE2, rngI (by omega) (rngI (by omega) (ih (k + 1) (i + 1) (dnx s) v2 Q (by omega) (by omega) (by omega) hst.1 (by rw [e163]; exact hid1) (by omega) (by rw [e163]; exact h21) (fun n v' ho hj hy => ?_)))⟩
      have := hQ (n + 1) v' ((hO1.wk (by decide)).tr ((hO2.wk (by decide)).tr ho)) (fun j hne => by rw [hj j hne, e163, h163 j hne]) (Or.inl ⟨z, v2 164, hd, by rw [show n + 1 - 1 = n by omega]; exact hy⟩)
      rw [show k + (n + 1) = k + 1 + n by omega] at this
      exact this
    · refine ih k (i + 1) (dnx s) v1 Q k0 (by omega) (by omega) (by rw [e164]; exact hS) hid1 (by rw [e164]; omega) h21 (fun n v' ho hj hy => ?_)
      rw [e164] at hy
      exact hQ n v' ((hO1.wk (by decide)).tr ho) (fun j hne => by rw [hj j hne, h163 j hne]) (Or.inr ⟨z, hy⟩)
/-- a drawn deed in the class -/
theorem C_actDrawn {v : sF} {a k s : Int} {al al' : Int → Int} (ha : aN a) (hS : St al) (hR : CR v a al) (hk : 0 ≤ k ∧ k ≤ 3) (hs : v 144 3 = s) (hd : dw al k (drw s 6) (drw (lcg s) (if k = 3 then 10 else 6)) = 0 → dR al k (drw s 6) (drw (lcg s) (if k = 3 then 10 else 6)) al') : ∃ r v', Ev (d + 3) 16 [(2, 144), (2, a), (0, k)] (c, v) (some (0, r)) (c, v') ∧ Off (cDd a) v v' ∧ v' 144 3 = lcg (lcg s) ∧ ((dw al k (drw s 6) (drw (lcg s) (if k = 3 then 10 else 6)) ≠ 0 ∧ r < 0 ∧ CR v' a al) ∨ (dw al k (drw s 6) (drw (lcg s) (if k = 3 then 10 else 6)) = 0 ∧ 0 ≤ r ∧ NowR v' a al')) := by
  have ha2 : a = 13 ∨ a = 29 := ha
  have hE := C_drawX (d := d + 1) (c := c) (v := v) (n := 6) (by decide)
  rw [hs] at hE
  obtain ⟨v2, hv2⟩ : ∃ v2, v2 = up (up v 144 3 (lcg s)) 144 3 (lcg (lcg s)) := ⟨_, rfl⟩
  have hO2 : Off (cDd a) v v2 := by rw [hv2]; exact ((Off.rf _ v).up (cDd_mem.2 (Or.inl rfl))).up (cDd_mem.2 (Or.inl rfl))
  have hR2 : CR v2 a al := by rw [hv2]; exact CR_144 ha (CR_144 ha hR 3 _) 3 _
  have h144 : v2 144 3 = lcg (lcg s) := by rw [hv2, up_same]
  obtain ⟨r, v', hA, hO, h⟩ := C_act (d := d) (c := c) (k := k) (p := drw s 6) (x := drw (lcg s) (if k = 3 then 10 else 6)) ha hS hR2 hk hd
  have h3 : v' 144 3 = lcg (lcg s) := by rw [hO 144 (fun q => by rw [nOf_mem] at q; omega)]; exact h144
  have hO3 : Off (cDd a) v v' := hO2.tr (hO.wk (fun b hb => cDd_mem.2 (Or.inr (Or.inr hb))))
  have hfin : Off (cDd a) v v' ∧ v' 144 3 = lcg (lcg s) ∧ ((dw al k (drw s 6) (drw (lcg s) (if k = 3 then 10 else 6)) ≠ 0 ∧ r < 0 ∧ CR v' a al) ∨ (dw al k (drw s 6) (drw (lcg s) (if k = 3 then 10 else 6)) = 0 ∧ 0 ≤ r ∧ NowR v' a al')) := by
    refine ⟨hO3, h3, ?_⟩
    rcases h with ⟨h1, h2, h4⟩ | ⟨h1, h2, h4⟩ | ⟨h1, h2, h4, h5⟩
    · exact Or.inl ⟨by omega, by omega, by rw [h4]; exact hR2⟩
    · exact Or.inl ⟨by omega, by omega, by rw [h4]; exact hR2⟩
    · exact Or.inr ⟨h1, h2, h5⟩
  refine CB_of (loc16 a k) (E16_0 a k ⟨_, c, _, hE, brbN (fun z => ?_) (fun z => ?_)⟩)
  · have hE2 := C_drawX (d := d + 1) (c := c) (v := up v 144 3 (lcg s)) (n := 6) (by decide)
    rw [up_same, ← hv2] at hE2
    rw [if_neg z] at hA
    exact ⟨_, c, v2, hE2, r, c, v', hA, r, v', rfl, rfl, hfin⟩
  · have hE2 := C_drawX (d := d + 1) (c := c) (v := up v 144 3 (lcg s)) (n := 10) (by decide)
    rw [up_same, ← hv2] at hE2
    rw [if_pos z] at hA
    exact ⟨_, c, v2, hE2, r, c, v', hA, r, v', rfl, rfl, hfin⟩
theorem yx_loop {a N : Int} {al' : Int → Int} {Q : sQ} (v0 : sF) (ha : aN a) (hN : N ≤ 40) : ∀ (m : Nat) (k i s n : Int) (v : sF) (al : Int → Int), 0 ≤ k → k ≤ i → i + m = N → YrR m s al n al' → St al → al 27 + m ≤ 900000 → Off (cDd a) v0 v → CR v a al → v 144 3 = s → (∀ v', Off (cDd a) v0 v' → CR v' a al' → Q (some (0, k + n)) (c, v')) → Wp (Ev (d + 6)) 0 (fun _ => 0) 15 Q 11 [(2, 144), (2, a), (9, 0), (0, N), (0, k), (0, i), (9, 0), (9, 0)] [] c v := by
  have ha2 : a = 13 ∨ a = 29 := ha
  intro m
  induction m with
  | zero =>
    intro k i s n v al k0 ki hi hy hS h27 ho hR hs hQ
    have hy1 : n = 0 := hy.1
    have hy2 : al' = al := hy.2
    subst hy2
    refine E15_11 _ _ _ _ (brbI (fun _ => ?_) (fun z => absurd z (by omega)))
    have := hQ v ho hR
    rw [hy1, Int.add_zero] at this
    exact this
  | succ m ih =>
    intro k i s n v al k0 ki hi hy hS h27 ho hR hs hQ
    have h6 := drw6 s
    have hE := C_drawX (d := d + 5) (c := c) (v := v) (n := 6) (by decide)
    rw [hs] at hE
    have hR1 : CR (up v 144 3 (lcg s)) a al := CR_144 ha hR 3 _
    have ho1 : Off (cDd a) v (up v 144 3 (lcg s)) := (Off.rf _ v).up (cDd_mem.2 (Or.inl rfl))
    refine E15_11 _ _ _ _ (brbI (fun z => absurd z (by omega)) (fun _ => ⟨_, c, _, hE, brbI (fun z => rngI (by omega) ?_) (fun z => ?_)⟩))
    · have h62 := drw6 (lcg s)
      have hx := dcx_rng s
      have hdn : dnx s = lcg (lcg (lcg s)) := by unfold dnx; rw [if_neg (by omega)]
      have hdc : dcd s = 100 * (drw s 6 - 2) + 10 * drw (lcg s) 6 + dcx s := by unfold dcd; rw [if_neg (by omega)]
      have hdx : dcx s = drw (lcg (lcg s)) (if drw s 6 - 2 = 3 then 10 else 6) := by
        unfold dcx
        by_cases e : drw s 6 = 5
        · rw [if_pos e, if_pos (by omega)]
        · rw [if_neg e, if_neg (by omega)]
      have hne : dcd s ≠ -1 := by omega
      have ek : dcd s / 100 = drw s 6 - 2 := by omega
      have ep : dcd s % 100 / 10 = drw (lcg s) 6 := by omega
      have ex : dcd s % 10 = dcx s := by omega
      have hwe : dwE al (dcd s) = dw al (drw s 6 - 2) (drw (lcg s) 6) (dcx s) := by unfold dwE; rw [if_neg hne, if_pos (by omega), ek, ep, ex]
      rcases hy with ⟨hw, al1, hd, hy⟩ | ⟨hw, hy⟩
      · have hd2 := hd.2.1 hne
        rw [ek, ep, ex, hdx] at hd2
        obtain ⟨r, v2, hA, hO2, h3, h⟩ := C_actDrawn (d := d + 3) (c := c) (k := drw s 6 - 2) (s := lcg s) (al' := al1) ha hS hR1 (by omega) (up_same _ _ _ _) (fun _ => hd2)
        rw [← hdx, ← hwe] at h
        have hst := St_dRE hS hw hd
        rcases h with ⟨h1, _⟩ | ⟨_, h2, h4⟩
        · exact absurd hw h1
        · refine ⟨r, c, v2, hA, brbI (fun z => absurd z (by omega)) (fun _ => rngI (by omega) (rngI (by omega) (ih (k + 1) (i + 1) (dnx s) (n - 1) v2 al1 (by omega) (by omega) (by omega) hy hst.1 (by omega) (ho.tr (ho1.tr hO2)) (CR_off ha hS.1 (dRE_same hS hw hd) hR1.1 hO2 h4) (by rw [hdn]; exact h3) (fun v' ho' hR' => ?_))))⟩
          rw [show k + 1 + (n - 1) = k + n by omega]
          exact hQ v' ho' hR'
      · obtain ⟨r, v2, hA, hO2, h3, h⟩ := C_actDrawn (d := d + 3) (c := c) (k := drw s 6 - 2) (s := lcg s) (al' := al) ha hS hR1 (by omega) (up_same _ _ _ _) (fun q => absurd (by rw [hwe, hdx]; exact q) hw)
        rw [← hdx, ← hwe] at h
        rcases h with ⟨h1, h2, h4⟩ | ⟨h1, _⟩
        · exact ⟨r, c, v2, hA, brbI (fun _ => rngI (by omega) (ih k (i + 1) (dnx s) n v2 al k0 (by omega) (by omega) hy hS (by omega) (ho.tr (ho1.tr hO2)) h4 (by rw [hdn]; exact h3) hQ)) (fun z => absurd h2 z)⟩
        · exact absurd h1 hw
    · have hdc : dcd s = -1 := by unfold dcd; rw [if_pos (by omega)]
      have hdn : dnx s = lcg s := by unfold dnx; rw [if_pos (by omega)]
      have hw0 : dwE al (dcd s) = 0 := by unfold dwE; rw [if_pos hdc]
      rcases hy with ⟨hw, al1, hd, hy⟩ | ⟨hw, hy⟩
      · have hst := St_dRE hS hw hd
        obtain ⟨v2, hP, hO, h4⟩ := C_pass (d := d) (c := c) (n := 1) ha hS hR1 (hd.1 hdc) (by omega) (by omega)
        have hO2 : Off (cDd a) (up v 144 3 (lcg s)) v2 := hO.wk (fun b hb => cDd_mem.2 (Or.inr (Or.inl hb)))
        have hc0 : 0 ≤ cmN al al1 := (cnt_rng _ _).1
        have h144 : v2 144 3 = lcg s := by rw [hO 144 (fun q => by rw [cPs_mem] at q; omega), up_same]
        refine ⟨_, c, v2, hP, brbI (fun z => absurd hc0 (by omega)) (fun _ => rngI (by omega) (rngI (by omega) (ih (k + 1) (i + 1) (dnx s) (n - 1) v2 al1 (by omega) (by omega) (by omega) hy hst.1 (by omega) (ho.tr (ho1.tr hO2)) (CR_off ha hS.1 (dRE_same hS hw hd) hR1.1 hO2 h4) (by rw [hdn]; exact h144) (fun v' ho' hR' => ?_))))⟩
        rw [show k + 1 + (n - 1) = k + n by omega]
        exact hQ v' ho' hR'
      · exact absurd hw0 hw
theorem C_byDraws {v : sF} {a s N n : Int} {al al' : Int → Int} (ha : aN a) (hN : 0 ≤ N ∧ N ≤ 40) (hy : YrR N.toNat s al n al') (hS : St al) (h27 : al 27 + 40 ≤ 900000) (hR : CR v a al) : ∃ v', Ev (d + 7) 15 [(2, 144), (2, a), (0, s), (0, N)] (c, v) (some (0, n)) (c, v') ∧ Off (cDd a) v v' ∧ CR v' a al' := by
  have ha2 : a = 13 ∨ a = 29 := ha
  refine CI_of (loc15 a s N) (E15_0 a s N ?_)
  refine yx_loop v ha hN.2 N.toNat 0 0 s n _ al (by omega) (by omega) (by omega) hy hS (by omega) ((Off.rf _ v).up (cDd_mem.2 (Or.inl rfl))) (CR_144 ha hR 3 _) (up_same _ _ _ _) (fun v' ho hR' => ⟨by rw [Int.zero_add], v', rfl, ho, hR'⟩)
end Dd7
