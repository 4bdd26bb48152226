section Dd10
variable {d c : Nat}
theorem cnt_f {P : Int → Bool} : ∀ {n : Nat}, (∀ k : Nat, k < n → P k = false) → cnt P n = 0 := by
  intro n
  induction n with
  | zero => intro _; rfl
  | succ n ih => intro h; rw [cnt_s, ih (fun k hk => h k (by omega)), h n (by omega)]; rfl
theorem cmN_0 (al : Int → Int) : cmN al al = 0 := cnt_f (fun k _ => by cases isG al k <;> rfl)
theorem cmN_rng {al al' : Int → Int} (h : 0 ≤ al 28 ∧ al 28 ≤ 6) : 0 ≤ cmN al al' ∧ cmN al al' ≤ 6 := by
  unfold cmN
  have := cnt_rng (fun l => !isG al l && isG al' l) (al 28).toNat
  omega
theorem dy_loop {al : Int → Int} {N : Int} {Q : sQ} (v0 : sF) (hS : St al) (hN : N ≤ 99) (h27 : al 27 ≤ 900000) (hi : v0 163 18 = -1) (hQ : ∀ v, Off [164, 168, 169] v0 v → DyR al N.toNat (v 164) → K96 al (v 164) → ∃ c1 v2, Ev (d + 6) 220 [(2, 163)] (c, v) none (c1, v2) ∧ Q (some (0, cmN al (v 164))) (c1, v2)) : ∀ (m i : Nat) (v : sF), (i : Int) + m = N → Off [164, 168, 169] v0 v → DyR al i (v 164) → K96 al (v 164) → Wp (Ev (d + 6)) 0 (fun _ => 0) 232 Q 28 [(2, 163), (0, N), (0, cmN al (v 164)), (0, (i : Int))] [] c v := by
  intro m
  induction m with
  | zero =>
    intro i v hm ho hd hk
    refine E232_28 _ _ _ (brbI (fun _ => ?_) (fun z => absurd z (by omega)))
    rw [show i = N.toNat by omega] at hd
    exact hQ v ho hd hk
  | succ m ih =>
    intro i v hm ho hd hk
    have hr := cmN_rng (al := al) (al' := v 164) hS.2.2.1
    obtain ⟨r, v1, hE, hO, hd1, hc, hr0, hk1⟩ := C_goesDay (d := d) (c := c) (v := v) (al := al) (n := i) hS (by rw [ho 163 (by decide)]; exact hi) hd hk (by rw [hd.2.1]; omega)
    have hr1 := cmN_rng (al := al) (al' := v1 164) hS.2.2.1
    refine E232_28 _ _ _ (brbI (fun z => absurd z (by omega)) (fun _ => ⟨r, c, v1, hE, rngI (by omega) (rngI (by omega) ?_)⟩))
    rw [← hc]
    exact ih (i + 1) v1 (by omega) (ho.tr hO) hd1 hk1
/-- days -/
def dyV (al : Int → Int) (x r : Int) (al2 : Int → Int) : Prop := (¬ (1 ≤ x ∧ x ≤ 99) ∧ r = -3 ∧ al2 = al) ∨ ((1 ≤ x ∧ x ≤ 99) ∧ ∃ al1, DyR al x.toNat al1 ∧ K96 al al1 ∧ pshR al1 al al2 ∧ r = cmN al al1)
theorem DyR_kK {al al' : Int → Int} {n : Nat} (hS : St al) (h : DyR al n al') : kK al al' := by
  have h0 := hS.2.2.1
  exact fun k hk => h.1 k (by omega)
theorem M_days {v : sF} {x : Int} (hS : St (v 164)) (hi : v 163 18 = -1) (h27 : v 164 27 ≤ 900000) (h0 : 0 ≤ v 164 102 ∧ v 164 102 ≤ 10) : ∃ r v', Ev (d + 7) 232 [(2, 163), (0, x)] (c, v) (some (0, r)) (c, v') ∧ QD v v' ∧ dyV (v 164) x r (v' 164) := by
  have e164 : up v 163 0 0 164 = v 164 := up_off 164 (by decide)
  have hq0 : QD v (up v 163 0 0) := ⟨(Off.rf _ v).up (by decide), fun i hi => up_ne _ (by omega)⟩
  have hW := C_within (d := d + 5) (c := c) (v := up v 163 0 0) x 1 99
  refine CB_of (loc232 x) (E232_0 x ⟨_, c, _, hW, bfi (fun z => ?_) (fun z => ?_)⟩)
  · obtain ⟨v1, hE1, hO1, hj⟩ := keeps_at (d := d + 5) (c := c) (v := up v 163 0 0)
    have a1 : v1 164 = v 164 := (hO1 164 (by decide)).trans e164
    refine ⟨c, v1, hE1, ?_⟩
    have := dy_loop (d := d) (c := c) (al := v 164) (N := x) v1 hS z.2 h27 (by rw [hO1 163 (by decide), up_ne _ (by decide)]; exact hi) (Q := fun r μ => ∃ x_1 v', r = some (0, x_1) ∧ μ = (c, v') ∧ QD v v' ∧ dyV (v 164) x x_1 (v' 164)) (fun v2 ho hd hk => ?_) x.toNat 0 v1 (by omega) (Off.rf _ v1) (by rw [a1]; exact DyR_0 hS.2.2) (by rw [a1]; exact K96_rf _)
    · rw [a1, cmN_0] at this
      exact this
    · have hkk := DyR_kK hS hd
      obtain ⟨v3, hE3, hO3, hp3⟩ := C_notes (d := d + 5) (c := c) (v := v2) (b := v 164) (by rw [hkk 102 (by omega)]; exact h0) (fun i i0 i1 => by rw [ho 170 (by decide), hj i i0 i1, e164])
      refine ⟨c, v3, hE3, _, v3, rfl, rfl, ⟨hq0.1.tr ((hO1.wk (by decide)).tr ((ho.wk (by decide)).tr (hO3.wk (by decide)))), fun i hi => ?_⟩, Or.inr ⟨z, v2 164, hd, hk, hp3, rfl⟩⟩
      rw [hO3 163 (by decide), ho 163 (by decide), hO1 163 (by decide), hq0.2 i hi]
  · exact ⟨-3, _, rfl, rfl, hq0, Or.inl ⟨z, rfl, e164⟩⟩
/-- where letters lie that have not come -/
def lyB (al : Int → Int) : Nat → Int
  | 0 => 0
  | n + 1 => if isG al (n : Int) = true then lyB al n else ior (lyB al n) (ishl 1 (al (78 + (n : Int))))
theorem ior_z : ∀ b : Fin 64, ior ((b.val : Nat) : Int) 0 = ((b.val : Nat) : Int) := by decide
theorem ior_0b {b : Int} (h : 0 ≤ b ∧ b < 64) : ior b 0 = b := by
  have := ior_z ⟨b.toNat, by omega⟩
  simp only at this
  rw [show ((b.toNat : Nat) : Int) = b by omega] at this
  exact this
theorem lyB_rng {al : Int → Int} (hS : St al) : ∀ {n : Nat}, (n : Int) ≤ al 28 → 0 ≤ lyB al n ∧ lyB al n < 64 := by
  intro n
  induction n with
  | zero => intro _; show (0 : Int) ≤ 0 ∧ (0 : Int) < 64; decide
  | succ n ih =>
    intro h
    have hi := ih (by omega)
    have hl := (hS.2.2.2.2.2.2 n (by omega) (by omega)).2.1
    have h1 := hS.1.1
    show 0 ≤ (if isG al (n : Int) = true then lyB al n else ior (lyB al n) (ishl 1 (al (78 + (n : Int))))) ∧ (if isG al (n : Int) = true then lyB al n else ior (lyB al n) (ishl 1 (al (78 + (n : Int))))) < 64
    split
    · exact hi
    · exact (tb_i (j := 0) hi ⟨hl.1, by omega⟩ (by decide)).2.1
set_option maxRecDepth 100000 in
theorem li_loop {v : sF} {Q : sQ} (hS : St (v 164)) (hQ : Q (some (0, lyB (v 164) (v 164 28).toNat)) (c, v)) : ∀ (m k : Nat), (k : Int) + m = v 164 28 → Wp (Ev (d + 2)) 0 (fun _ => 0) 238 Q 4 [(2, 163), (0, lyB (v 164) k), (0, (k : Int))] [] c v := by
  have h0 := hS.2.2.1
  intro m
  induction m with
  | zero =>
    intro k hk
    refine E238_4 _ _ (brbI (fun _ => ?_) (fun z => absurd z (by omega)))
    rw [show (v 164 28).toNat = k by omega] at hQ
    exact hQ
  | succ m ih =>
    intro k hk
    have hE := C_isGiven (d := d) (c := c) (v := v) (al := v 164) (l := (k : Int)) rfl hS.2.2.2.1 (by omega)
    have hr := lyB_rng hS (n := k) (by omega)
    have := ih (k + 1) (by omega)
    refine E238_4 _ _ (brbI (fun z => absurd z (by omega)) (fun _ => ⟨_, c, v, hE, bfz (fun z => rngI (by omega) (chkI (inbI (by omega) (by omega)) (rngI (by omega) ?_))) (fun z => rngI (by omega) ?_)⟩))
    · rw [show lyB (v 164) (k + 1) = ior (lyB (v 164) k) (ishl 1 (v 164 (78 + (k : Int)))) from if_neg z] at this
      exact this
    · rw [ior_0b hr]
      rw [show lyB (v 164) (k + 1) = lyB (v 164) k from if_pos z] at this
      exact this
theorem C_lieAt {v : sF} (hS : St (v 164)) : Ev (d + 3) 238 [(2, 163)] (c, v) (some (0, lyB (v 164) (v 164 28).toNat)) (c, v) := by
  have h0 := hS.2.2.1
  exact Ev_of loc238 (E238_0 (li_loop hS ⟨rfl, rfl⟩ (v 164 28).toNat 0 (by omega)))
set_option maxRecDepth 100000 in
theorem lx_loop {v : sF} {al : Int → Int} {Q : sQ} (hS : St al) (hR : NowR v 29 al) (hQ : Q (some (0, lyB al (al 28).toNat)) (c, v)) : ∀ (m k : Nat), (k : Int) + m = al 28 → Wp (Ev d) 0 (fun _ => 0) 36 Q 4 [(2, 29), (0, lyB al k), (0, (k : Int))] [] c v := by
  have h0 := hS.2.2.1
  intro m
  induction m with
  | zero =>
    intro k hk
    refine E36_4 _ _ ?_
    rw [hR.2.1]
    refine brbI (fun _ => ?_) (fun z => absurd z (by omega))
    rw [show (al 28).toNat = k by omega] at hQ
    exact hQ
  | succ m ih =>
    intro k hk
    have hl := hR.2.2.2.2 k (by omega) (by omega)
    have hll := hS.2.2.2.2.2.2 k (by omega) (by omega)
    have := ih (k + 1) (by omega)
    refine E36_4 _ _ ?_
    rw [hR.2.1, show v 36 (k : Int) = if isG al k = true then al (96 + (k : Int)) else -1 from hl.2.2.2, show v 34 (k : Int) = al (78 + (k : Int)) from hl.2.1]
    refine brbI (fun z => absurd z (by omega)) (fun _ => chkI (inbI (by omega) (by omega)) (brbN (fun z => rngI (by omega) ?_) (fun z => chkI (inbI (by omega) (by omega)) (rngI (by omega) ?_))))
    · have hg : isG al k = true := Classical.byContradiction fun q => z (if_neg q)
      rw [show lyB al (k + 1) = lyB al k from if_pos hg] at this
      exact this
    · have hg : ¬ isG al k = true := fun q => by rw [if_pos q] at z; have := hll.2.2.2.1 q; omega
      rw [show lyB al (k + 1) = ior (lyB al k) (ishl 1 (al (78 + (k : Int)))) from if_neg hg] at this
      exact this
theorem C_lyingBits {v : sF} {al : Int → Int} (hS : St al) (hR : NowR v 29 al) : Ev (d + 1) 36 [(2, 29)] (c, v) (some (0, lyB al (al 28).toNat)) (c, v) := by
  have h0 := hS.2.2.1
  exact Ev_of loc36 (E36_0 (lx_loop hS hR ⟨rfl, rfl⟩ (al 28).toNat 0 (by omega)))
/-- judged -/
def jA (y n why : Int) (al1 : Int → Int) : Int := if y = 0 then (if why = 0 then -1 else n) else if y = 1 then why else if y = 2 then al1 29 else lyB al1 (al1 28).toNat
def jgV (al : Int → Int) (T sz : Int) (nm : Int → Int) (t y r : Int) : Prop := (¬ (0 ≤ y ∧ y ≤ 3) ∧ r = -2) ∨ ((0 ≤ y ∧ y ≤ 3) ∧ ¬ (0 ≤ t ∧ t < 4) ∧ r = -2) ∨ ((0 ≤ y ∧ y ≤ 3) ∧ (0 ≤ t ∧ t < 4) ∧ T = -1 ∧ r = -6) ∨ ((0 ≤ y ∧ y ≤ 3) ∧ (0 ≤ t ∧ t < 4) ∧ T ≠ -1 ∧ ∃ n why al1, 0 ≤ n ∧ RunR nm n.toNat 0 al al1 ∧ tlE sz nm n why al1 ∧ r = jA y n why al1)
theorem M_judge {v : sF} {t y : Int} (hS : St (v 164)) (hi : v 163 18 = -1) (h27 : v 164 27 + 40 ≤ 900000) (hT : TrR v) : ∃ r v', Ev (d + 9) 239 [(2, 163), (0, t), (0, y)] (c, v) (some (0, r)) (c, v') ∧ QD v v' ∧ v' 164 = v 164 ∧ jgV (v 164) (v 179 t) (tsz v t) (tnm v t) t y r := by
  have e164 : up v 163 0 0 164 = v 164 := up_off 164 (by decide)
  have hq0 : QD v (up v 163 0 0) := ⟨(Off.rf _ v).up (by decide), fun i hi => up_ne _ (by omega)⟩
  have hW := C_within (d := d + 7) (c := c) (v := up v 163 0 0) y 0 3
  have hN := C_noTray (d := d + 6) (c := c) (v := up v 163 0 0) (t := t)
  rw [up_off 179 (by decide)] at hN
  refine CB_of (loc239 t y) (E239_0 t y ⟨_, c, _, hW, bfi (fun z => ⟨_, c, _, hN, ?_⟩) (fun z => ?_)⟩)
  · by_cases ht : 0 ≤ t ∧ t < 4
    · rw [if_pos ht]
      by_cases hT1 : v 179 t = -1
      · rw [if_pos hT1]
        exact brbI (fun q => absurd q (by decide)) (fun _ => ⟨-6, _, rfl, rfl, hq0, e164, Or.inr (Or.inr (Or.inl ⟨z, ht, hT1, rfl⟩))⟩)
      · rw [if_neg hT1]
        refine brbI (fun _ => ?_) (fun q => absurd rfl q)
        have htr := hT t ht.1 ht.2
        obtain ⟨v1, hE1, hO1, hj⟩ := keeps_at (d := d + 7) (c := c) (v := up v 163 0 0)
        have a1 : v1 164 = v 164 := (hO1 164 (by decide)).trans e164
        have i1 : v1 163 18 = -1 := by rw [hO1 163 (by decide), up_ne _ (by decide)]; exact hi
        have hTM : TrM v1 t (tsz v t) (tnm v t) := ⟨by rw [hO1 180 (by decide), up_off 180 (by decide)]; rfl, fun i _ _ => by rw [hO1 181 (by decide), up_off 181 (by decide)]; rfl⟩
        obtain ⟨n, v2, hE2, hO2, h163, hn0, hrun, htl⟩ := C_tells (d := d) (c := c) (v := v1) (t := t) (sz := tsz v t) (nm := tnm v t) ht htr.2.1 hTM (by rw [a1]; exact hS) i1 (by rw [a1]; omega)
        rw [a1] at hrun
        have hinv := RunR_inv _ hS hrun
        have hL := C_lieAt (d := d + 5) (c := c) (v := v2) hinv.1
        obtain ⟨v3, hE3, hO3, h3⟩ := C_isAgain (d := d + 7) (c := c) (v := v2) (al := v 164) hinv.2.1 (fun i i0 i1 => by rw [hO2 170 (by decide), hj i i0 i1, e164])
        have e20 : v3 163 20 = v2 163 20 := by rw [hO3 163 (by decide)]
        have hQ3 : QD v v3 := ⟨hq0.1.tr ((hO1.wk (by decide)).tr ((hO2.wk (by decide)).tr (hO3.wk (by decide)))), fun i hi => by rw [hO3 163 (by decide), h163 i (by omega), hO1 163 (by decide), hq0.2 i hi]⟩
        have hJ : ∀ r, r = jA y n (v2 163 20) (v2 164) → ∃ x_1 v', (some ((0 : Nat), r)) = some (0, x_1) ∧ ((c, v3) : Nat × sF) = (c, v') ∧ QD v v' ∧ v' 164 = v 164 ∧ jgV (v 164) (v 179 t) (tsz v t) (tnm v t) t y x_1 := fun r hr => ⟨r, v3, rfl, rfl, hQ3, h3, Or.inr (Or.inr (Or.inr ⟨z, ht, hT1, n, _, _, hn0, hrun, htl, hr⟩))⟩
        refine ⟨c, v1, hE1, n, c, v2, hE2, _, c, v2, hL, c, v3, hE3, ?_⟩
        rw [e20]
        unfold jA at hJ
        refine brbN (fun y0 => brbN (fun y1 => brbN (fun y2 => hJ _ ?_) (fun y2 => hJ _ ?_)) (fun y1 => hJ _ ?_)) (fun y0 => brbN (fun w => hJ _ ?_) (fun w => hJ _ ?_))
        · rw [if_neg y0, if_neg y1, if_neg y2]
        · rw [if_neg y0, if_neg y1, if_pos y2]
        · rw [if_neg y0, if_pos y1]
        · rw [if_pos y0, if_neg w]
        · rw [if_pos y0, if_pos w]
    · rw [if_neg ht]
      exact brbI (fun q => absurd q (by decide)) (fun _ => ⟨-2, _, rfl, rfl, hq0, e164, Or.inr (Or.inl ⟨z, ht, rfl⟩)⟩)
  · exact ⟨-2, _, rfl, rfl, hq0, e164, Or.inl ⟨z, rfl⟩⟩
/-- performed -/
def pfV (al : Int → Int) (T sz : Int) (nm : Int → Int) (t r : Int) (al2 : Int → Int) : Prop := (¬ (0 ≤ t ∧ t < 4) ∧ r = -2 ∧ al2 = al) ∨ ((0 ≤ t ∧ t < 4) ∧ T = -1 ∧ r = -6 ∧ al2 = al) ∨ ((0 ≤ t ∧ t < 4) ∧ T ≠ -1 ∧ ∃ why al1, 0 ≤ r ∧ RunR nm r.toNat 0 al al1 ∧ tlE sz nm r why al1 ∧ ((r ≤ 0 ∧ al2 = al1) ∨ (¬ r ≤ 0 ∧ pshR al1 al al2)))
theorem M_perform {v : sF} {t : Int} (hS : St (v 164)) (hi : v 163 18 = -1) (h27 : v 164 27 + 40 ≤ 900000) (h0 : 0 ≤ v 164 102 ∧ v 164 102 ≤ 10) (hT : TrR v) : ∃ r v', Ev (d + 9) 240 [(2, 163), (0, t)] (c, v) (some (0, r)) (c, v') ∧ QD v v' ∧ pfV (v 164) (v 179 t) (tsz v t) (tnm v t) t r (v' 164) := by
  have e164 : up v 163 0 0 164 = v 164 := up_off 164 (by decide)
  have hq0 : QD v (up v 163 0 0) := ⟨(Off.rf _ v).up (by decide), fun i hi => up_ne _ (by omega)⟩
  have hN := C_noTray (d := d + 6) (c := c) (v := up v 163 0 0) (t := t)
  rw [up_off 179 (by decide)] at hN
  refine CB_of (loc240 t) (E240_0 t ⟨_, c, _, hN, ?_⟩)
  by_cases ht : 0 ≤ t ∧ t < 4
  · rw [if_pos ht]
    by_cases hT1 : v 179 t = -1
    · rw [if_pos hT1]
      exact brbI (fun q => absurd q (by decide)) (fun _ => ⟨-6, _, rfl, rfl, hq0, Or.inr (Or.inl ⟨ht, hT1, rfl, e164⟩)⟩)
    · rw [if_neg hT1]
      refine brbI (fun _ => ?_) (fun q => absurd rfl q)
      have htr := hT t ht.1 ht.2
      obtain ⟨v1, hE1, hO1, hj⟩ := keeps_at (d := d + 7) (c := c) (v := up v 163 0 0)
      have a1 : v1 164 = v 164 := (hO1 164 (by decide)).trans e164
      have i1 : v1 163 18 = -1 := by rw [hO1 163 (by decide), up_ne _ (by decide)]; exact hi
      have hTM : TrM v1 t (tsz v t) (tnm v t) := ⟨by rw [hO1 180 (by decide), up_off 180 (by decide)]; rfl, fun i _ _ => by rw [hO1 181 (by decide), up_off 181 (by decide)]; rfl⟩
      obtain ⟨n, v2, hE2, hO2, h163, hn0, hrun, htl⟩ := C_tells (d := d) (c := c) (v := v1) (t := t) (sz := tsz v t) (nm := tnm v t) ht htr.2.1 hTM (by rw [a1]; exact hS) i1 (by rw [a1]; omega)
      rw [a1] at hrun
      have hinv := RunR_inv _ hS hrun
      have hQ2 : QD v v2 := ⟨hq0.1.tr ((hO1.wk (by decide)).tr (hO2.wk (by decide))), fun i hi => by rw [h163 i (by omega), hO1 163 (by decide), hq0.2 i hi]⟩
      refine ⟨c, v1, hE1, n, c, v2, hE2, brbI (fun z => ?_) (fun z => ?_)⟩
      · exact ⟨n, v2, rfl, rfl, hQ2, Or.inr (Or.inr ⟨ht, hT1, _, v2 164, hn0, hrun, htl, Or.inl ⟨z, rfl⟩⟩)⟩
      · obtain ⟨v3, hE3, hO3, hp3⟩ := C_notes (d := d + 7) (c := c) (v := v2) (b := v 164) (by rw [hinv.2.1 102 (by omega)]; exact h0) (fun i i0 i1 => by rw [hO2 170 (by decide), hj i i0 i1, e164])
        exact ⟨c, v3, hE3, n, v3, rfl, rfl, ⟨hQ2.1.tr (hO3.wk (by decide)), fun i hi => by rw [hO3 163 (by decide), hQ2.2 i hi]⟩, Or.inr (Or.inr ⟨ht, hT1, _, v2 164, hn0, hrun, htl, Or.inr ⟨z, hp3⟩⟩)⟩
  · rw [if_neg ht]
    exact brbI (fun q => absurd q (by decide)) (fun _ => ⟨-2, _, rfl, rfl, hq0, Or.inl ⟨ht, rfl, e164⟩⟩)
/-- a year -/
def yrV (al : Int → Int) (s N r : Int) (al2 : Int → Int) : Prop := (¬ (1 ≤ N ∧ N ≤ 40) ∧ r = -3 ∧ al2 = al) ∨ ((1 ≤ N ∧ N ≤ 40) ∧ ∃ al1, YrR N.toNat s al r al1 ∧ ((r ≤ 0 ∧ al2 = al1) ∨ (¬ r ≤ 0 ∧ pshR al1 al al2)))
theorem M_year {v : sF} {s N : Int} (hS : St (v 164)) (hi : v 163 18 = -1) (h27 : v 164 27 + 40 ≤ 900000) (h0 : 0 ≤ v 164 102 ∧ v 164 102 ≤ 10) : ∃ r v', Ev (d + 8) 243 [(2, 163), (0, s), (0, N)] (c, v) (some (0, r)) (c, v') ∧ QD v v' ∧ yrV (v 164) s N r (v' 164) := by
  have e164 : up v 163 0 0 164 = v 164 := up_off 164 (by decide)
  have hq0 : QD v (up v 163 0 0) := ⟨(Off.rf _ v).up (by decide), fun i hi => up_ne _ (by omega)⟩
  have hW := C_within (d := d + 6) (c := c) (v := up v 163 0 0) N 1 40
  refine CB_of (loc243 s N) (E243_0 s N ⟨_, c, _, hW, bfi (fun z => ?_) (fun z => ?_)⟩)
  · obtain ⟨v1, hE1, hO1, hj⟩ := keeps_at (d := d + 6) (c := c) (v := up v 163 0 0)
    have a1 : up v1 163 21 s 164 = v 164 := (up_off 164 (by decide)).trans ((hO1 164 (by decide)).trans e164)
    refine ⟨c, v1, hE1, ym_loop (d := d) (c := c) z.2 N.toNat 0 0 s (up v1 163 21 s) _ (by omega) (by omega) (by omega) (by rw [a1]; exact hS) (by rw [up_ne _ (by decide), hO1 163 (by decide), up_ne _ (by decide)]; exact hi) (by rw [a1]; omega) (up_same _ _ _ _) (fun n v2 ho h163 hy => ?_)⟩
    rw [a1] at hy
    rw [Int.zero_add]
    have hinv := YrR_inv _ hS hy
    have hQ2 : QD v v2 := ⟨hq0.1.tr ((hO1.wk (by decide)).tr (((Off.rf _ v1).up (by decide)).tr (ho.wk (by decide)))), fun i hi => by rw [h163 i (by omega), up_ne _ (by omega), hO1 163 (by decide), hq0.2 i hi]⟩
    refine brbI (fun q => ?_) (fun q => ?_)
    · exact ⟨n, v2, rfl, rfl, hQ2, Or.inr ⟨z, v2 164, hy, Or.inl ⟨q, rfl⟩⟩⟩
    · obtain ⟨v3, hE3, hO3, hp3⟩ := C_notes (d := d + 6) (c := c) (v := v2) (b := v 164) (by rw [hinv.2.1 102 (by omega)]; exact h0) (fun i i0 i1 => by rw [ho 170 (by decide), up_off 170 (by decide), hj i i0 i1, e164])
      exact ⟨c, v3, hE3, n, v3, rfl, rfl, ⟨hQ2.1.tr (hO3.wk (by decide)), fun i hi => by rw [hO3 163 (by decide), hQ2.2 i hi]⟩, Or.inr ⟨z, v2 164, hy, Or.inr ⟨q, hp3⟩⟩⟩
  · exact ⟨-3, _, rfl, rfl, hq0, Or.inl ⟨z, rfl, e164⟩⟩
end Dd10
