section Dd5
variable {d c : Nat}
/-- why a deed cannot be done: 0, 1 or 2 -/
def dw (al : Int → Int) (k p x : Int) : Int := if ¬ (0 ≤ p ∧ p < al 2) then 1 else if k = 0 then (if 0 ≤ x ∧ x < al 1 then (if al 28 = 6 then 2 else 0) else 1) else if k = 1 then (if 0 ≤ x ∧ x < al 1 then (if al (30 + p) = x then 2 else 0) else 1) else if k = 2 then (if (0 ≤ x ∧ x < al 2) ∧ p ≠ x then (if al (42 + 6 * p + x) = 9 then 2 else 0) else 1) else (if 0 ≤ x ∧ x ≤ 9 then 0 else 1)
theorem dw0 {al : Int → Int} {k p x : Int} (hk : 0 ≤ k ∧ k ≤ 3) (h : dw al k p x = 0) : (0 ≤ p ∧ p < al 2) ∧ (k = 0 → (0 ≤ x ∧ x < al 1) ∧ al 28 ≠ 6) ∧ (k = 1 → (0 ≤ x ∧ x < al 1) ∧ al (30 + p) ≠ x) ∧ (k = 2 → ((0 ≤ x ∧ x < al 2) ∧ p ≠ x) ∧ al (42 + 6 * p + x) ≠ 9) ∧ (k = 3 → 0 ≤ x ∧ x ≤ 9) := by
  unfold dw at h
  (repeat' split at h) <;> omega
theorem dw_r (al : Int → Int) (k p x : Int) : dw al k p x = 0 ∨ dw al k p x = 1 ∨ dw al k p x = 2 := by
  unfold dw
  (repeat' split) <;> omega
def dR (al : Int → Int) (k p x : Int) (al' : Int → Int) : Prop := (k = 0 → PoR al p x al') ∧ (k = 1 → ∃ n, MoR al p x al' n) ∧ (k = 2 → al' = ua al (42 + 6 * p + x) (al (42 + 6 * p + x) + 1)) ∧ (k = 3 → al' = ua al (36 + p) x)
def mvN (al : Int → Int) (p x : Int) : Int := cnt (fun l => !isG al l && (decide (al (84 + l) = p) && decide (al (78 + l) = x))) (al 28).toNat
def dA (al : Int → Int) (k p x : Int) : Int := if k = 0 then al 28 else if k = 1 then mvN al p x else if k = 2 then al (42 + 6 * p + x) + 1 else al (36 + p)
theorem okN_cg {al al' : Int → Int} (h : okN al) (h1 : al' 1 = al 1) (hp : ∀ p : Int, 0 ≤ p → p < 6 → (0 ≤ al' (30 + p) ∧ al' (30 + p) < al 1) ∧ (0 ≤ al' (36 + p) ∧ al' (36 + p) ≤ 9)) (hc : ∀ i : Int, 0 ≤ i → i < 36 → 0 ≤ al' (42 + i) ∧ al' (42 + i) ≤ 9) : okN al' := by
  unfold okN okMn
  rw [h1]
  exact ⟨hp, hc⟩
theorem St_Po {al al' : Int → Int} {p x : Int} (hS : St al) (hp : 0 ≤ p ∧ p < al 2) (hx : 0 ≤ x ∧ x < al 1) (h28 : al 28 < 6) (h : PoR al p x al') : St al' := by
  have h0 := hS.2.2.1
  have h2 := hS.1.2.1
  obtain ⟨hb, h28', h78, h84, h90, h29, hg, hgn, hgd⟩ := h
  have h27 := hS.2.2.2.2.1
  refine ⟨okT_cg (fun k hk => hb k (by omega)) hS.1, okN_cg hS.2.1 (hb 1 (by omega)) (fun q q0 q1 => by rw [hb (30 + q) (by omega), hb (36 + q) (by omega)]; exact hS.2.1.1 q q0 q1) (fun i i0 i1 => by rw [hb (42 + i) (by omega)]; exact hS.2.1.2 i i0 i1), by omega, h29, by rw [hb 27 (by omega)]; exact h27, fun l l0 l1 => ?_, fun l l0 l1 => ?_⟩
  · rw [hg l (by omega) l1 (by omega)]
    exact hS.2.2.2.2.2.1 l (by omega) l1
  · rw [hb 2 (by omega), hb 1 (by omega), hb 27 (by omega)]
    by_cases e : l = al 28
    · rw [e, h84, h78, h90, hb (30 + p) (by omega)]
      refine ⟨hp, hx, by omega, fun z => by rw [hgd z]; omega, fun z q => ?_⟩
      rw [hgn.2 q.symm] at z
      cases z
    · have hll := hS.2.2.2.2.2.2 l l0 (by omega)
      rw [hb (84 + l) (by omega), hb (78 + l) (by omega), hb (90 + l) (by omega), hb (96 + l) (by omega), hg l l0 (by omega) e, hb (30 + al (84 + l)) (by omega)]
      exact hll
theorem St_Mo {al al' : Int → Int} {p x n : Int} (hS : St al) (hp : 0 ≤ p ∧ p < al 2) (hx : 0 ≤ x ∧ x < al 1) (h : MoR al p x al' n) : St al' := by
  have h0 := hS.2.2.1
  have h2 := hS.1.2.1
  obtain ⟨hb, h30, h29, hge, hg, hn⟩ := h
  have h27 := hS.2.2.2.2.1
  refine ⟨okT_cg (fun k hk => hb k (by omega)) hS.1, okN_cg hS.2.1 (hb 1 (by omega)) (fun q q0 q1 => ?_) (fun i i0 i1 => by rw [hb (42 + i) (by omega)]; exact hS.2.1.2 i i0 i1), by rw [hb 28 (by omega)]; exact h0, h29, by rw [hb 27 (by omega)]; exact h27, fun l l0 l1 => hge l (by rw [hb 28 (by omega)] at l0; exact l0) l1, fun l l0 l1 => ?_⟩
  · rw [hb (36 + q) (by omega)]
    by_cases e : q = p
    · rw [e, h30]; exact ⟨hx, (hS.2.1.1 p (by omega) (by omega)).2⟩
    · rw [hb (30 + q) (by omega)]; exact hS.2.1.1 q q0 q1
  · rw [hb 28 (by omega)] at l1
    have hll := hS.2.2.2.2.2.2 l l0 l1
    have hgl := hg l l0 l1
    rw [hb 2 (by omega), hb 1 (by omega), hb 27 (by omega), hb (84 + l) (by omega), hb (78 + l) (by omega), hb (90 + l) (by omega)]
    refine ⟨hll.1, hll.2.1, hll.2.2.1, fun z => ?_, fun z => ?_⟩
    · by_cases e : isG al l = true
      · rw [hgl.2.1 e]; exact hll.2.2.2.1 e
      · rw [hgl.2.2 (bf e) z]; omega
    · have hnf : isG al l = false := bf (fun q => by rw [hgl.1.2 (Or.inl q)] at z; cases z)
      by_cases e : al (84 + l) = p
      · rw [e, h30]
        intro q
        rw [hgl.1.2 (Or.inr ⟨e, q⟩)] at z
        cases z
      · rw [hb (30 + al (84 + l)) (by omega)]
        exact hll.2.2.2.2 hnf
theorem St_ua {al : Int → Int} {k y : Int} (hS : St al) (hk : 36 ≤ k ∧ k < 78) (hy : 0 ≤ y ∧ y ≤ 9) : St (ua al k y) := by
  have h0 := hS.2.2.1
  have h2 := hS.1.2.1
  refine ⟨okT_cg (fun j hj => ua_n (by omega)) hS.1, okN_cg hS.2.1 (ua_n (by omega)) (fun q q0 q1 => ?_) (fun i i0 i1 => ?_), by rw [ua_n (by omega)]; exact h0, by rw [ua_n (by omega)]; exact hS.2.2.2.1, by rw [ua_n (by omega)]; exact hS.2.2.2.2.1, fun l l0 l1 => ?_, fun l l0 l1 => ?_⟩
  · rw [ua_n (show 30 + q ≠ k by omega)]
    refine ⟨(hS.2.1.1 q q0 q1).1, ?_⟩
    by_cases e : 36 + q = k
    · rw [e, ua_s]; exact hy
    · rw [ua_n e]; exact (hS.2.1.1 q q0 q1).2
  · by_cases e : 42 + i = k
    · rw [e, ua_s]; exact hy
    · rw [ua_n e]; exact hS.2.1.2 i i0 i1
  · rw [isG_e (ua_n (by omega))]
    exact hS.2.2.2.2.2.1 l (by rw [ua_n (by omega)] at l0; exact l0) l1
  · rw [ua_n (by omega)] at l1
    have hll := hS.2.2.2.2.2.2 l l0 l1
    rw [isG_e (ua_n (by omega)), ua_n (show 84 + l ≠ k by omega), ua_n (show 78 + l ≠ k by omega), ua_n (show 90 + l ≠ k by omega), ua_n (show 96 + l ≠ k by omega), ua_n (show (2 : Int) ≠ k by omega), ua_n (show (1 : Int) ≠ k by omega), ua_n (show (27 : Int) ≠ k by omega), ua_n (show 30 + al (84 + l) ≠ k by omega)]
    exact hll
theorem St_dR {al al' : Int → Int} {k p x : Int} (hS : St al) (hk : 0 ≤ k ∧ k ≤ 3) (hw : dw al k p x = 0) (h : dR al k p x al') : St al' ∧ al' 27 = al 27 := by
  obtain ⟨hp, w0, w1, w2, w3⟩ := dw0 hk hw
  have h0 := hS.2.2.1
  have h2 := hS.1.2.1
  rcases (show k = 0 ∨ k = 1 ∨ k = 2 ∨ k = 3 by omega) with e | e | e | e
  · have hr := h.1 e
    have hw := w0 e
    exact ⟨St_Po hS hp hw.1 (by omega) hr, hr.1 27 (by omega)⟩
  · obtain ⟨n, hr⟩ := h.2.1 e
    exact ⟨St_Mo hS hp (w1 e).1 hr, hr.1 27 (by omega)⟩
  · rw [h.2.2.1 e]
    have hw := w2 e
    have hc := hS.2.1.2 (6 * p + x) (by omega) (by omega)
    rw [show 42 + (6 * p + x) = 42 + 6 * p + x by omega] at hc
    exact ⟨St_ua hS (by omega) (by omega), ua_n (by omega)⟩
  · rw [h.2.2.2 e]
    exact ⟨St_ua hS (by omega) (w3 e), ua_n (by omega)⟩
/-- one deed in the class -/
theorem C_act {v : sF} {a k p x : Int} {al al' : Int → Int} (ha : aN a) (hS : St al) (hR : CR v a al) (hk : 0 ≤ k ∧ k ≤ 3) (hd : dw al k p x = 0 → dR al k p x al') : ∃ r v', Ev (d + 2) 6 [(2, 144), (2, a), (0, k), (0, p), (0, x)] (c, v) (some (0, r)) (c, v') ∧ Off (nOf a) v v' ∧ ((dw al k p x = 1 ∧ r = -11 ∧ v' = v) ∨ (dw al k p x = 2 ∧ r = -12 ∧ v' = v) ∨ (dw al k p x = 0 ∧ 0 ≤ r ∧ r = dA al k p x ∧ NowR v' a al')) := by
  have h0 := hS.2.2.1
  refine CB_of (loc6 a k p x) (E6_0 a k p x ?_)
  rw [hR.1.2.1]
  by_cases hp : 0 ≤ p ∧ p < al 2
  · have hpn : ¬ ¬ (0 ≤ p ∧ p < al 2) := fun q => q hp
    refine brbI (fun z => absurd z (by omega)) (fun _ => brbI (fun _ => ?_) (fun z => absurd hp.2 z))
    refine brbI (fun z0 => ?_) (fun z0 => brbI (fun z1 => ?_) (fun z1 => brbI (fun z2 => ?_) (fun z2 => ?_)))
    · subst z0
      obtain ⟨r, v', hE, hO, h⟩ := C_sendOut (d := d) (c := c) (x := x) ha hS hR hp
      refine ⟨r, c, v', hE, r, v', rfl, rfl, hO, ?_⟩
      rcases h with ⟨h1, h2, h3⟩ | ⟨h1, h2, h3, h4⟩ | ⟨h1, h2, h3, h4⟩
      · exact Or.inl ⟨by unfold dw; rw [if_neg hpn, if_pos rfl, if_neg h1], h2, h3⟩
      · exact Or.inr (Or.inl ⟨by unfold dw; rw [if_neg hpn, if_pos rfl, if_pos h1, if_pos h2], h3, h4⟩)
      · have e : dw al 0 p x = 0 := by unfold dw; rw [if_neg hpn, if_pos rfl, if_pos h1, if_neg (by omega)]
        exact Or.inr (Or.inr ⟨e, by omega, by unfold dA; rw [if_pos rfl]; exact h3, h4 al' ((hd e).1 rfl)⟩)
    · subst z1
      have hC := C_shift (d := d) (c := c) (x := x) ha hS hR hp
      by_cases h1 : 0 ≤ x ∧ x < al 1
      · by_cases h2 : al (30 + p) = x
        · exact ⟨-12, c, v, hC.2.1 h1 h2, -12, v, rfl, rfl, Off.rf _ v, Or.inr (Or.inl ⟨by unfold dw; rw [if_neg hpn, if_neg (by decide), if_pos rfl, if_pos h1, if_pos h2], rfl, rfl⟩)⟩
        · have e : dw al 1 p x = 0 := by unfold dw; rw [if_neg hpn, if_neg (by decide), if_pos rfl, if_pos h1, if_neg h2]
          obtain ⟨n, hn⟩ := (hd e).2.1 rfl
          obtain ⟨v', hE, hO, hN⟩ := hC.2.2 h1 h2 al' n hn
          have hn5 : n = mvN al p x := hn.2.2.2.2.2
          have hcr := cnt_rng (fun l => !isG al l && (decide (al (84 + l) = p) && decide (al (78 + l) = x))) (al 28).toNat
          exact ⟨n, c, v', hE, n, v', rfl, rfl, hO, Or.inr (Or.inr ⟨e, by rw [hn5]; unfold mvN; exact hcr.1, by unfold dA; rw [if_neg (by decide), if_pos rfl]; exact hn5, hN⟩)⟩
      · exact ⟨-11, c, v, hC.1 h1, -11, v, rfl, rfl, Off.rf _ v, Or.inl ⟨by unfold dw; rw [if_neg hpn, if_neg (by decide), if_pos rfl, if_neg h1], rfl, rfl⟩⟩
    · subst z2
      obtain ⟨r, v', hE, hO, h⟩ := C_stir (d := d) (c := c) (q := x) ha hS hR hp
      refine ⟨r, c, v', hE, r, v', rfl, rfl, hO, ?_⟩
      rcases h with ⟨h1, h2, h3⟩ | ⟨h1, h2, h3, h4⟩ | ⟨h1, h2, h3, h4⟩
      · exact Or.inl ⟨by unfold dw; rw [if_neg hpn, if_neg (by decide), if_neg (by decide), if_pos rfl, if_neg h1], h2, h3⟩
      · exact Or.inr (Or.inl ⟨by unfold dw; rw [if_neg hpn, if_neg (by decide), if_neg (by decide), if_pos rfl, if_pos h1, if_pos h2], h3, h4⟩)
      · have e : dw al 2 p x = 0 := by unfold dw; rw [if_neg hpn, if_neg (by decide), if_neg (by decide), if_pos rfl, if_pos h1, if_neg h2]
        have hpT := hS.1.2.1
        have hc := hS.2.1.2 (6 * p + x) (by omega) (by omega)
        rw [show 42 + (6 * p + x) = 42 + 6 * p + x by omega] at hc
        refine Or.inr (Or.inr ⟨e, by omega, by unfold dA; rw [if_neg (by decide), if_neg (by decide), if_pos rfl]; exact h3, ?_⟩)
        rw [(hd e).2.2.1 rfl]
        exact h4
    · have e3 : k = 3 := by omega
      subst e3
      obtain ⟨r, v', hE, hO, h⟩ := C_turn (d := d) (c := c) (n := x) ha hS hR hp
      refine ⟨r, c, v', hE, r, v', rfl, rfl, hO, ?_⟩
      rcases h with ⟨h1, h2, h3⟩ | ⟨h1, h2, h3⟩
      · exact Or.inl ⟨by unfold dw; rw [if_neg hpn, if_neg (by decide), if_neg (by decide), if_neg (by decide), if_neg h1], h2, h3⟩
      · have e : dw al 3 p x = 0 := by unfold dw; rw [if_neg hpn, if_neg (by decide), if_neg (by decide), if_neg (by decide), if_pos h1]
        have hpT := hS.1.2.1
        have hc := (hS.2.1.1 p (by omega) (by omega)).2
        refine Or.inr (Or.inr ⟨e, by omega, by unfold dA; rw [if_neg (by decide), if_neg (by decide), if_neg (by decide)]; exact h2, ?_⟩)
        rw [(hd e).2.2.2 rfl]
        exact h3
  · have e : dw al k p x = 1 := by unfold dw; rw [if_pos hp]
    have hl : ∃ x_1 v', (some ((0 : Nat), (-11 : Int))) = some (0, x_1) ∧ ((c, v) : Nat × sF) = (c, v') ∧ Off (nOf a) v v' ∧ ((dw al k p x = 1 ∧ x_1 = -11 ∧ v' = v) ∨ (dw al k p x = 2 ∧ x_1 = -12 ∧ v' = v) ∨ (dw al k p x = 0 ∧ 0 ≤ x_1 ∧ x_1 = dA al k p x ∧ NowR v' a al')) := ⟨-11, v, rfl, rfl, Off.rf _ v, Or.inl ⟨e, rfl, rfl⟩⟩
    exact brbI (fun _ => hl) (fun z => brbI (fun z2 => absurd ⟨by omega, z2⟩ hp) (fun _ => hl))
/-- deeds by their codes -/
def dwE (al : Int → Int) (e : Int) : Int := if e = -1 then 0 else if 0 ≤ e ∧ e ≤ 399 then dw al (e / 100) (e % 100 / 10) (e % 10) else 1
def dRE (al : Int → Int) (e : Int) (al' : Int → Int) : Prop := (e = -1 → DyR al 1 al') ∧ (e ≠ -1 → dR al (e / 100) (e % 100 / 10) (e % 10) al') ∧ K96 al al'
theorem St_dRE {al al' : Int → Int} {e : Int} (hS : St al) (hw : dwE al e = 0) (h : dRE al e al') : St al' ∧ al 27 ≤ al' 27 ∧ al' 27 ≤ al 27 + 1 := by
  by_cases he : e = -1
  · have hd := h.1 he
    exact ⟨St_Dy hS hd, by rw [hd.2.1]; omega, by rw [hd.2.1]; omega⟩
  · unfold dwE at hw
    rw [if_neg he] at hw
    by_cases hr : 0 ≤ e ∧ e ≤ 399
    · rw [if_pos hr] at hw
      have := St_dR hS (by omega) hw (h.2.1 he)
      exact ⟨this.1, by omega, by omega⟩
    · rw [if_neg hr] at hw; omega
theorem tm10 {e : Int} (h : 0 ≤ e) : Int.tmod e 10 = e % 10 := by obtain ⟨n, rfl⟩ := Int.eq_ofNat_of_zero_le h; rfl
theorem tm100 {e : Int} (h : 0 ≤ e) : Int.tmod e 100 = e % 100 := by obtain ⟨n, rfl⟩ := Int.eq_ofNat_of_zero_le h; rfl
theorem td10 {e : Int} (h : 0 ≤ e) : Int.tdiv e 10 = e / 10 := by obtain ⟨n, rfl⟩ := Int.eq_ofNat_of_zero_le h; rfl
theorem td100 {e : Int} (h : 0 ≤ e) : Int.tdiv e 100 = e / 100 := by obtain ⟨n, rfl⟩ := Int.eq_ofNat_of_zero_le h; rfl
/-- told by its code, in the class -/
theorem C_actTold {v : sF} {a e : Int} {al al' : Int → Int} (ha : aN a) (hS : St al) (hR : CR v a al) (he : e ≠ -1) (hd : dwE al e = 0 → dRE al e al') : ∃ r v', Ev (d + 3) 14 [(2, 144), (2, a), (1, e)] (c, v) (some (0, r)) (c, v') ∧ Off (nOf a) v v' ∧ ((dwE al e = 1 ∧ r = -11 ∧ v' = v) ∨ (dwE al e = 2 ∧ r = -12 ∧ v' = v) ∨ (dwE al e = 0 ∧ 0 ≤ r ∧ NowR v' a al')) := by
  refine CB_of (loc14 a e) (E14_0 a e ?_)
  by_cases hr : 0 ≤ e ∧ e ≤ 399
  · have ee : dwE al e = dw al (e / 100) (e % 100 / 10) (e % 10) := by unfold dwE; rw [if_neg he, if_pos hr]
    rw [ee] at hd ⊢
    obtain ⟨r, v', hE, hO, h⟩ := C_act (d := d) (c := c) (k := e / 100) (p := e % 100 / 10) (x := e % 10) ha hS hR (by omega) (fun z => (hd z).2.1 he)
    rw [td100 hr.1, td10 hr.1, tm10 hr.1, w32_id (by omega), w32_id (by omega), tm10 (by omega), show e / 10 % 10 = e % 100 / 10 by omega]
    refine blt (fun z => absurd z (by omega)) (fun _ => ble (fun _ => rngI (by omega) ⟨r, c, v', hE, r, v', rfl, rfl, hO, ?_⟩) (fun z => absurd hr.2 z))
    rcases h with h | h | ⟨h1, h2, h3, h4⟩
    · exact Or.inl h
    · exact Or.inr (Or.inl h)
    · exact Or.inr (Or.inr ⟨h1, h2, h4⟩)
  · have ee : dwE al e = 1 := by unfold dwE; rw [if_neg he, if_neg hr]
    exact blt (fun _ => ⟨-11, v, rfl, rfl, Off.rf _ v, Or.inl ⟨ee, rfl, rfl⟩⟩) (fun z => ble (fun z2 => absurd ⟨by omega, z2⟩ hr) (fun _ => ⟨-11, v, rfl, rfl, Off.rf _ v, Or.inl ⟨ee, rfl, rfl⟩⟩))
/-- a run of told deeds -/
def RunR (nm : Int → Int) : Nat → Int → (Int → Int) → (Int → Int) → Prop
  | 0, _, al, al' => al' = al
  | j + 1, k, al, al' => ∃ al1, dwE al (nm k) = 0 ∧ dRE al (nm k) al1 ∧ RunR nm j (k + 1) al1 al'
/-- the cells that deeds of the class write -/
def cDd (a : Int) : List Int := 144 :: (cPs a ++ nOf a)
theorem cDd_mem {a b : Int} : b ∈ cDd a ↔ (b = 144 ∨ b ∈ cPs a ∨ b ∈ nOf a) := by unfold cDd; simp [List.mem_cons, List.mem_append]
theorem CR_off {v v' : sF} {a : Int} {al al' : Int → Int} (ha : aN a) (hT : okT al) (hs : sameT al al') (hR : TolR v 3 al) (ho : Off (cDd a) v v') (hN : NowR v' a al') : CR v' a al' := by
  have ha2 : a = 13 ∨ a = 29 := ha
  exact ⟨TolR_cg hT hs (hR.off ho (fun j hj z => by rw [cDd_mem, cPs_mem, nOf_mem] at z; omega)), hN⟩
theorem CR_144 {v : sF} {a : Int} {al : Int → Int} (ha : aN a) (h : CR v a al) (i x : Int) : CR (up v 144 i x) a al := by
  have ha2 : a = 13 ∨ a = 29 := ha
  have ho : Off [144] v (up v 144 i x) := (Off.rf [144] v).up (by decide)
  exact ⟨h.1.off ho (fun k hk z => by simp at z; omega), h.2.off ho (fun k k0 k1 z => by simp at z; omega)⟩
theorem dRE_same {al al' : Int → Int} {e : Int} (hS : St al) (hw : dwE al e = 0) (h : dRE al e al') : sameT al al' := by
  have h0 := hS.2.2.1
  have h2 := hS.1.2.1
  by_cases he : e = -1
  · have hd := h.1 he
    exact fun k hk => hd.1 k (by omega)
  · unfold dwE at hw
    rw [if_neg he] at hw
    by_cases hr : 0 ≤ e ∧ e ≤ 399
    · rw [if_pos hr] at hw
      obtain ⟨hp, w0, w1, w2, w3⟩ := dw0 (by omega) hw
      have hd := h.2.1 he
      rcases (show e / 100 = 0 ∨ e / 100 = 1 ∨ e / 100 = 2 ∨ e / 100 = 3 by omega) with q | q | q | q
      · have := hd.1 q
        have := w0 q
        exact fun k hk => (hd.1 q).1 k (by omega)
      · obtain ⟨n, hn⟩ := hd.2.1 q
        exact fun k hk => hn.1 k (by omega)
      · have hw := w2 q
        rw [hd.2.2.1 q]
        exact fun k hk => ua_n (by omega)
      · rw [hd.2.2.2 q]
        exact fun k hk => ua_n (by omega)
    · rw [if_neg hr] at hw; omega
theorem aa_loop {a t sz : Int} {n why : Int} {nm : Int → Int} {al' : Int → Int} {Q : sQ} (v0 : sF) (ha : aN a) (ht : 0 ≤ t ∧ t < 4) (hz : 0 ≤ sz ∧ sz ≤ 40) (hr : TrX v0 t sz nm) (hw : (n = sz ∧ why = 0) ∨ (n < sz ∧ why = dwE al' (nm n) ∧ why ≠ 0)) (hQ : ∀ v', Off (cDd a) v0 v' → CR v' a al' → v' 144 2 = why → Q (some (0, n)) (c, v')) : ∀ (j : Nat) (k : Int) (v : sF) (al : Int → Int), 0 ≤ k → k + j = n → RunR nm j k al al' → St al → al 27 + j ≤ 900000 → Off (cDd a) v0 v → CR v a al → v 144 2 = 0 → Wp (Ev (d + 6)) 0 (fun _ => 0) 13 Q 7 [(2, 144), (2, a), (2, 155 + 2 * t), (0, k), (9, 0), (9, 0), (9, 0)] [] c v := by
  have ha2 : a = 13 ∨ a = 29 := ha
  have ty := tr_ty ht
  intro j
  induction j with
  | zero =>
    intro k v al k0 hk hrun hS h27 ho hR h144
    have hal : al' = al := hrun
    subst hal
    have hkn : k = n := by omega
    subst hkn
    have hx : TrX v t sz nm := hr.off ht ho (fun b hb => by rw [cDd_mem, cPs_mem, nOf_mem] at hb; omega)
    refine E13_7 _ _ _ (cktI (beqI ty.1) ?_)
    rw [hx.1]
    rcases hw with ⟨hn, hwy⟩ | ⟨hn, hwy, hw0⟩
    · refine brbI (fun _ => cktI (beqI ty.1) ?_) (fun z => absurd z (by omega))
      have := hQ v ho hR (by rw [hwy]; exact h144)
      rw [hn] at this
      exact this
    · refine brbI (fun z => absurd z (by omega)) (fun _ => cktI (beqI ty.1) (cktI (beqI ty.2.1) ?_))
      rw [ty.2.2, hx.2 k k0 hn]
      have hne : nm k ≠ -1 := fun q => hw0 (by rw [hwy]; unfold dwE; rw [if_pos q])
      obtain ⟨r, v', hE, hO, h⟩ := C_actTold (d := d + 3) (c := c) (e := nm k) (al' := al') ha hS hR hne (fun z => absurd (hwy.trans z) hw0)
      refine chkI (inbI (by omega) (by omega)) (bne0 (fun _ => ⟨r, c, v', hE, ?_⟩) (fun z => absurd z hne))
      rcases h with ⟨h1, h2, h3⟩ | ⟨h1, h2, h3⟩ | ⟨h1, h2, h3⟩
      · subst h3
        rw [h2]
        exact brbI (fun z => absurd z (by decide)) (fun _ => brbN (fun z => absurd rfl z) (fun _ => hQ _ (ho.up (cDd_mem.2 (Or.inl rfl))) (CR_144 ha hR 2 _) (by rw [up_same, hwy, h1])))
      · subst h3
        rw [h2]
        exact brbI (fun z => absurd z (by decide)) (fun _ => brbN (fun _ => hQ _ (ho.up (cDd_mem.2 (Or.inl rfl))) (CR_144 ha hR 2 _) (by rw [up_same, hwy, h1])) (fun z => absurd z (by decide)))
      · exact absurd (hwy.trans h1) hw0
  | succ j ih =>
    intro k v al k0 hk hrun hS h27 ho hR h144
    obtain ⟨al1, hw1, hd1, hrun1⟩ := hrun
    have hx : TrX v t sz nm := hr.off ht ho (fun b hb => by rw [cDd_mem, cPs_mem, nOf_mem] at hb; omega)
    have hkz : k < sz := by omega
    have hst := St_dRE hS hw1 hd1
    refine E13_7 _ _ _ (cktI (beqI ty.1) ?_)
    rw [hx.1]
    refine brbI (fun z => absurd z (by omega)) (fun _ => cktI (beqI ty.1) (cktI (beqI ty.2.1) ?_))
    rw [ty.2.2, hx.2 k k0 hkz]
    refine chkI (inbI (by omega) (by omega)) (bne0 (fun z => ?_) (fun z => ?_))
    · obtain ⟨r, v', hE, hO, h⟩ := C_actTold (d := d + 3) (c := c) (e := nm k) (al' := al1) ha hS hR z (fun _ => hd1)
      rcases h with ⟨h1, h2, h3⟩ | ⟨h1, h2, h3⟩ | ⟨h1, h2, h3⟩
      · omega
      · omega
      · have hO2 : Off (cDd a) v v' := hO.wk (fun b hb => cDd_mem.2 (Or.inr (Or.inr hb)))
        exact ⟨r, c, v', hE, brbI (fun _ => rngI (by omega) (ih (k + 1) v' al1 (by omega) (by omega) hrun1 hst.1 (by omega) (ho.tr hO2) (CR_off ha hS.1 (dRE_same hS hw1 hd1) hR.1 hO2 h3) (by rw [hO 144 (fun q => by rw [nOf_mem] at q; omega)]; exact h144))) (fun q => absurd h2 q)⟩
    · have hdy := hd1.1 z
      obtain ⟨v', hE, hO, h3⟩ := C_pass (d := d) (c := c) (n := 1) ha hS hR hdy (by omega) (by omega)
      have hO2 : Off (cDd a) v v' := hO.wk (fun b hb => cDd_mem.2 (Or.inr (Or.inl hb)))
      have hc0 : 0 ≤ cmN al al1 := (cnt_rng _ _).1
      exact ⟨_, c, v', hE, brbI (fun _ => rngI (by omega) (ih (k + 1) v' al1 (by omega) (by omega) hrun1 hst.1 (by omega) (ho.tr hO2) (CR_off ha hS.1 (dRE_same hS hw1 hd1) hR.1 hO2 h3) (by rw [hO 144 (fun q => by rw [cPs_mem] at q; omega)]; exact h144))) (fun q => absurd hc0 q)⟩
theorem C_actAll {v : sF} {a t sz n why : Int} {nm : Int → Int} {al al' : Int → Int} (ha : aN a) (ht : 0 ≤ t ∧ t < 4) (hz : 0 ≤ sz ∧ sz ≤ 40) (hr : TrX v t sz nm) (hn : 0 ≤ n) (hw : (n = sz ∧ why = 0) ∨ (n < sz ∧ why = dwE al' (nm n) ∧ why ≠ 0)) (hrun : RunR nm n.toNat 0 al al') (hS : St al) (h27 : al 27 + 40 ≤ 900000) (hR : CR v a al) : ∃ v', Ev (d + 7) 13 [(2, 144), (2, a), (2, 155 + 2 * t)] (c, v) (some (0, n)) (c, v') ∧ Off (cDd a) v v' ∧ CR v' a al' ∧ v' 144 2 = why := by
  have ha2 : a = 13 ∨ a = 29 := ha
  have ho : Off (cDd a) v (up v 144 2 0) := (Off.rf _ v).up (cDd_mem.2 (Or.inl rfl))
  refine CI_of (loc13 a (155 + 2 * t)) (E13_0 a (155 + 2 * t) ?_)
  refine aa_loop v ha ht hz hr hw (fun v' ho hR hwy => ⟨rfl, v', rfl, ho, hR, hwy⟩) n.toNat 0 _ al (by omega) (by omega) hrun hS (by omega) ho (CR_144 ha hR 2 _) (up_same _ _ _ _)
end Dd5
