section Qry3
variable {d c : Nat}
/-- needed -/
def q_needed (al : Int → Int) (p x : Int) : Int := if (0 ≤ p ∧ p < al 2) ∧ (0 ≤ x ∧ x < al 1) then (if q_com al (-1) p x = -1 then 0 else bts (fun q => decide (q ≠ p ∧ q_com al q p x = -1)) (al 2).toNat) else -2
theorem WG.bar {v : sF} {al : Int → Int} {p idle only : Int} (h : WG v al p idle only) (x : Int) : WG (up v 140 4 x) al p x only := by
  unfold WG at *
  rw [up_ne2 _ (by decide), up_ne2 _ (by decide), up_ne _ (by decide), up_ne _ (by decide), up_same, up_off 141 (by decide), up_off 142 (by decide), up_off 143 (by decide)]
  exact ⟨h.1, h.2.1, h.2.2.1, h.2.2.2.1, rfl, h.2.2.2.2.2⟩
theorem ndX_loop {al : Int → Int} {p x : Int} {Q : sQ} (v0 : sF) (hT : okT al) (hp : 0 ≤ p ∧ p < 6) (hx : 0 ≤ x ∧ x < al 1) (hQ : ∀ v, Off scX v0 v → Q (some (0, bts (fun q => decide (q ≠ p ∧ q_com al q p x = -1)) (al 2).toNat)) (c, v)) : ∀ (m k : Nat) (v : sF) (idle : Int), (k : Int) + m = al 2 → Off scX v0 v → WG v al p idle (-1) → Wp (Ev (d + 3)) 0 (fun _ => 0) 137 Q 43 [(2, 1), (0, p), (0, x), (0, bts (fun q => decide (q ≠ p ∧ q_com al q p x = -1)) k), (0, (k : Int))] [] c v := by
  have hP := hT.2.1
  intro m
  induction m with
  | zero =>
    intro k v idle hk ho hG
    refine E137_43 _ _ _ _ ?_
    rw [hG.2.1]
    rw [show (al 2).toNat = k by omega] at hQ
    exact brbI (fun _ => hQ v ho) (fun q => absurd q (by omega))
  | succ m ih =>
    intro k v idle hk ho hG
    have hG2 := hG.bar (k : Int)
    have ho2 : Off scX v0 (up v 140 4 (k : Int)) := ho.up (by decide)
    have ihk := ih (k + 1) _ _ (by omega) ho2 hG2
    rw [bts_s] at ihk
    refine E137_43 _ _ _ _ ?_
    rw [hG.2.1]
    have hE := C_dtg (d := d) (c := c) (hG2.n hT hp) hx
    refine brbI (fun q => absurd q (by omega)) (fun _ => brbI (fun q => rngI (by omega) ?_) (fun q => ⟨_, c, _, hE, brbN (fun q2 => rngI (by omega) ?_) (fun q2 => rngI (by omega) ?_)⟩))
    · rw [if_neg (by simp [q])] at ihk; exact ihk
    · have q2 : ¬ q_com al k p x = -1 := q2
      rw [if_neg (by simp [q2])] at ihk; exact ihk
    · have q2 : q_com al k p x = -1 := q2
      rw [if_pos (by simp [q, q2])] at ihk; exact ihk
theorem X_needed {v : sF} {al : Int → Int} {p x : Int} (hS : St al) (hR : CR v 13 al) : ∃ v', Ev (d + 9) 137 [(2, 1), (0, p), (0, x)] (c, v) (some (0, q_needed al p x)) (c, v') ∧ Off scX v v' := by
  have h2 := hS.1.2.1
  have hw := C_isWayX (d := d + 6) (c := c) (v := v) (x := p) (y := x)
  rw [hR.p.1, hR.p.2] at hw
  refine CI_of (loc137 p x) (E137_0 p x ⟨_, c, v, hw, bfi (fun h => ?_) (fun h => ⟨by unfold q_needed; rw [if_neg h], _, rfl, Off.rf _ v⟩)⟩)
  obtain ⟨v1, hE, hO, hR1, hG, hN, _⟩ := C_aimX (d := d + 2) (c := c) hS hR h.1
  refine ⟨c, v1, hE, _, c, v1, C_dtg (d := d + 5) (c := c) hN h.2, brbN (fun q => ?_) (fun q => ⟨?_, _, rfl, oX hO⟩)⟩
  · have q : ¬ q_com al (-1) p x = -1 := q
    exact ndX_loop (d := d + 5) v1 hS.1 (by omega) h.2 (fun v2 ho => ⟨by unfold q_needed; rw [if_pos h, if_neg q], _, rfl, (oX hO).tr ho⟩) (al 2).toNat 0 v1 _ (by omega) (Off.rf _ _) hG
  · have q : q_com al (-1) p x = -1 := q
    unfold q_needed; rw [if_pos h, if_pos q]
theorem ndM_loop {p x : Int} {Q : sQ} (v0 : sF) (hS : Sn (v0 164)) (hp : 0 ≤ p ∧ p < v0 164 2) (hx : 0 ≤ x ∧ x < v0 164 1) (hQ : ∀ v, Off [163, 168, 169, 171] v0 v → (∀ k, k ≠ 18 → v 163 k = v0 163 k) → v 163 18 = -1 → Q (some (0, bts (fun q => decide (q ≠ p ∧ q_com (v0 164) q p x = -1)) (v0 164 2).toNat)) (c, v)) : ∀ (m k : Nat) (v : sF), (k : Int) + m = v0 164 2 → Off [163, 168, 169, 171] v0 v → (∀ k, k ≠ 18 → v 163 k = v0 163 k) → Wp (Ev (d + 7)) 0 (fun _ => 0) 261 Q 34 [(2, 163), (0, p), (0, x), (0, bts (fun q => decide (q ≠ p ∧ q_com (v0 164) q p x = -1)) k), (0, (k : Int))] [] c v := by
  have hP := hS.1.2.1
  intro m
  induction m with
  | zero =>
    intro k v hk ho h3
    have e : v 164 = v0 164 := ho 164 (by decide)
    refine E261_34 _ _ _ _ ?_
    rw [e]
    rw [show (v0 164 2).toNat = k by omega] at hQ
    exact brbI (fun _ => hQ _ (ho.up (by decide)) (fun j hj => by rw [up_ne _ hj]; exact h3 j hj) (up_same _ _ _ _)) (fun q => absurd q (by omega))
  | succ m ih =>
    intro k v hk ho h3
    have e : v 164 = v0 164 := ho 164 (by decide)
    have ihk := ih (k + 1)
    rw [bts_s] at ihk
    have e2 : up v 163 18 (k : Int) 164 = v0 164 := by rw [up_off 164 (by decide)]; exact e
    obtain ⟨v1, hE, hO⟩ := C_comesNow (d := d) (c := c) (v := up v 163 18 (k : Int)) (p := p) (x := x) (by rw [e2]; exact hS) (by rw [e2]; exact hp) (by rw [e2]; exact hx)
    rw [e2, up_same] at hE
    have ho1 : Off [163, 168, 169, 171] v0 v1 := (ho.up (by decide)).tr (hO.wk (by decide))
    have h31 : ∀ j, j ≠ 18 → v1 163 j = v0 163 j := fun j hj => by rw [hO 163 (by decide), up_ne _ hj]; exact h3 j hj
    refine E261_34 _ _ _ _ ?_
    rw [e, ior_b (by omega)]
    refine brbI (fun q => absurd q (by omega)) (fun _ => brbN (fun q => ⟨_, c, v1, hE, brbN (fun q2 => rngI (by omega) ?_) (fun q2 => rngI (by omega) ?_)⟩) (fun q => rngI (by omega) ?_))
    · rw [if_neg (by simp [q2])] at ihk; exact ihk v1 (by omega) ho1 h31
    · rw [if_pos (by simp [q, q2])] at ihk; exact ihk v1 (by omega) ho1 h31
    · rw [if_neg (by simp [q])] at ihk; exact ihk v (by omega) ho h3
theorem M_needed {v : sF} {p x : Int} (hS : St (v 164)) (hi : v 163 18 = -1) : ∃ v', Ev (d + 9) 261 [(2, 163), (0, p), (0, x)] (c, v) (some (0, q_needed (v 164) p x)) (c, v') ∧ QM v v' := by
  have hq := QM.t0 v 0
  have h1 := hS.1.1
  have h2 := hS.1.2.1
  have ea := hq.al
  have ei := hq.idle
  have hw := C_isWayM (d := d + 5) (c := c) (v := up v 163 0 0) (x := p) (y := x) (by rw [ea]; omega) (by rw [ea]; omega)
  rw [ea] at hw
  refine CI_of (loc261 p x) (E261_0 p x ⟨_, c, _, hw, bfi (fun h => ?_) (fun h => ⟨by unfold q_needed; rw [if_neg h], _, rfl, hq⟩)⟩)
  obtain ⟨v1, hE, hO⟩ := C_comesNow (d := d + 1) (c := c) (v := up v 163 0 0) (p := p) (x := x) (by rw [ea]; exact hS.n) (by rw [ea]; exact h.1) (by rw [ea]; exact h.2)
  rw [ea, ei, hi] at hE
  have hqq := hq.tr (oM hO)
  have e1 := hqq.al
  refine ⟨_, c, v1, hE, brbN (fun q => ?_) (fun q => ⟨by unfold q_needed; rw [if_pos h, if_pos q], _, rfl, hqq⟩)⟩
  refine ndM_loop (d := d + 1) v1 (by rw [e1]; exact hS.n) (by rw [e1]; exact h.1) (by rw [e1]; exact h.2) (fun v2 ho h3 h18 => ⟨by unfold q_needed; rw [if_pos h, if_neg q, e1], _, rfl, hqq.tr ⟨ho.wk (by decide), fun k _ => ?_⟩⟩) (v1 164 2).toNat 0 v1 (by rw [e1]; omega) (Off.rf _ _) (fun _ _ => rfl)
  by_cases hk : k = 18
  · rw [hk, h18, hqq.idle, hi]
  · exact h3 k hk
/-- rings -/
def rgP (g : Int → Int) (k : Int) : Bool := decide (1 < bc6 (rgB g k) ∧ iand (rgB g k) (-(rgB g k)) = ishl 1 k)
def cnt (P : Int → Bool) : Nat → Int
  | 0 => 0
  | n + 1 => if P n = true then cnt P n + 1 else cnt P n
theorem cnt_s (P : Int → Bool) (n : Nat) : cnt P (n + 1) = if P n = true then cnt P n + 1 else cnt P n := rfl
theorem cnt_rng (P : Int → Bool) : ∀ n, 0 ≤ cnt P n ∧ cnt P n ≤ n := by
  intro n
  induction n with
  | zero => exact ⟨by show (0 : Int) ≤ 0; decide, by show (0 : Int) ≤ 0; decide⟩
  | succ n ih => rw [cnt_s]; split <;> omega
def q_rings (al : Int → Int) (p : Int) : Int := if 0 ≤ p ∧ p < al 2 then cnt (rgP (nxA al (-1) p)) (al 1).toNat else -2
theorem rgX_loop {v : sF} {g : Int → Int} {N t : Int} {Q : sQ} (h : WN v g N t) (hQ : Q (some (0, cnt (rgP g) N.toNat)) (c, v)) : ∀ (m k : Nat), (k : Int) + m = N → Wp (Ev (d + 4)) 0 (fun _ => 0) 135 Q 27 [(2, 1), (9, 0), (0, cnt (rgP g) k), (0, (k : Int)), (9, 0)] [] c v := by
  have hN := h.2.1.1
  intro m
  induction m with
  | zero =>
    intro k hk
    refine E135_27 _ _ ?_
    rw [h.1.2.1]
    rw [show N.toNat = k by omega] at hQ
    exact brbI (fun _ => hQ) (fun q => absurd q (by omega))
  | succ m ih =>
    intro k hk
    have ihk := ih (k + 1) (by omega)
    rw [cnt_s] at ihk
    have hc := cnt_rng (rgP g) k
    have hx : 0 ≤ (k : Int) ∧ (k : Int) < N := by omega
    have hb := rg_rng h.2.1 hx
    refine E135_27 _ _ ?_
    rw [h.1.2.1]
    refine brbI (fun q => absurd q (by omega)) (fun _ => ⟨_, c, v, C_ringBits h hx, _, c, v, C_bitCount hb.1 hb.2, brbI (fun q => rngI (by omega) ?_) (fun q => rngI (by omega) (brbN (fun q2 => rngI (by omega) ?_) (fun q2 => rngI (by omega) (rngI (by omega) ?_))))⟩)
    · rw [if_neg (by unfold rgP; rw [decide_eq_true_iff]; omega)] at ihk; exact ihk
    · rw [if_neg (by unfold rgP; rw [decide_eq_true_iff]; exact fun z => q2 z.2)] at ihk; exact ihk
    · rw [if_pos (by unfold rgP; rw [decide_eq_true_iff]; exact ⟨by omega, q2⟩)] at ihk; exact ihk
theorem X_rings {v : sF} {al : Int → Int} {p : Int} (hS : St al) (hR : CR v 13 al) : ∃ v', Ev (d + 9) 135 [(2, 1), (0, p)] (c, v) (some (0, q_rings al p)) (c, v') ∧ Off scX v v' := by
  have h1 := hS.1.1
  have hw := C_isPersonX (d := d + 7) (c := c) (v := v) (x := p)
  rw [hR.p.2] at hw
  refine CI_of (loc135 p) (E135_0 p ⟨_, c, v, hw, bfi (fun h => ?_) (fun h => ⟨by unfold q_rings; rw [if_neg h], _, rfl, Off.rf _ v⟩)⟩)
  obtain ⟨v1, hE, hO, hR1, hG, hN, _⟩ := C_aimX (d := d + 2) (c := c) hS hR h
  exact ⟨c, v1, hE, rgX_loop (d := d + 4) hN ⟨by unfold q_rings; rw [if_pos h], _, rfl, oX hO⟩ (al 1).toNat 0 (by omega)⟩
theorem low_k : ∀ (r : Fin 64) (k : Fin 6), (iand ((r.val : Nat) : Int) (-((r.val : Nat) : Int)) = ishl 1 ((k.val : Nat) : Int)) ↔ (tb ((r.val : Nat) : Int) ((k.val : Nat) : Int) = true ∧ ∀ j : Fin 6, j.val < k.val → tb ((r.val : Nat) : Int) ((j.val : Nat) : Int) = false) := by decide +kernel
theorem low_i {r k : Int} (hr : 0 ≤ r ∧ r < 64) (hk : 0 ≤ k ∧ k < 6) : (iand r (-r) = ishl 1 k) ↔ (tb r k = true ∧ ∀ j : Int, 0 ≤ j → j < k → tb r j = false) := by
  have h := low_k ⟨r.toNat, by omega⟩ ⟨k.toNat, by omega⟩
  (try dsimp only at h)
  rw [show ((r.toNat : Nat) : Int) = r by omega, show ((k.toNat : Nat) : Int) = k by omega] at h
  rw [h]
  constructor
  · rintro ⟨h1, h2⟩
    refine ⟨h1, fun j h0 hj => ?_⟩
    have := h2 ⟨j.toNat, by omega⟩ (by show j.toNat < k.toNat; omega)
    (try dsimp only at this)
    rw [show ((j.toNat : Nat) : Int) = j by omega] at this
    exact this
  · rintro ⟨h1, h2⟩
    exact ⟨h1, fun j hj => h2 _ (by omega) (by omega)⟩
theorem rgP_no1 {g : Int → Int} {N k : Int} (h : Gd g N) (hk : 0 ≤ k ∧ k < N) (hf : g k = k) : ¬ rgP g k = true := by
  obtain ⟨mu, la, hr⟩ := rho h hk
  have h1 := hr.1
  have e : mu + la ≤ 1 := Decidable.byContradiction fun q => hr.2.2.2 0 1 (by omega) (by omega) (show k = g k from hf.symm)
  unfold rgP
  rw [decide_eq_true_iff, rg_cnt h hk hr]
  omega
theorem rgP_no2 {g : Int → Int} {N k : Int} {mu la : Nat} (h : Gd g N) (hk : 0 ≤ k ∧ k < N) (hr : Rho g k N mu la) (hm : mu ≠ 0) : ¬ rgP g k = true := by
  have hN := h.1
  unfold rgP
  rw [decide_eq_true_iff]
  rintro ⟨_, q⟩
  obtain ⟨n, q1, q2⟩ := (rg_tb h hk hr (j := k) (by omega)).1 ((low_i (rg_rng h hk) (by omega)).1 q).1
  exact hr.sep (m := 0) (n := n) (by omega) (by omega) q2.symm
theorem rgP_yes {g : Int → Int} {N k : Int} {la : Nat} (h : Gd g N) (hk : 0 ≤ k ∧ k < N) (hr : Rho g k N 0 la) (hf : g k ≠ k) : rgP g k = true ↔ ∀ i, 1 ≤ i → i < la → k < itf g i k := by
  have hN := h.1
  have h1 := hr.1
  have hla : 1 < la := by
    refine Decidable.byContradiction fun q => hf ?_
    have e := hr.2.2.1
    rw [show 0 + la = 1 by omega] at e
    exact e
  unfold rgP
  rw [decide_eq_true_iff, rg_cnt h hk hr, low_i (rg_rng h hk) (by omega)]
  constructor
  · rintro ⟨_, _, q⟩ i i1 i2
    have hy := h.it i hk
    refine Decidable.byContradiction fun q2 => ?_
    have hne : itf g i k ≠ k := fun q3 => hr.2.2.2 0 i (by omega) (by omega) q3.symm
    have := q (itf g i k) hy.1 (by omega)
    rw [(rg_tb h hk hr (j := itf g i k) (by omega)).2 ⟨i, by omega, rfl⟩] at this
    cases this
  · intro q
    refine ⟨by omega, (rg_tb h hk hr (j := k) (by omega)).2 ⟨0, by omega, rfl⟩, fun j j0 j1 => ?_⟩
    cases hb : tb (rgB g k) j with
    | false => rfl
    | true =>
      obtain ⟨n, q1, q2⟩ := (rg_tb h hk hr (j := j) (by omega)).1 hb
      obtain ⟨i, q3, q4⟩ := hr.lo n
      rw [q2] at q4
      by_cases hi : i = 0
      · rw [hi] at q4
        have q4 : j = k := q4
        omega
      · have := q i (by omega) (by omega)
        omega
theorem fst_loop {v : sF} {g : Int → Int} {N k n : Int} {la : Nat} {Q : sQ} (h : MN v g N) (hk : 0 ≤ k ∧ k < N) (hr : Rho g k N 0 la) (hn : 0 ≤ n ∧ n ≤ 10) (hQ : ∀ n', ((∀ i, 1 ≤ i → i < la → k < itf g i k) → n' = n + 1) → (¬ (∀ i, 1 ≤ i → i < la → k < itf g i k) → n' = n) → Wp (Ev d) 0 (fun _ => 0) 259 Q 26 [(2, 163), (9, 0), (0, n'), (0, k + 1), (9, 0), (9, 0)] [] c v) : ∀ (m i : Nat) (f : Int), i + m = la → 1 ≤ i → (f = 0 ∨ f = 1) → (f = 1 ↔ ∀ j, 1 ≤ j → j < i → k < itf g j k) → Wp (Ev d) 0 (fun _ => 0) 259 Q 68 [(2, 163), (9, 0), (0, n), (0, k), (0, f), (0, itf g i k)] [] c v := by
  have hN := h.1.1
  have e := hr.2.2.1
  rw [Nat.zero_add] at e
  have e : itf g la k = k := e
  intro m
  induction m with
  | zero =>
    intro i f hi h1 hf hff
    have hi : i = la := hi
    subst hi
    refine E259_68 _ _ _ _ (brbI (fun _ => brbI (fun q => rngI (by omega) (rngI (by omega) ?_)) (fun q => rngI (by omega) (rngI (by omega) ?_))) (fun q => absurd e q))
    · rw [Int.add_zero]; exact hQ n (fun z => absurd (hff.2 z) (by omega)) (fun _ => rfl)
    · exact hQ (n + 1) (fun _ => rfl) (fun z => absurd (hff.1 (by omega)) z)
  | succ m ih =>
    intro i f hi h1 hf hff
    have hy := h.1.it i hk
    have ihk := fun f => ih (i + 1) f (by omega) (by omega)
    rw [itf_succ] at ihk
    refine E259_68 _ _ _ _ (brbI (fun q => absurd q.symm (hr.2.2.2 0 i (by omega) (by omega))) (fun q => brbI (fun q2 => chkI (inbI (by omega) (by omega)) ?_) (fun q2 => chkI (inbI (by omega) (by omega)) ?_)))
    · rw [h.2 _ hy.1 hy.2]
      have e0 : iand f 0 = 0 := by rcases hf with rfl | rfl <;> decide
      rw [e0]
      exact ihk 0 (Or.inl rfl) ⟨fun z => absurd z (by decide), fun z => absurd (z i h1 (by omega)) (by omega)⟩
    · rw [h.2 _ hy.1 hy.2]
      have e1 : iand f 1 = f := by rcases hf with rfl | rfl <;> decide
      rw [e1]
      refine ihk f hf ⟨fun z j j1 j2 => ?_, fun z => hff.2 (fun j j1 j2 => z j j1 (by omega))⟩
      by_cases hj : j = i
      · rw [hj]; omega
      · exact hff.1 z j j1 (by omega)
theorem rgM_loop {v : sF} {g : Int → Int} {N : Int} {Q : sQ} (h : MN v g N) (e : v 164 1 = N) (hQ : Q (some (0, cnt (rgP g) N.toNat)) (c, v)) : ∀ (m k : Nat), (k : Int) + m = N → Wp (Ev (d + 1)) 0 (fun _ => 0) 259 Q 26 [(2, 163), (9, 0), (0, cnt (rgP g) k), (0, (k : Int)), (9, 0), (9, 0)] [] c v := by
  have hN := h.1.1
  intro m
  induction m with
  | zero =>
    intro k hk
    refine E259_26 _ _ ?_
    rw [e]
    rw [show N.toNat = k by omega] at hQ
    exact brbI (fun _ => hQ) (fun q => absurd q (by omega))
  | succ m ih =>
    intro k hk
    have ihk := ih (k + 1) (by omega)
    rw [cnt_s] at ihk
    have hc := cnt_rng (rgP g) k
    have hx : 0 ≤ (k : Int) ∧ (k : Int) < N := by omega
    obtain ⟨mu, la, hr⟩ := rho h.1 hx
    refine E259_26 _ _ ?_
    rw [e, h.2 _ hx.1 hx.2]
    refine brbI (fun q => absurd q (by omega)) (fun _ => chkI (inbI (by omega) (by omega)) (brbI (fun q => rngI (by omega) ?_) (fun q => ⟨_, c, v, C_isRound h hx hr, bfi (fun q2 => chkI (inbI (by omega) (by omega)) ?_) (fun q2 => rngI (by omega) ?_)⟩)))
    · rw [if_neg (rgP_no1 h.1 hx q)] at ihk; exact ihk
    · subst q2
      rw [h.2 _ hx.1 hx.2]
      have h1 := hr.1
      refine fst_loop h hx hr (by omega) (fun n' hn1 hn2 => ?_) (la - 1) 1 1 (by omega) (by omega) (Or.inr rfl) ⟨fun _ j j1 j2 => absurd j1 (by omega), fun _ => rfl⟩
      by_cases hz : rgP g k = true
      · rw [if_pos hz] at ihk
        rw [hn1 ((rgP_yes h.1 hx hr q).1 hz)]
        exact ihk
      · rw [if_neg hz] at ihk
        rw [hn2 (fun z => hz ((rgP_yes h.1 hx hr q).2 z))]
        exact ihk
    · rw [if_neg (rgP_no2 h.1 hx hr q2)] at ihk; exact ihk
theorem M_rings {v : sF} {p : Int} (hS : St (v 164)) (hi : v 163 18 = -1) : ∃ v', Ev (d + 9) 259 [(2, 163), (0, p)] (c, v) (some (0, q_rings (v 164) p)) (c, v') ∧ QM v v' := by
  have hq := QM.t0 v 0
  have h1 := hS.1.1
  have h2 := hS.1.2.1
  have ea := hq.al
  have hw := C_isPersonM (d := d + 6) (c := c) (v := up v 163 0 0) (x := p) (by rw [ea]; omega)
  rw [ea] at hw
  refine CI_of (loc259 p) (E259_0 p ⟨_, c, _, hw, bfi (fun h => ?_) (fun h => ⟨by unfold q_rings; rw [if_neg h], _, rfl, hq⟩)⟩)
  obtain ⟨v1, hE, hO, hN⟩ := C_laysM (d := d + 2) (c := c) (v := up v 163 0 0) (p := p) (by rw [ea]; exact hS.n) (by rw [ea]; exact h)
  rw [ea, hq.idle, hi] at hN
  have e1 : v1 164 = v 164 := (hO 164 (by decide)).trans ea
  exact ⟨c, v1, hE, rgM_loop (d := d + 7) hN (by rw [e1]) ⟨by unfold q_rings; rw [if_pos h], _, rfl, hq.tr (oM hO)⟩ (v 164 1).toNat 0 (by omega)⟩
end Qry3
