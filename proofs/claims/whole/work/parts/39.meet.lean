section Meet
variable {d c : Nat}
def mtd (g h : Int → Int) : Nat → Int → Int → Int → Int
  | 0, _, _, _ => -1
  | m + 1, k, a, b => if a = b then k else mtd g h m (k + 1) (g a) (h b)
def q_meet (al : Int → Int) (p x q y : Int) : Int := if ((0 ≤ p ∧ p < al 2) ∧ (0 ≤ x ∧ x < al 1)) ∧ ((0 ≤ q ∧ q < al 2) ∧ (0 ≤ y ∧ y < al 1)) then mtd (nxA al (-1) p) (nxA al (-1) q) 100 0 x y else -2
theorem mtX1_loop {v0 : sF} {g : Int → Int} {N t x q y : Int} {Q : sQ} (h : WN v0 g N t) (hQ : ∀ v, Off [154] v0 v → (∀ j : Int, 0 ≤ j → j < N → v 154 j = g j) → ∃ c1 v2, Ev (d + 2) 87 [(2, 140), (2, 13), (0, q)] (c, v) none (c1, v2) ∧ Wp (Ev (d + 2)) 0 (fun _ => 0) 149 Q 97 [(2, 1), (9, 0), (9, 0), (9, 0), (9, 0), (2, 154), (0, x), (0, y), (0, 0)] [] c1 v2) : ∀ (m : Nat) (k : Int) (v : sF), 0 ≤ k → k + m = N → Off [154] v0 v → (∀ j : Int, 0 ≤ j → j < k → v 154 j = g j) → Wp (Ev (d + 2)) 0 (fun _ => 0) 149 Q 43 [(2, 1), (9, 0), (0, x), (0, q), (0, y), (2, 154), (0, k), (9, 0), (9, 0)] [] c v := by
  have hN := h.2.1.1
  have ht : tyT 154 = 1 ∧ lnT 154 = 6 := by decide +kernel
  intro m
  induction m with
  | zero =>
    intro k v k0 hk ho hj
    refine E149_43 _ _ _ _ _ ?_
    rw [ho 3 (by decide), h.1.2.1]
    exact brbI (fun _ => hQ v ho (fun j j0 j1 => hj j j0 (by omega))) (fun z => absurd z (by omega))
  | succ m ih =>
    intro k v k0 hk ho hj
    have hw : WN v g N t := by
      unfold WN nxW sdW at *
      rw [ho 3 (by decide), ho 140 (by decide), ho 141 (by decide), ho 142 (by decide), ho 143 (by decide)]
      exact h
    refine E149_43 _ _ _ _ _ ?_
    rw [ho 3 (by decide), h.1.2.1, ht.2]
    refine brbI (fun z => absurd z (by omega)) (fun _ => ⟨_, c, v, C_nx hw ⟨k0, by omega⟩, cktI (beqI ht.1) (chkI (inbI (by omega) (by omega)) (rngI (by omega) (ih (k + 1) _ (by omega) (by omega) (ho.up (by decide)) (fun j j0 j1 => ?_))))⟩)
    by_cases e : j = k
    · rw [e, up_same]
    · rw [up_ne _ e]; exact hj j j0 (by omega)
theorem mtX2_loop {v : sF} {g h : Int → Int} {N t X : Int} {Q : sQ} (hw : WN v h N t) (hg : Gd g N) (hj : ∀ j : Int, 0 ≤ j → j < N → v 154 j = g j) (hQ : Q (some (0, X)) (c, v)) : ∀ (m : Nat) (k a b : Int), 0 ≤ k → k + m = 100 → 0 ≤ a ∧ a < N → 0 ≤ b ∧ b < N → mtd g h m k a b = X → Wp (Ev (d + 2)) 0 (fun _ => 0) 149 Q 97 [(2, 1), (9, 0), (9, 0), (9, 0), (9, 0), (2, 154), (0, a), (0, b), (0, k)] [] c v := by
  have ht : tyT 154 = 1 ∧ lnT 154 = 6 := by decide +kernel
  have hN := hg.1
  intro m
  induction m with
  | zero =>
    intro k a b k0 hk ha hb he
    have he : -1 = X := he
    subst he
    exact E149_97 _ _ _ _ (brbI (fun _ => hQ) (fun z => absurd z (by omega)))
  | succ m ih =>
    intro k a b k0 hk ha hb he
    unfold mtd at he
    refine E149_97 _ _ _ _ (brbI (fun z => absurd z (by omega)) (fun _ => brbN (fun z => ?_) (fun z => ?_)))
    · rw [if_neg z] at he
      rw [ht.2, hj a ha.1 ha.2]
      exact cktI (beqI ht.1) (chkI (inbI (by omega) (by omega)) ⟨_, c, v, C_nx hw hb, rngI (by omega) (ih (k + 1) _ _ (by omega) (by omega) (hg.2 a ha.1 ha.2) (hw.2.1.2 b hb.1 hb.2) he)⟩)
    · rw [if_pos z] at he
      subst he
      exact hQ
theorem X_meet {v : sF} {al : Int → Int} {p x q y : Int} (hS : St al) (hR : CR v 13 al) : ∃ v', Ev (d + 9) 149 [(2, 1), (0, p), (0, x), (0, q), (0, y)] (c, v) (some (0, q_meet al p x q y)) (c, v') ∧ Off scX v v' := by
  have h1 := hS.1.1
  have hw := fun a b => C_isWayX (d := d + 6) (c := c) (v := v) (x := a) (y := b)
  rw [hR.p.1, hR.p.2] at hw
  refine CI_of (loc149 p x q y) (E149_0 p x q y ⟨_, c, v, hw p x, bfz (fun h => ⟨by unfold q_meet; rw [if_neg (fun z => h z.1)], _, rfl, Off.rf _ v⟩) (fun h => ⟨_, c, v, hw q y, bfi (fun h2 => ?_) (fun h2 => ⟨by unfold q_meet; rw [if_neg (fun z => h2 z.2)], _, rfl, Off.rf _ v⟩)⟩)⟩)
  obtain ⟨v1, hE, hO, hR1, hG, hN, _⟩ := C_aimX (d := d + 2) (c := c) hS hR h.1
  refine ⟨c, v1, hE, mtX1_loop (d := d + 6) hN (fun v2 ho hj => ?_) (al 1).toNat 0 v1 (by omega) (by omega) (Off.rf _ _) (fun j j0 j1 => absurd j0 (by omega))⟩
  have hR2 : CR v2 13 al := hR1.off ho ⟨by decide, fun k k0 k1 => by simp only [List.mem_cons, List.not_mem_nil, or_false]; omega⟩
  obtain ⟨v3, hE3, hO3, hR3, hG3, hN3, _⟩ := C_aimX (d := d + 2) (c := c) hS hR2 h2.1
  refine ⟨c, v3, hE3, mtX2_loop (d := d + 6) hN3 hN.2.1 (fun j j0 j1 => by rw [hO3 154 (by decide)]; exact hj j j0 j1) ⟨?_, _, rfl, (oX hO).tr ((ho.wk (by decide)).tr (oX hO3))⟩ 100 0 x y (by omega) (by omega) h.2 h2.2 rfl⟩
  unfold q_meet; rw [if_pos ⟨h, h2⟩]
theorem mtM1_loop {p x y : Int} {Q : sQ} (v0 : sF) (hQ : ∀ v, Off [174] v0 v → (∀ j : Int, 0 ≤ j → j < 6 → v 174 j = v0 171 j) → ∃ c1 v2, Ev d 244 [(2, 163), (0, p)] (c, v) none (c1, v2) ∧ Wp (Ev d) 0 (fun _ => 0) 280 Q 77 [(2, 163), (9, 0), (9, 0), (9, 0), (9, 0), (0, x), (0, y), (0, 0)] [] c1 v2) : ∀ (m : Nat) (k : Int) (v : sF), 0 ≤ k → k + m = 6 → Off [174] v0 v → (∀ j : Int, 0 ≤ j → j < k → v 174 j = v0 171 j) → Wp (Ev d) 0 (fun _ => 0) 280 Q 35 [(2, 163), (0, p), (0, x), (9, 0), (0, y), (0, k), (9, 0), (9, 0)] [] c v := by
  intro m
  induction m with
  | zero =>
    intro k v k0 hk ho hj
    exact E280_35 _ _ _ _ (brbI (fun _ => hQ v ho (fun j j0 j1 => hj j j0 (by omega))) (fun z => absurd z (by omega)))
  | succ m ih =>
    intro k v k0 hk ho hj
    refine E280_35 _ _ _ _ (brbI (fun z => absurd z (by omega)) (fun _ => chkI (inbI (by omega) (by omega)) (chkI (inbI (by omega) (by omega)) (rngI (by omega) (ih (k + 1) _ (by omega) (by omega) (ho.up (by decide)) (fun j j0 j1 => ?_))))))
    by_cases e : j = k
    · rw [e, up_same, ho 171 (by decide)]
    · rw [up_ne _ e]; exact hj j j0 (by omega)
theorem mtM2_loop {v : sF} {g h : Int → Int} {N X : Int} {Q : sQ} (hw : MN v g N) (hh : Gd h N) (hj : ∀ j : Int, 0 ≤ j → j < N → v 174 j = h j) (hQ : Q (some (0, X)) (c, v)) : ∀ (m : Nat) (k a b : Int), 0 ≤ k → k + m = 100 → 0 ≤ a ∧ a < N → 0 ≤ b ∧ b < N → mtd g h m k a b = X → Wp (Ev d) 0 (fun _ => 0) 280 Q 77 [(2, 163), (9, 0), (9, 0), (9, 0), (9, 0), (0, a), (0, b), (0, k)] [] c v := by
  have hN := hh.1
  intro m
  induction m with
  | zero =>
    intro k a b k0 hk ha hb he
    have he : -1 = X := he
    subst he
    exact E280_77 _ _ _ (brbI (fun _ => hQ) (fun z => absurd z (by omega)))
  | succ m ih =>
    intro k a b k0 hk ha hb he
    unfold mtd at he
    refine E280_77 _ _ _ (brbI (fun z => absurd z (by omega)) (fun _ => brbN (fun z => ?_) (fun z => ?_)))
    · rw [if_neg z] at he
      rw [hw.2 a ha.1 ha.2, hj b hb.1 hb.2]
      exact chkI (inbI (by omega) (by omega)) (chkI (inbI (by omega) (by omega)) (rngI (by omega) (ih (k + 1) _ _ (by omega) (by omega) (hw.1.2 a ha.1 ha.2) (hh.2 b hb.1 hb.2) he)))
    · rw [if_pos z] at he
      subst he
      exact hQ
theorem M_meet {v : sF} {p x q y : Int} (hS : St (v 164)) (hi : v 163 18 = -1) : ∃ v', Ev (d + 9) 280 [(2, 163), (0, p), (0, x), (0, q), (0, y)] (c, v) (some (0, q_meet (v 164) p x q y)) (c, v') ∧ QM v v' := by
  have hq := QM.t0 v 0
  have h1 := hS.1.1
  have h2 := hS.1.2.1
  have ea := hq.al
  have ei := hq.idle
  have hw := fun a b => C_isWayM (d := d + 5) (c := c) (v := up v 163 0 0) (x := a) (y := b) (by rw [ea]; omega) (by rw [ea]; omega)
  rw [ea] at hw
  refine CI_of (loc280 p x q y) (E280_0 p x q y ⟨_, c, _, hw p x, bfz (fun h => ⟨by unfold q_meet; rw [if_neg (fun z => h z.1)], _, rfl, hq⟩) (fun h => ⟨_, c, _, hw q y, bfi (fun h3 => ?_) (fun h3 => ⟨by unfold q_meet; rw [if_neg (fun z => h3 z.2)], _, rfl, hq⟩)⟩)⟩)
  obtain ⟨v1, hE, hO, hN⟩ := C_laysM (d := d + 2) (c := c) (v := up v 163 0 0) (p := q) (by rw [ea]; exact hS.n) (by rw [ea]; exact h3.1)
  rw [ea, ei, hi] at hN
  have hq1 := hq.tr (oM hO)
  refine ⟨c, v1, hE, mtM1_loop (d := d + 8) v1 (fun v2 ho hj => ?_) 6 0 v1 (by omega) (by omega) (Off.rf _ _) (fun j j0 j1 => absurd j0 (by omega))⟩
  have hq2 := hq1.tr (QM.of ho (by decide))
  obtain ⟨v3, hE3, hO3, hN3⟩ := C_laysM (d := d + 2) (c := c) (v := v2) (p := p) (by rw [hq2.al]; exact hS.n) (by rw [hq2.al]; exact h.1)
  rw [hq2.al, hq2.idle, hi] at hN3
  refine ⟨c, v3, hE3, mtM2_loop (d := d + 8) hN3 hN.1 (fun j j0 j1 => ?_) ⟨?_, _, rfl, hq2.tr (oM hO3)⟩ 100 0 x y (by omega) (by omega) h.2 h3.2 rfl⟩
  · rw [hO3 174 (by decide), hj j j0 (by omega)]; exact hN.2 j j0 j1
  · unfold q_meet; rw [if_pos ⟨h, h3⟩]
/-- hub -/
def hbt (al : Int → Int) : Nat → Int → Int
  | 0, _ => 0
  | n + 1, k => hbt al n k + if tb (q_src al (-1) n) k = true then 1 else 0
theorem hbt_s (al : Int → Int) (n : Nat) (k : Int) : hbt al (n + 1) k = hbt al n k + if tb (q_src al (-1) n) k = true then 1 else 0 := rfl
theorem hbt_rng (al : Int → Int) (k : Int) : ∀ n, 0 ≤ hbt al n k ∧ hbt al n k ≤ n := by
  intro n
  induction n with
  | zero => exact ⟨by show (0 : Int) ≤ 0; decide, by show (0 : Int) ≤ 0; decide⟩
  | succ n ih => rw [hbt_s]; split <;> omega
def q_hub (al : Int → Int) : Int := bix (hbt al (al 2).toNat) (al 1).toNat
theorem hbX3_loop {v : sF} {al : Int → Int} {Q : sQ} (h1 : 2 ≤ al 1 ∧ al 1 ≤ 6) (e : v 3 0 = al 1) (hj : ∀ k : Int, 0 ≤ k → k < al 1 → v 154 k = hbt al (al 2).toNat k) (hQ : Q (some (0, q_hub al)) (c, v)) : ∀ (m k : Nat), (k : Int) + m = al 1 → 1 ≤ k → Wp (Ev d) 0 (fun _ => 0) 150 Q 80 [(2, 1), (0, bix (hbt al (al 2).toNat) k), (0, (k : Int)), (9, 0)] [] c v := by
  intro m
  induction m with
  | zero =>
    intro k hk k1
    refine E150_80 _ _ ?_
    rw [e]
    unfold q_hub at hQ
    rw [show (al 1).toNat = k by omega] at hQ
    exact brbI (fun _ => hQ) (fun q => absurd q (by omega))
  | succ m ih =>
    intro k hk k1
    have ihk := ih (k + 1) (by omega) (by omega)
    have hr := bix_rng (hbt al (al 2).toNat) k
    rw [bix_s] at ihk
    refine E150_80 _ _ ?_
    rw [e, hj k (by omega) (by omega), hj (bix (hbt al (al 2).toNat) k) hr.1 (by omega)]
    refine brbI (fun q => absurd q (by omega)) (fun _ => chkI (inbI (by omega) (by omega)) (chkI (inbI (by omega) (by omega)) (brbI (fun q => rngI (by omega) ?_) (fun q => rngI (by omega) ?_))))
    · rw [if_neg (by omega)] at ihk; exact ihk
    · rw [if_pos (by omega)] at ihk; exact ihk
theorem hbX2_loop {al : Int → Int} {p : Nat} {Q : sQ} (v0 : sF) (hT : okT al) (hp : p < 6) (hN : v0 3 0 = al 1) (hj0 : ∀ j : Int, 0 ≤ j → j < al 1 → v0 154 j = hbt al p j) (hQ : ∀ v, Off [154] v0 v → (∀ j : Int, 0 ≤ j → j < al 1 → v 154 j = hbt al (p + 1) j) → Wp (Ev d) 0 (fun _ => 0) 150 Q 6 [(2, 1), (0, (p : Int) + 1), (9, 0), (9, 0)] [] c v) : ∀ (m : Nat) (k : Int) (v : sF), 0 ≤ k → k + m = al 1 → Off [154] v0 v → (∀ j : Int, 0 ≤ j → j < k → v 154 j = hbt al (p + 1) j) → (∀ j : Int, k ≤ j → j < al 1 → v 154 j = hbt al p j) → Wp (Ev d) 0 (fun _ => 0) 150 Q 39 [(2, 1), (0, (p : Int)), (0, q_src al (-1) p), (0, k)] [] c v := by
  have h1 := hT.1
  intro m
  induction m with
  | zero =>
    intro k v k0 hk ho hj hj2
    refine E150_39 _ _ _ ?_
    rw [ho 3 (by decide), hN]
    exact brbI (fun _ => rngI (by omega) (hQ v ho (fun j j0 j1 => hj j j0 (by omega)))) (fun q => absurd q (by omega))
  | succ m ih =>
    intro k v k0 hk ho hj hj2
    have hb := isIn_i (src_rng hT (-1) p) (k := k) (by omega)
    have hr := hbt_rng al k p
    have hr2 := hbt_rng al k (p + 1)
    rw [hbt_s] at hr2
    refine E150_39 _ _ _ ?_
    rw [ho 3 (by decide), hN, hj2 k (by omega) (by omega), hb.2.1]
    refine brbI (fun q => absurd q (by omega)) (fun _ => chkI (inbI (by omega) (by omega)) (rngI (by omega) (chkI (inbI (by omega) (by omega)) (rngI (by omega) (ih (k + 1) _ (by omega) (by omega) (ho.up (by decide)) (fun j j0 j1 => ?_) (fun j j0 j1 => ?_))))))
    · by_cases e : j = k
      · rw [e, up_same, hbt_s]
      · rw [up_ne _ e]; exact hj j j0 (by omega)
    · rw [up_ne _ (by omega)]; exact hj2 j (by omega) j1
theorem hbX1_loop {al : Int → Int} {Q : sQ} (v0 : sF) (hS : St al) (hR : CR v0 13 al) (hQ : ∀ v, Off scX v0 v → (∀ j : Int, 0 ≤ j → j < al 1 → v 154 j = hbt al (al 2).toNat j) → Wp (Ev (d + 6)) 0 (fun _ => 0) 150 Q 80 [(2, 1), (0, 0), (0, 1), (9, 0)] [] c v) : ∀ (m p : Nat) (v : sF), (p : Int) + m = al 2 → Off scX v0 v → (∀ j : Int, 0 ≤ j → j < al 1 → v 154 j = hbt al p j) → Wp (Ev (d + 6)) 0 (fun _ => 0) 150 Q 6 [(2, 1), (0, (p : Int)), (9, 0), (9, 0)] [] c v := by
  have h1 := hS.1.1
  have h2 := hS.1.2.1
  intro m
  induction m with
  | zero =>
    intro p v hp ho hj
    refine E150_6 _ ?_
    rw [ho 3 (by decide), hR.p.2]
    refine brbI (fun _ => hQ v ho (fun j j0 j1 => ?_)) (fun q => absurd q (by omega))
    rw [show (al 2).toNat = p by omega]; exact hj j j0 j1
  | succ m ih =>
    intro p v hp ho hj
    have hRv : CR v 13 al := hR.off ho ⟨by decide, fun k k0 k1 => by unfold scX; simp only [List.mem_cons, List.not_mem_nil, or_false]; omega⟩
    obtain ⟨v1, hE, hO, hR1, hG, hN, _⟩ := C_aimX (d := d) (c := c) (p := (p : Int)) hS hRv (by omega)
    have hE2 := C_sourceBits (d := d + 2) (c := c) hN
    have hE2 : Ev (d + 6) 101 [(2, 140)] (c, v1) (some (0, q_src al (-1) p)) (c, v1) := hE2
    refine E150_6 _ ?_
    rw [ho 3 (by decide), hR.p.2]
    refine brbI (fun q => absurd q (by omega)) (fun _ => ⟨c, v1, hE, _, c, v1, hE2, ?_⟩)
    refine hbX2_loop (p := p) v1 hS.1 (by omega) hR1.p.1 (fun j j0 j1 => by rw [hO 154 (by decide)]; exact hj j j0 j1) (fun v2 ho2 hj2 => ih (p + 1) v2 (by omega) (ho.tr ((oX hO).tr (ho2.wk (by decide)))) hj2) (al 1).toNat 0 v1 (by omega) (by omega) (Off.rf _ _) (fun j j0 j1 => absurd j0 (by omega)) (fun j j0 j1 => by rw [hO 154 (by decide)]; exact hj j j0 j1)
theorem X_hub {v : sF} {al : Int → Int} (hS : St al) (hR : CR v 13 al) : ∃ v', Ev (d + 9) 150 [(2, 1)] (c, v) (some (0, q_hub al)) (c, v') ∧ Off scX v v' := by
  have h1 := hS.1.1
  have h2 := hS.1.2.1
  obtain ⟨v1, hE, hO, hj⟩ := C_clearTally (d := d + 7) (c := c) (v := v)
  have hR1 : CR v1 13 al := hR.off hO ⟨by decide, fun k k0 k1 => by simp only [List.mem_cons, List.not_mem_nil, or_false]; omega⟩
  refine CI_of loc150 (E150_0 ⟨c, v1, hE, ?_⟩)
  refine hbX1_loop (d := d + 2) v1 hS hR1 (fun v2 ho hj2 => ?_) (al 2).toNat 0 v1 (by omega) (Off.rf _ _) (fun j j0 j1 => hj j j0 (by omega))
  have := hbX3_loop (d := d + 8) (c := c) (v := v2) (al := al) (Q := fun r μ => r = some (0, q_hub al) ∧ ∃ v', μ = (c, v') ∧ Off scX v v') h1 (by rw [ho 3 (by decide)]; exact hR1.p.1) hj2 ⟨rfl, _, rfl, (hO.wk (by decide)).tr ho⟩ ((al 1).toNat - 1) 1 (by omega) (by omega)
  rw [show bix (hbt al (al 2).toNat) 1 = 0 by rw [bix_s, if_neg (by exact Int.lt_irrefl _)]; rfl] at this
  exact this
theorem hbM3_loop {v : sF} {al : Int → Int} {Q : sQ} (h1 : 2 ≤ al 1 ∧ al 1 ≤ 6) (e : v 164 = al) (hj : ∀ k : Int, 0 ≤ k → k < al 1 → v 172 k = hbt al (al 2).toNat k) (hQ : Q (some (0, q_hub al)) (c, v)) : ∀ (m k : Nat), (k : Int) + m = al 1 → 1 ≤ k → Wp (Ev d) 0 (fun _ => 0) 281 Q 95 [(2, 163), (0, bix (hbt al (al 2).toNat) k), (0, (k : Int)), (9, 0)] [] c v := by
  intro m
  induction m with
  | zero =>
    intro k hk k1
    refine E281_95 _ _ ?_
    rw [e]
    unfold q_hub at hQ
    rw [show (al 1).toNat = k by omega] at hQ
    exact brbI (fun _ => hQ) (fun q => absurd q (by omega))
  | succ m ih =>
    intro k hk k1
    have ihk := ih (k + 1) (by omega) (by omega)
    have hr := bix_rng (hbt al (al 2).toNat) k
    rw [bix_s] at ihk
    refine E281_95 _ _ ?_
    rw [e, hj k (by omega) (by omega), hj (bix (hbt al (al 2).toNat) k) hr.1 (by omega)]
    refine brbI (fun q => absurd q (by omega)) (fun _ => chkI (inbI (by omega) (by omega)) (chkI (inbI (by omega) (by omega)) (brbI (fun q => rngI (by omega) ?_) (fun q => rngI (by omega) ?_))))
    · rw [if_neg (by omega)] at ihk; exact ihk
    · rw [if_pos (by omega)] at ihk; exact ihk
theorem hbM2_loop {p : Nat} {al : Int → Int} {Q : sQ} (v0 : sF) (hT : okT al) (e : v0 164 = al) (hp : p < 6) (hQ : ∀ v, Off [172] v0 v → (∀ j : Int, 0 ≤ j → j < al 1 → v 172 j = hbt al (p + 1) j) → Wp (Ev (d + 1)) 0 (fun _ => 0) 281 Q 28 [(2, 163), (0, (p : Int) + 1), (9, 0), (9, 0)] [] c v) : ∀ (m : Nat) (k : Int) (v : sF), 0 ≤ k → k + m = al 1 → Off [172] v0 v → (∀ j : Int, 0 ≤ j → j < k → v 172 j = hbt al (p + 1) j) → (∀ j : Int, k ≤ j → j < al 1 → v 172 j = hbt al p j) → Wp (Ev (d + 1)) 0 (fun _ => 0) 281 Q 46 [(2, 163), (0, (p : Int)), (0, q_src al (-1) p), (0, k)] [] c v := by
  have h1 := hT.1
  intro m
  induction m with
  | zero =>
    intro k v k0 hk ho hj hj2
    refine E281_46 _ _ _ ?_
    rw [ho 164 (by decide), e]
    exact brbI (fun _ => rngI (by omega) (hQ v ho (fun j j0 j1 => hj j j0 (by omega)))) (fun q => absurd q (by omega))
  | succ m ih =>
    intro k v k0 hk ho hj hj2
    have hr := hbt_rng al k p
    refine E281_46 _ _ _ ?_
    rw [ho 164 (by decide), e, hj2 k (by omega) (by omega)]
    have hgo : ∀ x, x = hbt al (p + 1) k → Wp (Ev (d + 1)) 0 (fun _ => 0) 281 Q 46 [(2, 163), (0, (p : Int)), (0, q_src al (-1) p), (0, k + 1)] [] c (up v 172 k x) := fun x hx => by
      refine ih (k + 1) _ (by omega) (by omega) (ho.up (by decide)) (fun j j0 j1 => ?_) (fun j j0 j1 => ?_)
      · by_cases e : j = k
        · rw [e, up_same]; exact hx
        · rw [up_ne _ e]; exact hj j j0 (by omega)
      · rw [up_ne _ (by omega)]; exact hj2 j (by omega) j1
    rw [hbt_s] at hgo
    refine brbI (fun q => absurd q (by omega)) (fun _ => chkI (inbI (by omega) (by omega)) ⟨_, c, v, C_isIn (src_rng hT (-1) p) ⟨k0, by omega⟩, bfz (fun q => rngI (by omega) (chkI (inbI (by omega) (by omega)) (rngI (by omega) (hgo _ ?_)))) (fun q => rngI (by omega) (chkI (inbI (by omega) (by omega)) (rngI (by omega) (hgo _ ?_))))⟩)
    · rw [if_neg q]
    · rw [if_pos q]
theorem hbM1_loop {Q : sQ} (v0 : sF) (hS : St (v0 164)) (hi : v0 163 18 = -1) (hQ : ∀ v, Off [168, 169, 171, 172] v0 v → (∀ j : Int, 0 ≤ j → j < v0 164 1 → v 172 j = hbt (v0 164) (v0 164 2).toNat j) → Wp (Ev (d + 7)) 0 (fun _ => 0) 281 Q 95 [(2, 163), (0, 0), (0, 1), (9, 0)] [] c v) : ∀ (m p : Nat) (v : sF), (p : Int) + m = v0 164 2 → Off [168, 169, 171, 172] v0 v → (∀ j : Int, 0 ≤ j → j < v0 164 1 → v 172 j = hbt (v0 164) p j) → Wp (Ev (d + 7)) 0 (fun _ => 0) 281 Q 28 [(2, 163), (0, (p : Int)), (9, 0), (9, 0)] [] c v := by
  have h1 := hS.1.1
  have h2 := hS.1.2.1
  intro m
  induction m with
  | zero =>
    intro p v hp ho hj
    refine E281_28 _ ?_
    rw [ho 164 (by decide)]
    refine brbI (fun _ => hQ v ho (fun j j0 j1 => ?_)) (fun q => absurd q (by omega))
    rw [show (v0 164 2).toNat = p by omega]; exact hj j j0 j1
  | succ m ih =>
    intro p v hp ho hj
    have ea := ho 164 (by decide)
    obtain ⟨v1, hE, hO⟩ := C_sourcesOf (d := d) (c := c) (v := v) (p := (p : Int)) (by rw [ea]; exact hS.n) (by rw [ea]; omega)
    rw [ea, ho 163 (by decide), hi] at hE
    refine E281_28 _ ?_
    rw [ea]
    refine brbI (fun q => absurd q (by omega)) (fun _ => ⟨_, c, v1, hE, ?_⟩)
    refine hbM2_loop (d := d + 6) (p := p) v1 hS.1 ((hO 164 (by decide)).trans ea) (by omega) (fun v2 ho2 hj2 => ih (p + 1) v2 (by omega) (ho.tr ((hO.wk (by decide)).tr (ho2.wk (by decide)))) hj2) (v0 164 1).toNat 0 v1 (by omega) (by omega) (Off.rf _ _) (fun j j0 j1 => absurd j0 (by omega)) (fun j j0 j1 => by rw [hO 172 (by decide)]; exact hj j j0 j1)
theorem hbM0_loop {Q : sQ} (v0 : sF) (hQ : ∀ v, Off [172] v0 v → (∀ j : Int, 0 ≤ j → j < 6 → v 172 j = 0) → Wp (Ev d) 0 (fun _ => 0) 281 Q 28 [(2, 163), (0, 0), (9, 0), (9, 0)] [] c v) : ∀ (m : Nat) (k : Int) (v : sF), 0 ≤ k → k + m = 6 → Off [172] v0 v → (∀ j : Int, 0 ≤ j → j < k → v 172 j = 0) → Wp (Ev d) 0 (fun _ => 0) 281 Q 7 [(2, 163), (0, k), (9, 0), (9, 0)] [] c v := by
  intro m
  induction m with
  | zero =>
    intro k v k0 hk ho hj
    exact E281_7 _ (brbI (fun _ => hQ v ho (fun j j0 j1 => hj j j0 (by omega))) (fun q => absurd q (by omega)))
  | succ m ih =>
    intro k v k0 hk ho hj
    refine E281_7 _ (brbI (fun q => absurd q (by omega)) (fun _ => chkI (inbI (by omega) (by omega)) (rngI (by omega) (ih (k + 1) _ (by omega) (by omega) (ho.up (by decide)) (fun j j0 j1 => ?_)))))
    by_cases e : j = k
    · rw [e, up_same]
    · rw [up_ne _ e]; exact hj j j0 (by omega)
theorem M_hub {v : sF} (hS : St (v 164)) (hi : v 163 18 = -1) : ∃ v', Ev (d + 9) 281 [(2, 163)] (c, v) (some (0, q_hub (v 164))) (c, v') ∧ QM v v' := by
  have hq := QM.t0 v 0
  have h1 := hS.1.1
  have h2 := hS.1.2.1
  refine CI_of loc281 (E281_0 (hbM0_loop _ (fun v1 ho hj => ?_) 6 0 _ (by omega) (by omega) (Off.rf _ _) (fun j j0 j1 => absurd j0 (by omega))))
  have hq1 := hq.tr (QM.of ho (by decide))
  have ea := hq1.al
  refine hbM1_loop (d := d + 1) v1 (by rw [ea]; exact hS) (by rw [hq1.idle]; exact hi) (fun v2 ho2 hj2 => ?_) (v1 164 2).toNat 0 v1 (by rw [ea]; omega) (Off.rf _ _) (fun j j0 j1 => hj j j0 (by rw [ea] at j1; omega))
  have hq2 := hq1.tr (oM3 ho2)
  rw [ea] at hj2
  have := hbM3_loop (d := d + 8) (c := c) (v := v2) (al := v 164) (Q := fun r μ => r = some (0, q_hub (v 164)) ∧ ∃ v', μ = (c, v') ∧ QM v v') h1 hq2.al hj2 ⟨rfl, _, rfl, hq2⟩ ((v 164 1).toNat - 1) 1 (by omega) (by omega)
  rw [show bix (hbt (v 164) (v 164 2).toNat) 1 = 0 by rw [bix_s, if_neg (by exact Int.lt_irrefl _)]; rfl] at this
  exact this
end Meet
