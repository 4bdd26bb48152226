section Chan3
variable {d c : Nat}
/-- what the model's rows are while it lays chances -/
def LyM (v : sF) (al : Int → Int) (p : Int) : Prop := v 164 = al ∧ MN v (nxA al (-1) p) (al 1) ∧ ∀ k : Int, 0 ≤ k → k < al 1 → AwM v al p k
theorem LyM.off {v v' : sF} {al : Int → Int} {p : Int} (h : LyM v al p) (ho : Off [177, 178] v v') : LyM v' al p := by
  unfold LyM MN AwM at *
  rw [ho 164 (by decide), ho 171 (by decide), ho 175 (by decide), ho 176 (by decide)]
  exact h
theorem ll4_loop {al : Int → Int} {p n k1 : Int} {r : Nat} {Q : sQ} (v0 : sF) (hT : okT al) (h : LyM v0 al p) (hk1 : 0 ≤ k1 ∧ k1 ≤ 100) (h8 : ∀ j : Int, 0 ≤ j → j < al 1 → v0 178 j = lkl al p r j) (hQ : ∀ v, Off [177, 178] v0 v → (∀ j : Int, 0 ≤ j → j < al 1 → v 177 j = lkl al p r j) → Wp (Ev d) 0 (fun _ => 0) 283 Q 49 [(2, 163), (9, 0), (0, n), (0, k1 + 1), (9, 0)] [] c v) : ∀ (m : Nat) (k : Int) (v : sF), 0 ≤ k → k + m = al 1 → Off [177] v0 v → (∀ j : Int, 0 ≤ j → j < k → v 177 j = lkl al p r j) → Wp (Ev d) 0 (fun _ => 0) 283 Q 130 [(2, 163), (9, 0), (0, n), (0, k1), (0, k)] [] c v := by
  have h1 := hT.1
  intro m
  induction m with
  | zero =>
    intro k v k0 hk ho hj
    refine E283_130 _ _ _ ?_
    rw [ho 164 (by decide), h.1]
    exact brbI (fun _ => rngI (by omega) (hQ v (ho.wk (by decide)) (fun j j0 j1 => hj j j0 (by omega)))) (fun q => absurd q (by omega))
  | succ m ih =>
    intro k v k0 hk ho hj
    refine E283_130 _ _ _ ?_
    rw [ho 164 (by decide), h.1, ho 178 (by decide), h8 k k0 (by omega)]
    refine brbI (fun q => absurd q (by omega)) (fun _ => chkI (inbI (by omega) (by omega)) (chkI (inbI (by omega) (by omega)) (rngI (by omega) (ih (k + 1) _ (by omega) (by omega) (ho.up (by decide)) (fun j j0 j1 => ?_)))))
    by_cases e : j = k
    · rw [e, up_same]
    · rw [up_ne _ e]; exact hj j j0 (by omega)
theorem ll3_loop {al : Int → Int} {p n k1 : Int} {r : Nat} {Q : sQ} (v0 : sF) (hT : okT al) (hp : 0 ≤ p ∧ p < 6) (hr : r ≤ 15) (h : LyM v0 al p) (h7 : ∀ j : Int, 0 ≤ j → j < al 1 → v0 177 j = lkl al p r j) (hQ : ∀ v, Off [178] v0 v → (∀ j : Int, 0 ≤ j → j < al 1 → v 178 j = lkl al p (r + 1) j) → Wp (Ev d) 0 (fun _ => 0) 283 Q 130 [(2, 163), (9, 0), (0, n), (0, k1), (0, 0)] [] c v) : ∀ (m : Nat) (k : Int) (v : sF), 0 ≤ k → k + m = al 1 → Off [178] v0 v → (∀ j : Int, 0 ≤ j → j < k → v 178 j = lkl al p (r + 1) j) → Wp (Ev d) 0 (fun _ => 0) 283 Q 57 [(2, 163), (9, 0), (0, n), (0, k1), (0, k)] [] c v := by
  have h1 := hT.1
  have hb := p10_b (n := r) (by omega)
  intro m
  induction m with
  | zero =>
    intro k v k0 hk ho hj
    refine E283_57 _ _ _ ?_
    rw [ho 164 (by decide), h.1]
    exact brbI (fun _ => hQ v ho (fun j j0 j1 => hj j j0 (by omega))) (fun q => absurd q (by omega))
  | succ m ih =>
    intro k v k0 hk ho hj
    have hk2 : 0 ≤ k ∧ k < al 1 := by omega
    have ha := aw_rng hT p k
    have hn := nxA_rng (idle := -1) hT hp hk2
    have hs := scd_rng hT hp hk2
    have hw := wsum ha (lkl_rng hT hp r hn) (lkl_rng hT hp r hs)
    have hAw := h.2.2 k k0 hk2.2
    refine E283_57 _ _ _ ?_
    rw [ho 164 (by decide), h.1, ho 171 (by decide), ho 175 (by decide), ho 176 (by decide), ho 177 (by decide), h.2.1.2 k k0 hk2.2, hAw.1, hAw.2, h7 _ hn.1 hn.2, h7 _ hs.1 hs.2, ← lkl_s]
    rw [← lkl_s] at hw
    refine brbI (fun q => absurd q (by omega)) (fun _ => chkI (inbI (by omega) (by omega)) (chkI (inbI (by omega) (by omega)) (chkI (inbI (by omega) (by omega)) (rngI (by omega) (rnlI (by omega) (chkI (inbI (by omega) (by omega)) (chkI (inbI (by omega) (by omega)) (chkI (inbI (by omega) (by omega)) (rnlI (by omega) (rnlI (by omega) (chkI (inbI (by omega) (by omega)) (rngI (by omega) (ih (k + 1) _ (by omega) (by omega) (ho.up (by decide)) (fun j j0 j1 => ?_))))))))))))))
    by_cases e : j = k
    · rw [e, up_same]
    · rw [up_ne _ e]; exact hj j j0 (by omega)
theorem ll2_loop {al : Int → Int} {p : Int} {n : Nat} {Q : sQ} (v0 : sF) (hT : okT al) (hp : 0 ≤ p ∧ p < 6) (hn : n ≤ 15) (h : LyM v0 al p) (hQ : ∀ v, Off [177, 178] v0 v → (∀ j : Int, 0 ≤ j → j < al 1 → v 177 j = lkl al p n j) → Q none (c, v)) : ∀ (m r : Nat) (v : sF), r + m = n → Off [177, 178] v0 v → (∀ j : Int, 0 ≤ j → j < al 1 → v 177 j = lkl al p r j) → Wp (Ev d) 0 (fun _ => 0) 283 Q 49 [(2, 163), (9, 0), (0, (n : Int)), (0, (r : Int)), (9, 0)] [] c v := by
  have h1 := hT.1
  intro m
  induction m with
  | zero =>
    intro r v hr ho hj
    have hr : r = n := hr
    subst hr
    exact E283_49 _ _ (brbI (fun _ => hQ v ho hj) (fun q => absurd q (by omega)))
  | succ m ih =>
    intro r v hr ho hj
    refine E283_49 _ _ (brbI (fun q => absurd q (by omega)) (fun _ => ?_))
    refine ll3_loop (r := r) v hT hp (by omega) (h.off ho) hj (fun v2 ho2 hj2 => ?_) (al 1).toNat 0 v (by omega) (by omega) (Off.rf _ _) (fun j j0 j1 => absurd j0 (by omega))
    refine ll4_loop (r := r + 1) v2 hT ((h.off ho).off (ho2.wk (by decide))) (by omega) hj2 (fun v3 ho3 hj3 => ?_) (al 1).toNat 0 v2 (by omega) (by omega) (Off.rf _ _) (fun j j0 j1 => absurd j0 (by omega))
    exact ih (r + 1) v3 (by omega) (ho.tr ((ho2.wk (by decide)).tr ho3)) hj3
theorem ll1_loop {al : Int → Int} {p n : Int} {Q : sQ} (v0 : sF) (hT : okT al) (hp : 0 ≤ p ∧ p < 6) (e : v0 164 = al) (hQ : ∀ v, Off [177, 178] v0 v → (∀ j : Int, 0 ≤ j → j < al 1 → v 177 j = lkl al p 0 j) → Wp (Ev d) 0 (fun _ => 0) 283 Q 49 [(2, 163), (9, 0), (0, n), (0, 0), (9, 0)] [] c v) : ∀ (m : Nat) (k : Int) (v : sF), 0 ≤ k → k + m = al 1 → Off [177] v0 v → (∀ j : Int, 0 ≤ j → j < k → v 177 j = lkl al p 0 j) → Wp (Ev d) 0 (fun _ => 0) 283 Q 7 [(2, 163), (0, p), (0, n), (0, k), (9, 0)] [] c v := by
  have h1 := hT.1
  intro m
  induction m with
  | zero =>
    intro k v k0 hk ho hj
    refine E283_7 _ _ _ ?_
    rw [ho 164 (by decide), e]
    exact brbI (fun _ => hQ v (ho.wk (by decide)) (fun j j0 j1 => hj j j0 (by omega))) (fun q => absurd q (by omega))
  | succ m ih =>
    intro k v k0 hk ho hj
    have hgo : ∀ x, x = (if k = al (30 + p) then (1 : Int) else 0) → Wp (Ev d) 0 (fun _ => 0) 283 Q 7 [(2, 163), (0, p), (0, n), (0, k + 1), (9, 0)] [] c (up v 177 k x) := fun x hx => ih (k + 1) _ (by omega) (by omega) (ho.up (by decide)) (fun j j0 j1 => by
      by_cases e : j = k
      · rw [e, up_same]; exact hx
      · rw [up_ne _ e]; exact hj j j0 (by omega))
    refine E283_7 _ _ _ ?_
    rw [ho 164 (by decide), e]
    exact brbI (fun q => absurd q (by omega)) (fun _ => rngI (by omega) (chkI (inbI (by omega) (by omega)) (brbN (fun q => chkI (inbI (by omega) (by omega)) (rngI (by omega) (hgo _ (by rw [if_neg q])))) (fun q => chkI (inbI (by omega) (by omega)) (rngI (by omega) (hgo _ (by rw [if_pos q])))))))
theorem C_laysLikely {v : sF} {p : Int} {n : Nat} (hS : Sn (v 164)) (hi : v 163 18 = -1) (hp : 0 ≤ p ∧ p < v 164 2) (hn : n ≤ 15) : ∃ v', Ev (d + 8) 283 [(2, 163), (0, p), (0, (n : Int))] (c, v) none (c, v') ∧ Off [168, 169, 171, 175, 176, 177, 178] v v' ∧ ∀ k : Int, 0 ≤ k → k < v 164 1 → v' 177 k = lkl (v 164) p n k := by
  have h1 := hS.1.1
  have h2 := hS.1.2.1
  obtain ⟨v1, hE, hO, hN, hA⟩ := C_laysAway (d := d) (c := c) (v := v) hS hi hp
  have e1 : v1 164 = v 164 := hO 164 (by decide)
  refine CV_of (loc283 p n) (E283_0 p n ⟨c, v1, hE, ?_⟩)
  have hL : LyM v1 (v 164) p := ⟨e1, hN, hA⟩
  refine ll1_loop v1 hS.1 (by omega) e1 (fun v2 ho hj => ?_) (v 164 1).toNat 0 v1 (by omega) (by omega) (Off.rf _ _) (fun j j0 j1 => absurd j0 (by omega))
  exact ll2_loop v2 hS.1 (by omega) hn (hL.off ho) (fun v3 ho3 hj3 => ⟨rfl, _, rfl, (hO.wk (by decide)).tr ((ho.wk (by decide)).tr (ho3.wk (by decide))), hj3⟩) n 0 v2 (by omega) (Off.rf _ _) hj
theorem oM4 {v v' : sF} (h : Off [168, 169, 171, 175, 176, 177, 178] v v') : QM v v' := QM.of h (by decide)
/-- chance -/
def q_chance (al : Int → Int) (p x n w : Int) : Int := if ((0 ≤ p ∧ p < al 2) ∧ (0 ≤ x ∧ x < al 1)) ∧ (0 ≤ w ∧ w ≤ 1) then (if 0 ≤ n ∧ n ≤ 15 then q_low (lkl al p n.toNat x) n.toNat w else -3) else -2
theorem C_isChanceDays {v : sF} {x : Int} : Ev (d + 1) 165 [(2, 1), (0, x)] (c, v) (some (0, if 0 ≤ x ∧ x ≤ 15 then 1 else 0)) (c, v) := by
  refine Ev_of (loc165 x) (E165_0 x (brbI (fun h => ⟨by rw [if_neg (by omega)], rfl⟩) (fun h => brbI (fun h2 => ⟨by rw [if_neg (by omega)], rfl⟩) (fun h2 => ⟨by rw [if_pos (by omega)], rfl⟩))))
theorem aim_ch {v : sF} {al : Int → Int} {p : Int} (hS : St al) (hR : CR v 13 al) (hp : 0 ≤ p ∧ p < al 2) : ∃ v1 v2, Ev (d + 6) 87 [(2, 140), (2, 13), (0, p)] (c, v) none (c, v1) ∧ Ev (d + 6) 1 [(2, 148)] (c, v1) none (c, v2) ∧ Off scX v v2 ∧ WG v2 al p (-1) (-1) ∧ (∀ j : Int, 0 ≤ j → j < 6 → v2 6 j = al (21 + j)) ∧ ChX v2 al p 0 := by
  have h1 := hS.1.1
  obtain ⟨v1, hE, hO, hR1, hG, hN, _⟩ := C_aimX (d := d) (c := c) hS hR hp
  obtain ⟨v2, hE2, hO2, hC⟩ := C_begin (d := d + 5) (c := c) (v := v1) (al := al) (p := p) h1.2 hG.2.2.2.1
  exact ⟨v1, v2, hE, hE2, (oX hO).tr (hO2.wk (by decide)), hG.off hO2 (by decide), fun j j0 j1 => by rw [hO2 6 (by decide)]; exact (hR1.1.2.2.2.1 j j0 j1).2.2, hC⟩
theorem X_chance {v : sF} {al : Int → Int} {p x n w : Int} (hS : St al) (hR : CR v 13 al) : ∃ v', Ev (d + 9) 151 [(2, 1), (0, p), (0, x), (0, n), (0, w)] (c, v) (some (1, q_chance al p x n w)) (c, v') ∧ Off scX v v' := by
  have h2 := hS.1.2.1
  have hw := C_isWayX (d := d + 6) (c := c) (v := v) (x := p) (y := x)
  rw [hR.p.1, hR.p.2] at hw
  refine CJ_of (loc151 p x n w) (E151_0 p x n w ⟨_, c, v, hw, bfz (fun h => ⟨by unfold q_chance; rw [if_neg (fun z => h z.1)], _, rfl, Off.rf _ v⟩) (fun h => ?_)⟩)
  refine brbI (fun q1 => ⟨by unfold q_chance; rw [if_neg (by omega)], _, rfl, Off.rf _ v⟩) (fun q1 => brbI (fun q2 => ⟨_, c, v, C_isChanceDays, bfi (fun h3 => ?_) (fun h3 => ⟨by unfold q_chance; rw [if_pos ⟨h, by omega⟩, if_neg h3], _, rfl, Off.rf _ v⟩)⟩) (fun q2 => ⟨by unfold q_chance; rw [if_neg (by omega)], _, rfl, Off.rf _ v⟩))
  obtain ⟨v1, v2, hE1, hE2, hO, hG, h6, hC⟩ := aim_ch (d := d + 2) (c := c) hS hR h.1
  obtain ⟨v3, hE3, hO3, hC3⟩ := C_addDays (d := d + 5) (c := c) (m := n.toNat) hS.1 (show 0 ≤ p ∧ p < 6 by omega) (by omega) hG h6 hC
  rw [show ((n.toNat : Nat) : Int) = n by omega] at hE3
  rw [Nat.zero_add] at hC3
  exact ⟨c, v1, hE1, c, v2, hE2, c, v3, hE3, _, c, v3, C_lowest hS.1 (by omega) (by omega) h.2 hC3, by unfold q_chance; rw [if_pos ⟨h, by omega⟩, if_pos h3], _, rfl, hO.tr (hO3.wk (by decide))⟩
theorem M_chance {v : sF} {p x n w : Int} (hS : St (v 164)) (hi : v 163 18 = -1) : ∃ v', Ev (d + 110) 286 [(2, 163), (0, p), (0, x), (0, n), (0, w)] (c, v) (some (1, q_chance (v 164) p x n w)) (c, v') ∧ QM v v' := by
  have hq := QM.t0 v 0
  have h1 := hS.1.1
  have h2 := hS.1.2.1
  have ea := hq.al
  have ei := hq.idle
  have hw := C_isWayM (d := d + 106) (c := c) (v := up v 163 0 0) (x := p) (y := x) (by rw [ea]; omega) (by rw [ea]; omega)
  rw [ea] at hw
  refine CJ_of (loc286 p x n w) (E286_0 p x n w ⟨_, c, _, hw, bfz (fun h => ⟨by unfold q_chance; rw [if_neg (fun z => h z.1)], _, rfl, hq⟩) (fun h => ⟨_, c, _, C_within _ _ _, bfi (fun h3 => ⟨_, c, _, C_within _ _ _, bfi (fun h4 => ?_) (fun h4 => ⟨by unfold q_chance; rw [if_pos ⟨h, h3⟩, if_neg h4], _, rfl, hq⟩)⟩) (fun h3 => ⟨by unfold q_chance; rw [if_neg (fun z => h3 z.2)], _, rfl, hq⟩)⟩)⟩)
  obtain ⟨v1, hE, hO, hj⟩ := C_laysLikely (d := d + 101) (c := c) (v := up v 163 0 0) (p := p) (n := n.toNat) (by rw [ea]; exact hS.n) (by rw [ei]; exact hi) (by rw [ea]; exact h.1) (by omega)
  rw [ea] at hj
  have hN : ((n.toNat : Nat) : Int) = n := by omega
  have hT1 := C_tens (d := d + 108) (c := c) (v := v1) (n := n.toNat) (by omega)
  rw [hN] at hE hT1
  have hb := p10_c (n := n.toNat) (by omega)
  have hr := lkl_rng hS.1 (show 0 ≤ p ∧ p < 6 by omega) n.toNat h.2
  have hB : (10 ^ n.toNat : Nat) ≤ 1000000000000000 := by have := p10n n.toNat; omega
  have hB1 : 1 ≤ (10 ^ n.toNat : Nat) := by have := p10n n.toNat; omega
  have hC := C_common (c := c) (v := v1) 50 (d + 8) (lkl (v 164) p n.toNat x).toNat (10 ^ n.toNat) (by omega)
  rw [p10n, show (((lkl (v 164) p n.toNat x).toNat : Nat) : Int) = lkl (v 164) p n.toNat x by omega] at hC
  have hg0 : Nat.gcd (lkl (v 164) p n.toNat x).toNat (10 ^ n.toNat) ≠ 0 := fun z => by have := Nat.eq_zero_of_gcd_eq_zero_right z; omega
  have hqq := hq.tr (oM4 hO)
  refine ⟨c, v1, hE, chkI (inbI (by omega) (by omega)) ⟨_, c, v1, hT1, ?_⟩⟩
  rw [hj x h.2.1 h.2.2]
  refine ⟨_, c, v1, hC, brbN (fun q => ⟨_, c, v1, hT1, chkN (by omega) ⟨?_, _, rfl, hqq⟩⟩) (fun q => chkI (inbI (by omega) (by omega)) (chkN (by omega) ⟨?_, _, rfl, hqq⟩))⟩
  · unfold q_chance q_low
    rw [if_pos ⟨h, h3⟩, if_pos h4, if_neg q, ← p10n, td_nat (by omega)]
  · rw [hj x h.2.1 h.2.2]
    unfold q_chance q_low
    rw [if_pos ⟨h, h3⟩, if_pos h4, if_pos q]
    have := td_nat (A := (lkl (v 164) p n.toNat x).toNat) (b := Nat.gcd (lkl (v 164) p n.toNat x).toNat (10 ^ n.toNat)) (by omega)
    rw [show (((lkl (v 164) p n.toNat x).toNat : Nat) : Int) = lkl (v 164) p n.toNat x by omega] at this
    rw [this]
/-- likely -/
def lkf (f : Nat → Bool) : Nat → Nat → Int
  | 0, _ => -1
  | m + 1, k => if f k = true then (k : Int) else lkf f m (k + 1)
def q_likely (al : Int → Int) (p x m : Int) : Int := if (0 ≤ p ∧ p < al 2) ∧ (0 ≤ x ∧ x < al 1) then (if 0 ≤ m ∧ m ≤ 100 then lkf (fun n => decide (m * 10 ^ n ≤ lkl al p n x * 100)) 16 0 else -3) else -2
theorem m100 {m W : Int} (hm : 0 ≤ m ∧ m ≤ 100) (hW : 0 ≤ W) : 0 ≤ m * W ∧ m * W ≤ 100 * W := ⟨Int.mul_nonneg hm.1 hW, Int.mul_le_mul_of_nonneg_right hm.2 hW⟩
theorem lkX_loop {al : Int → Int} {p x mm X : Int} {Q : sQ} (v0 : sF) (hT : okT al) (hp : 0 ≤ p ∧ p < 6) (hx : 0 ≤ x ∧ x < al 1) (hm : 0 ≤ mm ∧ mm ≤ 100) (hG : WG v0 al p (-1) (-1)) (h6 : ∀ j : Int, 0 ≤ j → j < 6 → v0 6 j = al (21 + j)) (hQ : ∀ v, Off [148, 149, 150] v0 v → Q (some (0, X)) (c, v)) : ∀ (m k : Nat) (v : sF), k + m = 16 → lkf (fun n => decide (mm * 10 ^ n ≤ lkl al p n x * 100)) m k = X → Off [148, 149, 150] v0 v → ChX v al p k → Wp (Ev (d + 3)) 0 (fun _ => 0) 152 Q 47 [(2, 1), (9, 0), (0, x), (0, mm), (0, (k : Int))] [] c v := by
  have h1 := hT.1
  intro m
  induction m with
  | zero =>
    intro k v hk he ho hC
    have he : -1 = X := he
    subst he
    exact E152_47 _ _ _ (brbI (fun _ => hQ v ho) (fun q => absurd q (by omega)))
  | succ m ih =>
    intro k v hk he ho hC
    unfold lkf at he
    have hb := p10_c (n := k) (by omega)
    have hr := lkl_rng hT hp k hx
    have hmm := m100 hm (show (0 : Int) ≤ 10 ^ k by omega)
    refine E152_47 _ _ _ ?_
    rw [hC.1, hC.2 x hx.1 hx.2, Int.mul_comm (10 ^ k) mm]
    refine brbI (fun q => absurd q (by omega)) (fun _ => chkI (inbI (by omega) (by omega)) (rnlI (by omega) (rnlI (by omega) (blt (fun q => ?_) (fun q => ?_)))))
    · rw [if_neg (by rw [decide_eq_true_iff]; omega)] at he
      obtain ⟨v1, hE, hO, hC1⟩ := C_addDays (d := d) (c := c) (n := k) (m := 1) hT hp (by omega) (hG.off ho (by decide)) (fun j j0 j1 => by rw [ho 6 (by decide)]; exact h6 j j0 j1) hC
      exact ⟨c, v1, hE, rngI (by omega) (ih (k + 1) v1 (by omega) he (ho.tr hO) hC1)⟩
    · rw [if_pos (by rw [decide_eq_true_iff]; omega)] at he
      subst he
      exact hQ v ho
theorem X_likely {v : sF} {al : Int → Int} {p x m : Int} (hS : St al) (hR : CR v 13 al) : ∃ v', Ev (d + 9) 152 [(2, 1), (0, p), (0, x), (0, m)] (c, v) (some (0, q_likely al p x m)) (c, v') ∧ Off scX v v' := by
  have h2 := hS.1.2.1
  have hw := C_isWayX (d := d + 6) (c := c) (v := v) (x := p) (y := x)
  rw [hR.p.1, hR.p.2] at hw
  refine CI_of (loc152 p x m) (E152_0 p x m ⟨_, c, v, hw, bfi (fun h => ?_) (fun h => ⟨by unfold q_likely; rw [if_neg h], _, rfl, Off.rf _ v⟩)⟩)
  refine brbI (fun q1 => ⟨by unfold q_likely; rw [if_pos h, if_neg (by omega)], _, rfl, Off.rf _ v⟩) (fun q1 => brbI (fun q2 => ?_) (fun q2 => ⟨by unfold q_likely; rw [if_pos h, if_neg (by omega)], _, rfl, Off.rf _ v⟩))
  obtain ⟨v1, v2, hE1, hE2, hO, hG, h6, hC⟩ := aim_ch (d := d + 2) (c := c) hS hR h.1
  exact ⟨c, v1, hE1, c, v2, hE2, lkX_loop (d := d + 5) v2 hS.1 (by omega) h.2 (by omega) hG h6 (fun v3 ho => ⟨by unfold q_likely; rw [if_pos h, if_pos (by omega)], _, rfl, hO.tr (ho.wk (by decide))⟩) 16 0 v2 (by omega) rfl (Off.rf _ _) hC⟩
theorem lkM_loop {p x mm X : Int} {Q : sQ} (v0 : sF) (hS : Sn (v0 164)) (hi : v0 163 18 = -1) (hp : 0 ≤ p ∧ p < v0 164 2) (hx : 0 ≤ x ∧ x < v0 164 1) (hm : 0 ≤ mm ∧ mm ≤ 100) (hQ : ∀ v, Off [168, 169, 171, 175, 176, 177, 178] v0 v → Q (some (0, X)) (c, v)) : ∀ (m k : Nat) (v : sF), k + m = 16 → lkf (fun n => decide (mm * 10 ^ n ≤ lkl (v0 164) p n x * 100)) m k = X → Off [168, 169, 171, 175, 176, 177, 178] v0 v → Wp (Ev (d + 8)) 0 (fun _ => 0) 287 Q 35 [(2, 163), (0, p), (0, x), (0, mm), (0, (k : Int))] [] c v := by
  have h1 := hS.1.1
  have h2 := hS.1.2.1
  intro m
  induction m with
  | zero =>
    intro k v hk he ho
    have he : -1 = X := he
    subst he
    exact E287_35 _ _ _ _ (brbI (fun _ => hQ v ho) (fun q => absurd q (by omega)))
  | succ m ih =>
    intro k v hk he ho
    unfold lkf at he
    have ea : v 164 = v0 164 := ho 164 (by decide)
    have hb := p10_c (n := k) (by omega)
    have hr := lkl_rng hS.1 (show 0 ≤ p ∧ p < 6 by omega) k hx
    have hmm := m100 hm (show (0 : Int) ≤ 10 ^ k by omega)
    obtain ⟨v1, hE, hO, hj⟩ := C_laysLikely (d := d) (c := c) (v := v) (p := p) (n := k) (by rw [ea]; exact hS) (by rw [ho 163 (by decide)]; exact hi) (by rw [ea]; exact hp) (by omega)
    rw [ea] at hj
    refine E287_35 _ _ _ _ (brbI (fun q => absurd q (by omega)) (fun _ => ⟨c, v1, hE, chkI (inbI (by omega) (by omega)) ?_⟩))
    rw [hj x hx.1 hx.2]
    refine rnlI (by omega) ⟨_, c, v1, C_tens (d := d + 7) (by omega), rnlI (by omega) (blt (fun q => rngI (by omega) ?_) (fun q => ?_))⟩
    · rw [if_neg (by rw [decide_eq_true_iff]; omega)] at he
      exact ih (k + 1) v1 (by omega) he (ho.tr hO)
    · rw [if_pos (by rw [decide_eq_true_iff]; omega)] at he
      subst he
      exact hQ v1 (ho.tr hO)
theorem M_likely {v : sF} {p x m : Int} (hS : St (v 164)) (hi : v 163 18 = -1) : ∃ v', Ev (d + 9) 287 [(2, 163), (0, p), (0, x), (0, m)] (c, v) (some (0, q_likely (v 164) p x m)) (c, v') ∧ QM v v' := by
  have hq := QM.t0 v 0
  have h1 := hS.1.1
  have h2 := hS.1.2.1
  have ea := hq.al
  have ei := hq.idle
  have hw := C_isWayM (d := d + 5) (c := c) (v := up v 163 0 0) (x := p) (y := x) (by rw [ea]; omega) (by rw [ea]; omega)
  rw [ea] at hw
  refine CI_of (loc287 p x m) (E287_0 p x m ⟨_, c, _, hw, bfi (fun h => ⟨_, c, _, C_within _ _ _, bfi (fun h3 => ?_) (fun h3 => ⟨by unfold q_likely; rw [if_pos h, if_neg h3], _, rfl, hq⟩)⟩) (fun h => ⟨by unfold q_likely; rw [if_neg h], _, rfl, hq⟩)⟩)
  exact lkM_loop (d := d) (up v 163 0 0) (by rw [ea]; exact hS.n) (by rw [ei]; exact hi) (by rw [ea]; exact h.1) (by rw [ea]; exact h.2) h3 (fun v2 ho => ⟨by unfold q_likely; rw [if_pos h, if_pos h3], _, rfl, hq.tr (oM4 ho)⟩) 16 0 _ (by omega) (by rw [ea]) (Off.rf _ _)
/-- surest -/
def srs (al : Int → Int) (p : Int) (n k : Nat) : Int × Int := bst (fun k => decide (k ≠ al (30 + p))) (fun k => lkl al p n k) k
theorem srs_s (al : Int → Int) (p : Int) (n k : Nat) : srs al p n (k + 1) = if decide ((k : Int) ≠ al (30 + p)) = true ∧ (srs al p n k).2 < lkl al p n k then ((k : Int), lkl al p n k) else srs al p n k := rfl
def q_surest (al : Int → Int) (p n : Int) : Int := if 0 ≤ p ∧ p < al 2 then (if 0 ≤ n ∧ n ≤ 15 then (srs al p n.toNat (al 1).toNat).1 else -3) else -2
theorem srX_loop {v : sF} {al : Int → Int} {p : Int} {n : Nat} {Q : sQ} (hT : okT al) (e : v 3 0 = al 1) (ht : v 140 3 = al (30 + p)) (hC : ChX v al p n) (hQ : Q (some (0, (srs al p n (al 1).toNat).1)) (c, v)) : ∀ (m k : Nat), (k : Int) + m = al 1 → Wp (Ev d) 0 (fun _ => 0) 153 Q 57 [(2, 1), (9, 0), (9, 0), (0, (srs al p n k).1), (1, (srs al p n k).2), (9, 0), (0, (k : Int))] [] c v := by
  have h1 := hT.1
  intro m
  induction m with
  | zero =>
    intro k hk
    refine E153_57 _ _ _ ?_
    rw [e]
    rw [show (al 1).toNat = k by omega] at hQ
    exact brbI (fun _ => hQ) (fun q => absurd q (by omega))
  | succ m ih =>
    intro k hk
    have ihk := ih (k + 1) (by omega)
    rw [srs_s] at ihk
    generalize srs al p n k = s at *
    refine E153_57 _ _ _ ?_
    rw [e, ht, hC.2 k (by omega) (by omega)]
    refine brbI (fun q => absurd q (by omega)) (fun _ => brbI (fun q => rngI (by omega) ?_) (fun q => chkI (inbI (by omega) (by omega)) (ble (fun q2 => rngI (by omega) ?_) (fun q2 => chkI (inbI (by omega) (by omega)) (rngI (by omega) ?_)))))
    · rw [if_neg (by simp [q])] at ihk; exact ihk
    · rw [if_neg (by omega)] at ihk; exact ihk
    · rw [if_pos ⟨by simp [q], by omega⟩] at ihk; exact ihk
theorem X_surest {v : sF} {al : Int → Int} {p n : Int} (hS : St al) (hR : CR v 13 al) : ∃ v', Ev (d + 9) 153 [(2, 1), (0, p), (0, n)] (c, v) (some (0, q_surest al p n)) (c, v') ∧ Off scX v v' := by
  have h1 := hS.1.1
  have h2 := hS.1.2.1
  have hw := C_isPersonX (d := d + 7) (c := c) (v := v) (x := p)
  rw [hR.p.2] at hw
  refine CI_of (loc153 p n) (E153_0 p n ⟨_, c, v, hw, bfi (fun h => ⟨_, c, v, C_isChanceDays, bfi (fun h3 => ?_) (fun h3 => ⟨by unfold q_surest; rw [if_pos h, if_neg h3], _, rfl, Off.rf _ v⟩)⟩) (fun h => ⟨by unfold q_surest; rw [if_neg h], _, rfl, Off.rf _ v⟩)⟩)
  obtain ⟨v1, v2, hE1, hE2, hO, hG, h6, hC⟩ := aim_ch (d := d + 2) (c := c) hS hR h
  obtain ⟨v3, hE3, hO3, hC3⟩ := C_addDays (d := d + 5) (c := c) (m := n.toNat) hS.1 (show 0 ≤ p ∧ p < 6 by omega) (by omega) hG h6 hC
  rw [show ((n.toNat : Nat) : Int) = n by omega] at hE3
  rw [Nat.zero_add] at hC3
  have hG3 := hG.off hO3 (by decide)
  exact ⟨c, v1, hE1, c, v2, hE2, c, v3, hE3, srX_loop (d := d + 8) hS.1 hG3.1 hG3.2.2.2.1 hC3 ⟨by unfold q_surest; rw [if_pos h, if_pos h3], _, rfl, hO.tr (hO3.wk (by decide))⟩ (al 1).toNat 0 (by omega)⟩
theorem srM_loop {v : sF} {al : Int → Int} {p : Int} {n : Nat} {Q : sQ} (hT : okT al) (hp : 0 ≤ p ∧ p < 6) (e : v 164 = al) (hC : ∀ k : Int, 0 ≤ k → k < al 1 → v 177 k = lkl al p n k) (hQ : Q (some (0, (srs al p n (al 1).toNat).1)) (c, v)) : ∀ (m k : Nat), (k : Int) + m = al 1 → Wp (Ev d) 0 (fun _ => 0) 288 Q 46 [(2, 163), (0, p), (9, 0), (0, (srs al p n k).1), (1, (srs al p n k).2), (9, 0), (0, (k : Int))] [] c v := by
  have h1 := hT.1
  intro m
  induction m with
  | zero =>
    intro k hk
    refine E288_46 _ _ _ _ ?_
    rw [e]
    rw [show (al 1).toNat = k by omega] at hQ
    exact brbI (fun _ => hQ) (fun q => absurd q (by omega))
  | succ m ih =>
    intro k hk
    have ihk := ih (k + 1) (by omega)
    rw [srs_s] at ihk
    generalize srs al p n k = s at *
    refine E288_46 _ _ _ _ ?_
    rw [e, hC k (by omega) (by omega)]
    refine brbI (fun q => absurd q (by omega)) (fun _ => rngI (by omega) (chkI (inbI (by omega) (by omega)) (brbI (fun q => rngI (by omega) ?_) (fun q => chkI (inbI (by omega) (by omega)) (bgt (fun q2 => chkI (inbI (by omega) (by omega)) (rngI (by omega) ?_)) (fun q2 => rngI (by omega) ?_))))))
    · rw [if_neg (by simp [q])] at ihk; exact ihk
    · rw [if_pos ⟨by simp [q], by omega⟩] at ihk; exact ihk
    · rw [if_neg (by omega)] at ihk; exact ihk
theorem M_surest {v : sF} {p n : Int} (hS : St (v 164)) (hi : v 163 18 = -1) : ∃ v', Ev (d + 9) 288 [(2, 163), (0, p), (0, n)] (c, v) (some (0, q_surest (v 164) p n)) (c, v') ∧ QM v v' := by
  have hq := QM.t0 v 0
  have h1 := hS.1.1
  have h2 := hS.1.2.1
  have ea := hq.al
  have ei := hq.idle
  have hw := C_isPersonM (d := d + 6) (c := c) (v := up v 163 0 0) (x := p) (by rw [ea]; omega)
  rw [ea] at hw
  refine CI_of (loc288 p n) (E288_0 p n ⟨_, c, _, hw, bfi (fun h => ⟨_, c, _, C_within _ _ _, bfi (fun h3 => ?_) (fun h3 => ⟨by unfold q_surest; rw [if_pos h, if_neg h3], _, rfl, hq⟩)⟩) (fun h => ⟨by unfold q_surest; rw [if_neg h], _, rfl, hq⟩)⟩)
  obtain ⟨v1, hE, hO, hj⟩ := C_laysLikely (d := d) (c := c) (v := up v 163 0 0) (p := p) (n := n.toNat) (by rw [ea]; exact hS.n) (by rw [ei]; exact hi) (by rw [ea]; exact h) (by omega)
  rw [ea] at hj
  rw [show ((n.toNat : Nat) : Int) = n by omega] at hE
  exact ⟨c, v1, hE, srM_loop (d := d + 8) hS.1 (by omega) ((hO 164 (by decide)).trans ea) hj ⟨by unfold q_surest; rw [if_pos h, if_pos h3], _, rfl, hq.tr (oM4 hO)⟩ (v 164 1).toNat 0 (by omega)⟩
end Chan3
