section Tray3
variable {d c : Nat}
theorem isIn_k : ∀ (x : Fin 64) (k : Fin 6), (land (lshr ((x.val : Nat) : Int) ((k.val : Nat) : Int)) 1 = 1 ↔ tb ((x.val : Nat) : Int) ((k.val : Nat) : Int) = true) ∧ (iand (ishr ((x.val : Nat) : Int) ((k.val : Nat) : Int)) 1 = if tb ((x.val : Nat) : Int) ((k.val : Nat) : Int) = true then 1 else 0) ∧ tb ((x.val : Nat) : Int) ((k.val : Nat) : Int) = decide (((x.val : Nat) : Int) / 2 ^ k.val % 2 = 1) := by decide +kernel
theorem isIn_i {x k : Int} (hx : 0 ≤ x ∧ x < 64) (hk : 0 ≤ k ∧ k < 6) : (land (lshr x k) 1 = 1 ↔ tb x k = true) ∧ (iand (ishr x k) 1 = if tb x k = true then 1 else 0) ∧ tb x k = decide (x / 2 ^ k.toNat % 2 = 1) := by
  have h := isIn_k ⟨x.toNat, by omega⟩ ⟨k.toNat, by omega⟩
  dsimp only at h
  rw [show ((x.toNat : Nat) : Int) = x by omega, show ((k.toNat : Nat) : Int) = k by omega] at h
  exact h
theorem C_isIn {v : sF} {x k : Int} (hx : 0 ≤ x ∧ x < 64) (hk : 0 ≤ k ∧ k < 6) : Ev (d + 1) 181 [(1, x), (0, k)] (c, v) (some (0, if tb x k = true then 1 else 0)) (c, v) := by
  have h := isIn_i hx hk
  exact Ev_of (loc181 x k) (E181_0 x k (bne0 (fun q => ⟨by rw [if_neg (fun z => q (h.1.2 z))], rfl⟩) (fun q => ⟨by rw [if_pos (h.1.1 q)], rfl⟩)))
/-- how many lie at each place, the most -/
def tly (P : Int → Bool) (h : Int → Int) : Nat → (Int → Int) × Int
  | 0 => (fun _ => 0, 0)
  | n + 1 => if P n = true then (ua (tly P h n).1 (h n) ((tly P h n).1 (h n) + 1), if (tly P h n).2 < (tly P h n).1 (h n) + 1 then (tly P h n).1 (h n) + 1 else (tly P h n).2) else tly P h n
theorem tly_s (P : Int → Bool) (h : Int → Int) (n : Nat) : tly P h (n + 1) = if P n = true then (ua (tly P h n).1 (h n) ((tly P h n).1 (h n) + 1), if (tly P h n).2 < (tly P h n).1 (h n) + 1 then (tly P h n).1 (h n) + 1 else (tly P h n).2) else tly P h n := rfl
theorem tly_rng (P : Int → Bool) (h : Int → Int) : ∀ n, (0 ≤ (tly P h n).2 ∧ (tly P h n).2 ≤ n) ∧ ∀ j, 0 ≤ (tly P h n).1 j ∧ (tly P h n).1 j ≤ n := by
  intro n
  induction n with
  | zero => exact ⟨⟨by show (0 : Int) ≤ 0; decide, by show (0 : Int) ≤ 0; decide⟩, fun j => ⟨by show (0 : Int) ≤ 0; decide, by show (0 : Int) ≤ 0; decide⟩⟩
  | succ n ih =>
    rw [tly_s]
    split
    · have := ih.2 (h n)
      refine ⟨by (try dsimp only); split <;> omega, fun j => ?_⟩
      (try dsimp only)
      by_cases e : j = h n
      · rw [e, ua_s]; omega
      · rw [ua_n e]; have := ih.2 j; omega
    · refine ⟨by omega, fun j => by have := ih.2 j; omega⟩
def mal (al : Int → Int) (set p : Int) (n : Nat) (x : Int) (k : Nat) : (Int → Int) × Int := tly (fun k => tb set k) (fun k => itf (nxA (ua al (30 + p) k) (-1) p) n x) k
theorem mal_s (al : Int → Int) (set p : Int) (n : Nat) (x : Int) (k : Nat) : mal al set p n x (k + 1) = if tb set k = true then (ua (mal al set p n x k).1 (itf (nxA (ua al (30 + p) k) (-1) p) n x) ((mal al set p n x k).1 (itf (nxA (ua al (30 + p) k) (-1) p) n x) + 1), if (mal al set p n x k).2 < (mal al set p n x k).1 (itf (nxA (ua al (30 + p) k) (-1) p) n x) + 1 then (mal al set p n x k).1 (itf (nxA (ua al (30 + p) k) (-1) p) n x) + 1 else (mal al set p n x k).2) else mal al set p n x k := rfl
theorem mal_rng (al : Int → Int) (set p : Int) (n : Nat) (x : Int) (k : Nat) : (0 ≤ (mal al set p n x k).2 ∧ (mal al set p n x k).2 ≤ k) ∧ ∀ j, 0 ≤ (mal al set p n x k).1 j ∧ (mal al set p n x k).1 j ≤ k := tly_rng _ _ k
theorem clr_loop {Q : sQ} (v0 : sF) (hQ : ∀ v, Off [154] v0 v → (∀ j : Int, 0 ≤ j → j < 6 → v 154 j = 0) → Q none (c, v)) : ∀ (m : Nat) (k : Int) (v : sF), 0 ≤ k → k + m = 6 → Off [154] v0 v → (∀ j : Int, 0 ≤ j → j < k → v 154 j = 0) → Wp (Ev d) 0 (fun _ => 0) 167 Q 2 [(2, 1), (0, k)] [] c v := by
  intro m
  induction m with
  | zero =>
    intro k v k0 hk ho hj
    exact E167_2 _ (brbI (fun _ => hQ v ho (fun j j0 j1 => hj j j0 (by omega))) (fun q => absurd q (by omega)))
  | succ m ih =>
    intro k v k0 hk ho hj
    refine E167_2 _ (brbI (fun q => absurd q (by omega)) (fun _ => chkI (inbI (by omega) (by omega)) (rngI (by omega) (ih (k + 1) _ (by omega) (by omega) (ho.up (by decide)) (fun j j0 j1 => ?_)))))
    by_cases e : j = k
    · rw [e, up_same]
    · rw [up_ne _ e]; exact hj j j0 (by omega)
theorem C_clearTally {v : sF} : ∃ v', Ev (d + 1) 167 [(2, 1)] (c, v) none (c, v') ∧ Off [154] v v' ∧ ∀ j : Int, 0 ≤ j → j < 6 → v' 154 j = 0 := CV_of loc167 (E167_0 (clr_loop v (fun v2 ho hj => ⟨rfl, _, rfl, ho, hj⟩) 6 0 v (by omega) (by omega) (Off.rf _ _) (fun j j0 j1 => absurd j0 (by omega))))
theorem WG.off {S : List Int} {v v' : sF} {al : Int → Int} {p idle only : Int} (h : WG v al p idle only) (ho : Off S v v') (hs : ∀ k ∈ [3, 140, 141, 142, 143], k ∉ S) : WG v' al p idle only := by
  unfold WG at *
  rw [ho 3 (hs 3 (by decide)), ho 140 (hs 140 (by decide)), ho 141 (hs 141 (by decide)), ho 142 (hs 142 (by decide)), ho 143 (hs 143 (by decide))]
  exact h
theorem ma_loop {al : Int → Int} {set p x : Int} {n : Nat} {Q : sQ} (v0 : sF) (hT : okT al) (hp : 0 ≤ p ∧ p < 6) (hx : 0 ≤ x ∧ x < al 1) (hn : n ≤ 9) (hQ : ∀ v y, Off [140, 154] v0 v → WG v (ua al (30 + p) y) p (-1) (-1) → Q (some (0, (mal al set p n x (al 1).toNat).2)) (c, v)) : ∀ (m k : Nat) (v : sF) (y : Int), (k : Int) + m = al 1 → Off [140, 154] v0 v → WG v (ua al (30 + p) y) p (-1) (-1) → (∀ j : Int, 0 ≤ j → j < 6 → v 154 j = (mal al set p n x k).1 j) → Wp (Ev (d + 3)) 0 (fun _ => 0) 145 Q 10 [(2, 1), (0, x), (0, (n : Int)), (0, set), (0, (mal al set p n x k).2), (0, (k : Int)), (9, 0)] [] c v := by
  have h1 := hT.1
  intro m
  induction m with
  | zero =>
    intro k v y hk ho hG hj
    refine E145_10 _ _ _ _ _ ?_
    rw [hG.1, ua_n (show (1 : Int) ≠ 30 + p by omega)]
    rw [show (al 1).toNat = k by omega] at hQ
    exact brbI (fun _ => hQ v y ho hG) (fun q => absurd q (by omega))
  | succ m ih =>
    intro k v y hk ho hG hj
    have ihk := ih (k + 1)
    rw [mal_s] at ihk
    have hr := mal_rng al set p n x k
    refine E145_10 _ _ _ _ _ ?_
    rw [hG.1, ua_n (show (1 : Int) ≠ 30 + p by omega)]
    refine brbI (fun q => absurd q (by omega)) (fun _ => brbN (fun q => rngI (by omega) ?_) (fun q => ?_))
    · rw [if_neg (by unfold tb; rw [decide_eq_true_iff]; exact q)] at ihk
      exact ihk v y (by omega) ho hG hj
    · rw [if_pos (by unfold tb; rw [decide_eq_true_iff]; exact q)] at ihk
      have hT3 : okT (ua al (30 + p) k) := okT_cg (sameT_ua (by omega)) hT
      have hG2 := hG.tgt (okT_cg (sameT_ua (by omega)) hT) hp (k : Int)
      rw [ua_ua] at hG2
      have hN := hG2.n hT3 hp
      rw [ua_n (show (1 : Int) ≠ 30 + p by omega)] at hN
      have hy := hN.2.1.it n hx
      have hE := C_placeIn (d := d) (c := c) (n := n) hN hx (by omega)
      refine ⟨_, c, _, hE, ?_⟩
      generalize itf (nxA (ua al (30 + p) k) (-1) p) n x = z at *
      have e1 : up v 140 3 k 154 z = (mal al set p n x k).1 z := by rw [up_ne2 _ (by decide)]; exact hj z hy.1 (by omega)
      have hz := hr.2 z
      rw [up_same, e1]
      refine chkI (inbI (by omega) (by omega)) (rngI (by omega) (chkI (inbI (by omega) (by omega)) (chkI (inbI (by omega) (by omega)) ⟨_, c, _, C_max _ _, rngI (by omega) ?_⟩)))
      refine ihk _ (k : Int) (by omega) ((ho.up (by decide)).up (by decide)) (hG2.off (S := [154]) ((Off.rf _ _).up (by decide)) (by decide)) (fun j j0 j1 => ?_)
      (try dsimp only)
      by_cases e : j = z
      · rw [e, up_same, ua_s]
      · rw [up_ne _ e, ua_n e, up_ne2 _ (by decide)]; exact hj j j0 j1
theorem C_mostAlike {v : sF} {al : Int → Int} {set p x y : Int} {n : Nat} (hT : okT al) (hp : 0 ≤ p ∧ p < 6) (hx : 0 ≤ x ∧ x < al 1) (hn : n ≤ 9) (hG : WG v (ua al (30 + p) y) p (-1) (-1)) : ∃ v', Ev (d + 4) 145 [(2, 1), (0, x), (0, (n : Int)), (0, set)] (c, v) (some (0, (mal al set p n x (al 1).toNat).2)) (c, v') ∧ Off [140, 154] v v' ∧ ∃ y, WG v' (ua al (30 + p) y) p (-1) (-1) := by
  have h1 := hT.1
  obtain ⟨v1, hE, hO, hj⟩ := C_clearTally (d := d + 2) (c := c) (v := v)
  refine CI_of (loc145 x n set) (E145_0 x n set ⟨c, v1, hE, ?_⟩)
  exact ma_loop v1 hT hp hx hn (fun v2 y ho hG2 => ⟨rfl, _, rfl, (hO.wk (by decide)).tr ho, y, hG2⟩) (al 1).toNat 0 v1 y (by omega) (Off.rf _ _) (hG.off hO (by decide)) hj
def q_prb (al : Int → Int) (set p : Int) (n : Nat) (k : Int) : Int := -(mal al set p n k (al 1).toNat).2
theorem prb_loop {al : Int → Int} {set p : Int} {n : Nat} {Q : sQ} (v0 : sF) (hT : okT al) (hp : 0 ≤ p ∧ p < 6) (hn : n ≤ 9) (hQ : ∀ v, Off [140, 154] v0 v → Q (some (0, bix (q_prb al set p n) (al 1).toNat)) (c, v)) : ∀ (m k : Nat) (v : sF) (z y : Int), (k : Int) + m = al 1 → Off [140, 154] v0 v → WG v (ua al (30 + p) y) p (-1) (-1) → (k = 0 → z = 7) → (0 < k → z = -(q_prb al set p n (bix (q_prb al set p n) k))) → Wp (Ev (d + 4)) 0 (fun _ => 0) 144 Q 82 [(2, 1), (9, 0), (9, 0), (9, 0), (0, (n : Int)), (9, 0), (0, set), (0, bix (q_prb al set p n) k), (0, z), (0, (k : Int)), (9, 0)] [] c v := by
  have h1 := hT.1
  intro m
  induction m with
  | zero =>
    intro k v z y hk ho hG hz0 hz
    refine E144_82 _ _ _ _ _ ?_
    rw [hG.1, ua_n (show (1 : Int) ≠ 30 + p by omega)]
    rw [show (al 1).toNat = k by omega] at hQ
    exact brbI (fun _ => hQ v ho) (fun q => absurd q (by omega))
  | succ m ih =>
    intro k v z y hk ho hG hz0 hz
    obtain ⟨v1, hE, hO, y1, hG1⟩ := C_mostAlike (d := d) (c := c) (set := set) (x := (k : Int)) (n := n) hT hp (by omega) hn hG
    have hE : Ev (d + 4) 145 [(2, 1), (0, (k : Int)), (0, (n : Int)), (0, set)] (c, v) (some (0, -(q_prb al set p n k))) (c, v1) := by
      unfold q_prb; rw [Int.neg_neg]; exact hE
    have hr : 0 ≤ -(q_prb al set p n k) ∧ -(q_prb al set p n k) ≤ 6 := by
      have := (mal_rng al set p n k (al 1).toNat).1
      unfold q_prb
      omega
    have ihk := fun z => ih (k + 1) v1 z y1 (by omega) (ho.tr hO) hG1 (fun q => absurd q (by omega))
    rw [bix_s] at ihk
    refine E144_82 _ _ _ _ _ ?_
    rw [hG.1, ua_n (show (1 : Int) ≠ 30 + p by omega)]
    refine brbI (fun q => absurd q (by omega)) (fun _ => ⟨_, c, v1, hE, ?_⟩)
    by_cases k0 : k = 0
    · subst k0
      have hz0 := hz0 rfl
      have e0 : bix (q_prb al set p n) 0 = 0 := rfl
      rw [e0] at ihk
      refine brbI (fun q => absurd q (by omega)) (fun q => rngI (by omega) ?_)
      have := ihk (-(q_prb al set p n (0 : Nat)))
      rw [if_neg (by exact Int.lt_irrefl _)] at this
      exact this (fun _ => rfl)
    · have hz := hz (by omega)
      subst hz
      refine brbI (fun q => rngI (by omega) ?_) (fun q => rngI (by omega) ?_)
      · have := ihk (-(q_prb al set p n (bix (q_prb al set p n) k)))
        rw [if_neg (by omega)] at this
        exact this (fun _ => rfl)
      · have := ihk (-(q_prb al set p n k))
        rw [if_pos (by omega)] at this
        exact this (fun _ => rfl)
noncomputable def q_probe1 (v : sF) (al : Int → Int) (t p x n : Int) : Int := if q_sgt (v 179 t) (tsz v t) (tnm v t) (al 1) t ((0 ≤ p ∧ p < al 2) ∧ (0 ≤ x ∧ x < al 1)) = 0 then (if 1 ≤ n ∧ n ≤ 9 then (if q_seen al (tsz v t) (tnm v t) p x = 0 then -1 else bix (q_prb al (q_seen al (tsz v t) (tnm v t) p x) p n.toNat) (al 1).toNat) else -3) else q_sgt (v 179 t) (tsz v t) (tnm v t) (al 1) t ((0 ≤ p ∧ p < al 2) ∧ (0 ≤ x ∧ x < al 1))
theorem X_probe {v : sF} {al : Int → Int} {t p x n : Int} (hS : St al) (hR : CR v 13 al) (hT : TrR v) : ∃ v', Ev (d + 9) 144 [(2, 1), (0, t), (0, p), (0, x), (0, n)] (c, v) (some (0, q_probe1 v al t p x n)) (c, v') ∧ Off scX v v' := by
  have h6 := hS.1.2.1
  have h1 := hS.1.1
  have hw := C_isWayX (d := d + 6) (c := c) (v := v) (x := p) (y := x)
  have hs := C_sightCode (d := d + 6) (c := c) (v := v) (t := t) (r := if (0 ≤ p ∧ p < v 3 1) ∧ (0 ≤ x ∧ x < v 3 0) then 1 else 0) hT hR.p.1
  rw [sgt_ok if_ne0, hR.p.1, hR.p.2] at hs
  rw [hR.p.1, hR.p.2] at hw
  refine CI_of (loc144 t p x n) (E144_0 t p x n ⟨_, c, v, hw, _, c, v, hs, brbI (fun h => ?_) (fun h => ⟨by unfold q_probe1; rw [if_neg h], _, rfl, Off.rf _ v⟩)⟩)
  have h0 := q_sgt0 h
  refine brbI (fun q1 => ⟨by unfold q_probe1; rw [if_pos h, if_neg (by omega)], _, rfl, Off.rf _ v⟩) (fun q1 => brbI (fun q2 => ?_) (fun q2 => ⟨by unfold q_probe1; rw [if_pos h, if_neg (by omega)], _, rfl, Off.rf _ v⟩))
  obtain ⟨v1, hE, hO, hR1, hG, hN, _⟩ := C_aimX (d := d + 2) (c := c) hS hR h0.1.2.1
  have htx := hT.x h0.1.1 h0.2.1
  obtain ⟨v2, hE2, hO2, hG2⟩ := C_targetBits (d := d + 4) (c := c) (v := v1) (al := al) (p := p) (x := x) hS.1 (by omega) h0.1.1 htx.2 (htx.1.off h0.1.1 hO (by decide)) h0.1.2.2 hG
  have hO12 : Off scX v v2 := (oX hO).tr (hO2.wk (by decide))
  refine ⟨c, v1, hE, chkI (inbI (by omega) (by omega)) ⟨_, c, v2, hE2, brbN (fun q => ?_) (fun q => ⟨by unfold q_probe1; rw [if_pos h, if_pos (by omega), if_pos q], _, rfl, hO12⟩)⟩⟩
  have := prb_loop (d := d + 4) (c := c) (set := q_seen al (tsz v t) (tnm v t) p x) (n := n.toNat) (Q := fun r μ => r = some (0, q_probe1 v al t p x n) ∧ ∃ v', μ = (c, v') ∧ Off scX v v') v2 hS.1 (show 0 ≤ p ∧ p < 6 by omega) (by omega) (fun v3 ho => ⟨by unfold q_probe1; rw [if_pos h, if_pos (by omega), if_neg q], _, rfl, hO12.tr (ho.wk (by decide))⟩) (al 1).toNat 0 v2 7 (al (30 + p)) (by omega) (Off.rf _ _) (by rw [ua_id]; exact hG2) (fun _ => rfl) (fun z => absurd z (by omega))
  rw [show ((n.toNat : Nat) : Int) = n by omega] at this
  exact this
/-- the model's side -/
theorem pmC_loop {p n set ws best ls x : Int} {Q : sQ} (v0 : sF) (hQ : ∀ v, Off [172] v0 v → (∀ j : Int, 0 ≤ j → j < 6 → v 172 j = 0) → Wp (Ev d) 0 (fun _ => 0) 276 Q 115 [(2, 163), (9, 0), (0, p), (9, 0), (0, n), (9, 0), (0, set), (0, ws), (0, best), (0, ls), (0, x), (0, 0), (0, 0), (9, 0)] [] c v) : ∀ (m : Nat) (k : Int) (v : sF), 0 ≤ k → k + m = 6 → Off [172] v0 v → (∀ j : Int, 0 ≤ j → j < k → v 172 j = 0) → Wp (Ev d) 0 (fun _ => 0) 276 Q 88 [(2, 163), (9, 0), (0, p), (9, 0), (0, n), (9, 0), (0, set), (0, ws), (0, best), (0, ls), (0, x), (0, k), (9, 0), (9, 0)] [] c v := by
  intro m
  induction m with
  | zero =>
    intro k v k0 hk ho hj
    exact E276_88 _ _ _ _ _ _ _ _ (brbI (fun _ => hQ v ho (fun j j0 j1 => hj j j0 (by omega))) (fun q => absurd q (by omega)))
  | succ m ih =>
    intro k v k0 hk ho hj
    refine E276_88 _ _ _ _ _ _ _ _ (brbI (fun q => absurd q (by omega)) (fun _ => chkI (inbI (by omega) (by omega)) (rngI (by omega) (ih (k + 1) _ (by omega) (by omega) (ho.up (by decide)) (fun j j0 j1 => ?_)))))
    by_cases e : j = k
    · rw [e, up_same]
    · rw [up_ne _ e]; exact hj j j0 (by omega)
theorem pmB_loop {p set ws best ls x : Int} {n : Nat} {Q : sQ} (v0 : sF) (hS : Sn (v0 164)) (hi : v0 163 18 = -1) (hp : 0 ≤ p ∧ p < v0 164 2) (hx : 0 ≤ x ∧ x < v0 164 1) (hn : n ≤ 9) (hset : 0 ≤ set ∧ set < 64) (hQ : ∀ v y, Off [164, 168, 169, 171, 172] v0 v → v 164 = ua (v0 164) (30 + p) y → Wp (Ev (d + 6)) 0 (fun _ => 0) 276 Q 69 [(2, 163), (9, 0), (0, p), (9, 0), (0, (n : Int)), (9, 0), (0, set), (0, ws), (0, if (mal (v0 164) set p n x (v0 164 1).toNat).2 < ls then x else best), (0, if (mal (v0 164) set p n x (v0 164 1).toNat).2 < ls then (mal (v0 164) set p n x (v0 164 1).toNat).2 else ls), (0, x + 1), (9, 0), (9, 0), (9, 0)] [] c v) : ∀ (m k : Nat) (v : sF) (y : Int), (k : Int) + m = v0 164 1 → Off [164, 168, 169, 171, 172] v0 v → v 164 = ua (v0 164) (30 + p) y → (∀ j : Int, 0 ≤ j → j < 6 → v 172 j = (mal (v0 164) set p n x k).1 j) → Wp (Ev (d + 6)) 0 (fun _ => 0) 276 Q 115 [(2, 163), (9, 0), (0, p), (9, 0), (0, (n : Int)), (9, 0), (0, set), (0, ws), (0, best), (0, ls), (0, x), (0, (mal (v0 164) set p n x k).2), (0, (k : Int)), (9, 0)] [] c v := by
  have h1 := hS.1.1
  have h2 := hS.1.2.1
  intro m
  induction m with
  | zero =>
    intro k v y hk ho he hj
    refine E276_115 _ _ _ _ _ _ _ _ _ ?_
    rw [he, ua_n (show (1 : Int) ≠ 30 + p by omega)]
    have hQ := hQ v y ho he
    rw [show (v0 164 1).toNat = k by omega] at hQ
    refine brbI (fun _ => brbI (fun q => rngI (by omega) ?_) (fun q => rngI (by omega) ?_)) (fun q => absurd q (by omega))
    · rw [if_pos q, if_pos q] at hQ; exact hQ
    · rw [if_neg q, if_neg q] at hQ; exact hQ
  | succ m ih =>
    intro k v y hk ho he hj
    have ihk := ih (k + 1)
    rw [mal_s] at ihk
    have hr := mal_rng (v0 164) set p n x k
    refine E276_115 _ _ _ _ _ _ _ _ _ ?_
    rw [he, ua_n (show (1 : Int) ≠ 30 + p by omega)]
    refine brbI (fun q => absurd q (by omega)) (fun _ => ⟨_, c, v, C_isIn hset ⟨by omega, by omega⟩, bfi (fun q => rngI (by omega) (chkI (inbI (by omega) (by omega)) ?_)) (fun q => rngI (by omega) ?_)⟩)
    · rw [if_pos q] at ihk
      have e2 : up v 164 (30 + p) k 164 = ua (v0 164) (30 + p) k := by rw [up_ua, he, ua_ua]
      have hS2 := Sn_at hS (p := p) (x := k) (by omega) (by omega)
      obtain ⟨v1, hE, hO, hN⟩ := C_laysM (d := d) (c := c) (v := up v 164 (30 + p) k) (p := p) (by rw [e2]; exact hS2) (by rw [e2, ua_n (show (2 : Int) ≠ 30 + p by omega)]; exact hp)
      rw [e2, up_ne2 _ (by decide), ho 163 (by decide), hi, ua_n (show (1 : Int) ≠ 30 + p by omega)] at hN
      have hy := hN.1.it n hx
      have hE2 := C_lies (d := d + 5) (c := c) (n := n) hN hx (by omega)
      refine ⟨c, v1, hE, _, c, v1, hE2, ?_⟩
      generalize itf (nxA (ua (v0 164) (30 + p) k) (-1) p) n x = z at *
      have e1 : v1 172 z = (mal (v0 164) set p n x k).1 z := by rw [hO 172 (by decide), up_off 172 (by decide)]; exact hj z hy.1 (by omega)
      have hz := hr.2 z
      have ho1 : Off [164, 168, 169, 171, 172] v0 (up v1 172 z ((mal (v0 164) set p n x k).1 z + 1)) := ((ho.up (by decide)).tr (hO.wk (by decide))).up (by decide)
      have he1 : up v1 172 z ((mal (v0 164) set p n x k).1 z + 1) 164 = ua (v0 164) (30 + p) k := by rw [up_off 164 (by decide), hO 164 (by decide), e2]
      have hj1 : ∀ j : Int, 0 ≤ j → j < 6 → up v1 172 z ((mal (v0 164) set p n x k).1 z + 1) 172 j = ua (mal (v0 164) set p n x k).1 z ((mal (v0 164) set p n x k).1 z + 1) j := fun j j0 j1 => by
        by_cases e : j = z
        · rw [e, up_same, ua_s]
        · rw [up_ne _ e, ua_n e, hO 172 (by decide), up_off 172 (by decide)]; exact hj j j0 j1
      rw [up_same, e1]
      have ihk := ihk _ (k : Int) (by omega) ho1 he1 hj1
      (try dsimp only at ihk)
      refine chkI (inbI (by omega) (by omega)) (rngI (by omega) (chkI (inbI (by omega) (by omega)) (chkI (inbI (by omega) (by omega)) (brbI (fun q2 => rngI (by omega) ?_) (fun q2 => chkI (inbI (by omega) (by omega)) (rngI (by omega) ?_))))))
      · rw [if_neg (by omega)] at ihk; exact ihk
      · rw [if_pos (by omega)] at ihk; exact ihk
    · rw [if_neg q] at ihk
      exact ihk v y (by omega) ho he hj
theorem pmA_loop {p set : Int} {n : Nat} {Q : sQ} (v0 : sF) (hS : Sn (v0 164)) (hi : v0 163 18 = -1) (hp : 0 ≤ p ∧ p < v0 164 2) (hn : n ≤ 9) (hset : 0 < set ∧ set < 64) (hQ : ∀ v, Off [168, 169, 171, 172] v0 v → Q (some (0, bix (q_prb (v0 164) set p n) (v0 164 1).toNat)) (c, v)) : ∀ (m k : Nat) (v : sF) (b z y : Int), (k : Int) + m = v0 164 1 → Off [164, 168, 169, 171, 172] v0 v → v 164 = ua (v0 164) (30 + p) y → (k = 0 → z = 268435456) → (0 < k → b = bix (q_prb (v0 164) set p n) k ∧ z = -(q_prb (v0 164) set p n (bix (q_prb (v0 164) set p n) k))) → Wp (Ev (d + 6)) 0 (fun _ => 0) 276 Q 69 [(2, 163), (9, 0), (0, p), (9, 0), (0, (n : Int)), (9, 0), (0, set), (0, v0 164 (30 + p)), (0, b), (0, z), (0, (k : Int)), (9, 0), (9, 0), (9, 0)] [] c v := by
  have h1 := hS.1.1
  have h2 := hS.1.2.1
  intro m
  induction m with
  | zero =>
    intro k v b z y hk ho he hz0 hz
    refine E276_69 _ _ _ _ _ _ _ ?_
    rw [he, ua_n (show (1 : Int) ≠ 30 + p by omega), (hz (by omega)).1]
    rw [show (v0 164 1).toNat = k by omega] at hQ
    exact brbI (fun _ => rngI (by omega) (chkI (inbI (by omega) (by omega)) (hQ _ (off_back ho he)))) (fun q => absurd q (by omega))
  | succ m ih =>
    intro k v b z y hk ho he hz0 hz
    have hr : 0 ≤ -(q_prb (v0 164) set p n k) ∧ -(q_prb (v0 164) set p n k) ≤ 6 := by
      have := (mal_rng (v0 164) set p n k (v0 164 1).toNat).1
      unfold q_prb
      omega
    have ihk := fun v b z y => ih (k + 1) v b z y (by omega)
    rw [bix_s] at ihk
    refine E276_69 _ _ _ _ _ _ _ ?_
    rw [he, ua_n (show (1 : Int) ≠ 30 + p by omega)]
    refine brbI (fun q => absurd q (by omega)) (fun _ => brbI (fun q => absurd q (by omega)) (fun _ => ?_))
    refine pmC_loop v (fun v2 ho2 hj2 => ?_) 6 0 v (by omega) (by omega) (Off.rf _ _) (fun j j0 j1 => absurd j0 (by omega))
    refine pmB_loop (x := (k : Int)) v0 hS hi hp (by omega) hn (by omega) (fun v3 y3 ho3 he3 => ?_) (v0 164 1).toNat 0 v2 y (by omega) (ho.tr (ho2.wk (by decide))) (by rw [ho2 164 (by decide)]; exact he) hj2
    have em : (mal (v0 164) set p n k (v0 164 1).toNat).2 = -(q_prb (v0 164) set p n k) := by unfold q_prb; rw [Int.neg_neg]
    rw [em]
    by_cases k0 : k = 0
    · subst k0
      have hz0 := hz0 rfl
      have e0 : bix (q_prb (v0 164) set p n) 0 = 0 := rfl
      rw [e0] at ihk
      rw [if_pos (by omega), if_pos (by omega)]
      have := ihk v3 (0 : Nat) (-(q_prb (v0 164) set p n (0 : Nat))) y3 ho3 he3 (fun q => absurd q (by omega))
      rw [if_neg (by exact Int.lt_irrefl _)] at this
      exact this (fun _ => ⟨rfl, rfl⟩)
    · have hz := hz (by omega)
      obtain ⟨hz1, hz2⟩ := hz
      subst hz1
      subst hz2
      by_cases q : -(q_prb (v0 164) set p n k) < -(q_prb (v0 164) set p n (bix (q_prb (v0 164) set p n) k))
      · rw [if_pos q, if_pos q]
        have := ihk v3 (k : Int) (-(q_prb (v0 164) set p n k)) y3 ho3 he3 (fun q => absurd q (by omega))
        rw [if_pos (by omega)] at this
        exact this (fun _ => ⟨rfl, rfl⟩)
      · rw [if_neg q, if_neg q]
        have := ihk v3 (bix (q_prb (v0 164) set p n) k) (-(q_prb (v0 164) set p n (bix (q_prb (v0 164) set p n) k))) y3 ho3 he3 (fun q => absurd q (by omega))
        rw [if_neg (by omega)] at this
        exact this (fun _ => ⟨rfl, rfl⟩)
theorem seen_rng {al : Int → Int} (hT : okT al) (sz : Int) (nm : Int → Int) (p x : Int) : 0 ≤ q_seen al sz nm p x ∧ q_seen al sz nm p x < 64 := by
  have h1 := hT.1
  have := bts_rng (fun k => cdec (soP sz nm (nxA (ua al (30 + p) k) (-1) p) x)) (n := (al 1).toNat) (by omega)
  unfold q_seen
  have hp : (2 : Int) ^ (al 1).toNat ≤ 64 := by
    rcases (show (al 1).toNat = 2 ∨ (al 1).toNat = 3 ∨ (al 1).toNat = 4 ∨ (al 1).toNat = 5 ∨ (al 1).toNat = 6 by omega) with e | e | e | e | e <;> rw [e] <;> decide
  omega
theorem M_probe {v : sF} {t p x n : Int} (hS : St (v 164)) (hi : v 163 18 = -1) (hT : TrR v) : ∃ v', Ev (d + 9) 276 [(2, 163), (0, t), (0, p), (0, x), (0, n)] (c, v) (some (0, q_probe1 v (v 164) t p x n)) (c, v') ∧ QM v v' := by
  have hq := QM.t0 v 0
  have h1 := hS.1.1
  have h2 := hS.1.2.1
  have ea := hq.al
  have hz := tsz_qm hq
  have hs := C_noSeenOf (d := d + 4) (c := c) (v := up v 163 0 0) (t := t) (p := p) (x := x) (hT.qm hq) (by rw [ea]) (by rw [ea]) (by omega) (by omega)
  rw [hz.1, hz.2.1, hz.2.2] at hs
  refine CI_of (loc276 t p x n) (E276_0 t p x n ⟨_, c, _, hs, brbI (fun h => ?_) (fun h => ⟨by unfold q_probe1; rw [if_neg h], _, rfl, hq⟩)⟩)
  have h0 := q_sgt0 h
  refine ⟨_, c, _, C_within _ _ _, bfi (fun q => ?_) (fun q => ⟨by unfold q_probe1; rw [if_pos h, if_neg q], _, rfl, hq⟩)⟩
  obtain ⟨v1, hE, hO⟩ := C_seenSet (d := d) (c := c) (v := up v 163 0 0) (t := t) (p := p) (x := x) (sz := tsz v t) (nm := tnm v t) (by rw [ea]; exact hS.n) (by rw [hq.idle]; exact hi) (by rw [ea]; exact h0.1.2.1) h0.1.1 (hT.x h0.1.1 h0.2.1).2 (TrM.off (TrM.self v t) hq.1 (by decide)) (by rw [ea]; exact h0.1.2.2)
  rw [ea] at hE
  have hqq := hq.tr (oM hO)
  have e1 := hqq.al
  have hsr := seen_rng hS.1 (tsz v t) (tnm v t) p x
  refine ⟨_, c, v1, hE, E276_47 _ _ _ (rngI (by omega) (chkI (inbI (by omega) (by omega)) ?_))⟩
  by_cases q0 : q_seen (v 164) (tsz v t) (tnm v t) p x = 0
  · refine E276_69 _ _ _ _ _ _ _ ?_
    rw [e1]
    refine brbI (fun z => absurd z (by omega)) (fun _ => brbI (fun _ => rngI (by omega) (chkI (inbI (by omega) (by omega)) ⟨by unfold q_probe1; rw [if_pos h, if_pos q, if_pos q0], _, rfl, ?_⟩)) (fun z => absurd q0 z))
    rw [← e1]
    exact hqq.tr (QM.of (S := []) (fun a _ => by
      by_cases ee : a = 164
      · rw [ee, up_ua, ua_id]
      · exact up_off a ee) (by decide))
  · have := pmA_loop (d := d + 2) (c := c) (set := q_seen (v 164) (tsz v t) (tnm v t) p x) (n := n.toNat) (Q := fun r μ => r = some (0, q_probe1 v (v 164) t p x n) ∧ ∃ v', μ = (c, v') ∧ QM v v') v1 (by rw [e1]; exact hS.n) (by rw [hqq.idle]; exact hi) (by rw [e1]; exact h0.1.2.1) (by omega) (by omega) (fun v3 ho => ⟨by unfold q_probe1; rw [if_pos h, if_pos q, if_neg q0, e1], _, rfl, hqq.tr (oM3 ho)⟩) (v1 164 1).toNat 0 v1 (-1) 268435456 (v1 164 (30 + p)) (by rw [e1]; omega) (Off.rf _ _) (by rw [ua_id]) (fun _ => rfl) (fun z => absurd z (by omega))
    rw [show ((n.toNat : Nat) : Int) = n by omega] at this
    exact this
end Tray3
