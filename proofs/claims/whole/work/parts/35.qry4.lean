section Qry4
variable {d c : Nat}
/-- found, hides -/
def bix (f : Int → Int) : Nat → Int
  | 0 => 0
  | n + 1 => if f (bix f n) < f n then (n : Int) else bix f n
theorem bix_s (f : Int → Int) (n : Nat) : bix f (n + 1) = if f (bix f n) < f n then (n : Int) else bix f n := rfl
theorem bix_rng (f : Int → Int) : ∀ n, 0 ≤ bix f n ∧ (bix f n < n ∨ bix f n = 0) := by
  intro n
  induction n with
  | zero => exact ⟨by show (0 : Int) ≤ 0; decide, Or.inr rfl⟩
  | succ n ih => rw [bix_s]; split <;> omega
theorem bix_congr {f g : Int → Int} {N : Nat} (h : ∀ k : Int, 0 ≤ k → k < N → f k = g k) : ∀ n, n ≤ N → 0 < N → bix f n = bix g n := by
  intro n
  induction n with
  | zero => intro _ _; rfl
  | succ n ih =>
    intro hn h0
    have hr := bix_rng g n
    rw [bix_s, bix_s, ih (by omega) h0, h n (by omega) (by omega), h (bix g n) (by omega) (by omega)]
/-- how many places it comes from, one being at k -/
def q_cnt (al : Int → Int) (p k : Int) : Int := bc6 (q_src (ua al (30 + p) k) (-1) p)
theorem bc_rng (x : Int) : 0 ≤ bc6 x ∧ bc6 x ≤ 6 := by unfold bc6; omega
def q_found (al : Int → Int) (p s : Int) : Int := if 0 ≤ p ∧ p < al 2 then bix (fun k => s * q_cnt al p k) (al 1).toNat else -2
theorem src_rng {al : Int → Int} (hT : okT al) (idle p : Int) : 0 ≤ q_src al idle p ∧ q_src al idle p < 64 := by
  have h1 := hT.1
  have := bts_rng (fun k => decide (q_com al idle p k ≠ -1)) (n := (al 1).toNat) (by omega)
  unfold q_src
  have hp : (2 : Int) ^ (al 1).toNat ≤ 64 := by
    rcases (show (al 1).toNat = 2 ∨ (al 1).toNat = 3 ∨ (al 1).toNat = 4 ∨ (al 1).toNat = 5 ∨ (al 1).toNat = 6 by omega) with e | e | e | e | e <;> rw [e] <;> decide
  omega
theorem btb_loop {al : Int → Int} {p s : Int} {Q : sQ} (v0 : sF) (hT : okT al) (hp : 0 ≤ p ∧ p < 6) (hs : s = 1 ∨ s = -1) (hQ : ∀ v, Off scX v0 v → Q (some (0, bix (fun k => s * q_cnt al p k) (al 1).toNat)) (c, v)) : ∀ (m k : Nat) (v : sF) (z y : Int), (k : Int) + m = al 1 → Off scX v0 v → WG v (ua al (30 + p) y) p (-1) (-1) → (k = 0 → z = -7) → (0 < k → z = s * q_cnt al p (bix (fun k => s * q_cnt al p k) k)) → Wp (Ev (d + 4)) 0 (fun _ => 0) 142 Q 21 [(2, 1), (9, 0), (0, s), (0, bix (fun k => s * q_cnt al p k) k), (0, z), (0, (k : Int)), (9, 0)] [] c v := by
  have h1 := hT.1
  intro m
  induction m with
  | zero =>
    intro k v z y hk ho hG hz0 hz
    refine E142_21 _ _ _ _ ?_
    rw [hG.1, ua_n (show (1 : Int) ≠ 30 + p by omega)]
    rw [show (al 1).toNat = k by omega] at hQ
    exact brbI (fun _ => hQ v ho) (fun q => absurd q (by omega))
  | succ m ih =>
    intro k v z y hk ho hG hz0 hz
    have hT2 : okT (ua al (30 + p) y) := okT_cg (sameT_ua (by omega)) hT
    have hG2 := hG.tgt hT2 hp (k : Int)
    rw [ua_ua] at hG2
    have hT3 : okT (ua al (30 + p) k) := okT_cg (sameT_ua (by omega)) hT
    have hE := C_sourceBits (d := d) (c := c) (hG2.n hT3 hp)
    have hE : Ev (d + 4) 101 [(2, 140)] (c, up v 140 3 k) (some (0, q_src (ua al (30 + p) k) (-1) p)) (c, up v 140 3 k) := hE
    have hr := src_rng hT3 (-1) p
    have hb := C_bitCount (d := d + 3) (c := c) (v := up v 140 3 k) hr.1 hr.2
    have hb : Ev (d + 4) 297 [(0, q_src (ua al (30 + p) k) (-1) p)] (c, up v 140 3 k) (some (0, q_cnt al p k)) (c, up v 140 3 k) := hb
    have hc1 := bc_rng (q_src (ua al (30 + p) k) (-1) p)
    have hc1 : 0 ≤ q_cnt al p k ∧ q_cnt al p k ≤ 6 := hc1
    have ihk := fun z => ih (k + 1) _ z (k : Int) (by omega) (ho.up (show (140 : Int) ∈ scX by decide)) hG2 (fun q => absurd q (by omega))
    rw [bix_s] at ihk
    refine E142_21 _ _ _ _ ?_
    rw [hG.1, ua_n (show (1 : Int) ≠ 30 + p by omega)]
    refine brbI (fun q => absurd q (by omega)) (fun _ => ⟨_, c, _, hE, _, c, _, hb, rngI (by rcases hs with rfl | rfl <;> omega) ?_⟩)
    by_cases k0 : k = 0
    · subst k0
      have hz0 := hz0 rfl
      have e0 : bix (fun k => s * q_cnt al p k) 0 = 0 := rfl
      rw [e0] at ihk
      refine brbI (fun q => absurd q (by rcases hs with rfl | rfl <;> omega)) (fun q => rngI (by omega) ?_)
      have := ihk (s * q_cnt al p (0 : Nat))
      rw [if_neg (by exact Int.lt_irrefl _)] at this
      exact this (fun _ => rfl)
    · have hz := hz (by omega)
      subst hz
      refine brbI (fun q => rngI (by omega) ?_) (fun q => rngI (by omega) ?_)
      · have := ihk (s * q_cnt al p (bix (fun k => s * q_cnt al p k) k))
        rw [if_neg (by omega)] at this
        exact this (fun _ => rfl)
      · have := ihk (s * q_cnt al p k)
        rw [if_pos (by omega)] at this
        exact this (fun _ => rfl)
theorem C_bestToBe {v : sF} {al : Int → Int} {p s : Int} (hS : St al) (hR : CR v 13 al) (hp : 0 ≤ p ∧ p < al 2) (hs : s = 1 ∨ s = -1) : ∃ v', Ev (d + 8) 142 [(2, 1), (0, p), (0, s)] (c, v) (some (0, bix (fun k => s * q_cnt al p k) (al 1).toNat)) (c, v') ∧ Off scX v v' := by
  have h1 := hS.1.1
  have h2 := hS.1.2.1
  obtain ⟨v1, hE, hO, hR1, hG, hN, _⟩ := C_aimX (d := d + 1) (c := c) hS hR hp
  refine CI_of (loc142 p s) (E142_0 p s ⟨c, v1, hE, ?_⟩)
  exact btb_loop (d := d + 3) v1 hS.1 (by omega) hs (fun v2 ho => ⟨rfl, _, rfl, (oX hO).tr ho⟩) (al 1).toNat 0 v1 (-7) (al (30 + p)) (by omega) (Off.rf _ _) (by rw [ua_id]; exact hG) (fun _ => rfl) (fun q => absurd q (by omega))
theorem X_found {v : sF} {al : Int → Int} {p : Int} (hS : St al) (hR : CR v 13 al) : ∃ v', Ev (d + 9) 140 [(2, 1), (0, p)] (c, v) (some (0, q_found al p 1)) (c, v') ∧ Off scX v v' := by
  have hw := C_isPersonX (d := d + 7) (c := c) (v := v) (x := p)
  rw [hR.p.2] at hw
  refine CI_of (loc140 p) (E140_0 p ⟨_, c, v, hw, bfz (fun h => ⟨by unfold q_found; rw [if_neg h], _, rfl, Off.rf _ v⟩) (fun h => ?_)⟩)
  obtain ⟨v1, hE, hO⟩ := C_bestToBe (d := d) (c := c) hS hR h (Or.inl rfl)
  exact ⟨_, c, v1, hE, by unfold q_found; rw [if_pos h], _, rfl, hO⟩
theorem X_hides {v : sF} {al : Int → Int} {p : Int} (hS : St al) (hR : CR v 13 al) : ∃ v', Ev (d + 9) 141 [(2, 1), (0, p)] (c, v) (some (0, q_found al p (-1))) (c, v') ∧ Off scX v v' := by
  have hw := C_isPersonX (d := d + 7) (c := c) (v := v) (x := p)
  rw [hR.p.2] at hw
  refine CI_of (loc141 p) (E141_0 p ⟨_, c, v, hw, bfz (fun h => ⟨by unfold q_found; rw [if_neg h], _, rfl, Off.rf _ v⟩) (fun h => ?_)⟩)
  obtain ⟨v1, hE, hO⟩ := C_bestToBe (d := d) (c := c) hS hR h (Or.inr rfl)
  exact ⟨_, c, v1, hE, by unfold q_found; rw [if_pos h], _, rfl, hO⟩
def bo (x : Int) : Nat → Int
  | 0 => 0
  | n + 1 => bo x n + iand (ishr x n) 1
theorem bo_k : ∀ x : Fin 64, bo ((x.val : Nat) : Int) 10 = bc6 ((x.val : Nat) : Int) ∧ ∀ k : Fin 10, 0 ≤ bo ((x.val : Nat) : Int) k.val ∧ bo ((x.val : Nat) : Int) k.val ≤ 10 ∧ (0 ≤ iand (ishr ((x.val : Nat) : Int) ((k.val : Nat) : Int)) 1 ∧ iand (ishr ((x.val : Nat) : Int) ((k.val : Nat) : Int)) 1 ≤ 1) := by decide +kernel
theorem bo_loop {v : sF} {x : Int} {Q : sQ} (hx : 0 ≤ x ∧ x < 64) (hQ : Q (some (0, bc6 x)) (c, v)) : ∀ (m k : Nat), k + m = 10 → Wp (Ev d) 0 (fun _ => 0) 203 Q 4 [(0, x), (0, bo x k), (0, (k : Int))] [] c v := by
  have hk := bo_k ⟨x.toNat, by omega⟩
  dsimp only at hk
  rw [show ((x.toNat : Nat) : Int) = x by omega] at hk
  intro m
  induction m with
  | zero =>
    intro k h
    have h : k = 10 := h
    subst h
    rw [hk.1]
    exact E203_4 _ _ _ (brbI (fun _ => hQ) (fun q => absurd q (by decide)))
  | succ m ih =>
    intro k h
    have ihk := ih (k + 1) (by omega)
    have h2 := hk.2 ⟨k, by omega⟩
    dsimp only at h2
    exact E203_4 _ _ _ (brbI (fun q => absurd q (by omega)) (fun _ => rngI (by omega) (rngI (by omega) ihk)))
theorem C_bitsOf {v : sF} {x : Int} (hx : 0 ≤ x ∧ x < 64) : Ev (d + 1) 203 [(0, x)] (c, v) (some (0, bc6 x)) (c, v) := Ev_of (loc203 x) (E203_0 x (bo_loop hx ⟨rfl, rfl⟩ 10 0 (by omega)))
/-- the model tries other numbers at one place of its row, and puts the old one back -/
def Try (v0 v : sF) (k : Int) : Prop := ∃ y, v 164 = ua (v0 164) k y
theorem lf_loop {p : Int} {Q : sQ} (v0 : sF) (hS : Sn (v0 164)) (hi : v0 163 18 = -1) (hp : 0 ≤ p ∧ p < v0 164 2) (hQ : ∀ v, Off [168, 169, 171, 172] v0 v → (∀ k : Int, 0 ≤ k → k < v0 164 1 → v 172 k = q_cnt (v0 164) p k) → Q none (c, v)) : ∀ (m : Nat) (k : Int) (v : sF) (y : Int), 0 ≤ k → k + m = v0 164 1 → Off [164, 168, 169, 171, 172] v0 v → v 164 = ua (v0 164) (30 + p) y → (∀ j : Int, 0 ≤ j → j < k → v 172 j = q_cnt (v0 164) p j) → Wp (Ev (d + 7)) 0 (fun _ => 0) 268 Q 12 [(2, 163), (0, p), (0, v0 164 (30 + p)), (0, k)] [] c v := by
  have h1 := hS.1.1
  have h2 := hS.1.2.1
  intro m
  induction m with
  | zero =>
    intro k v y k0 hk ho he hj
    refine E268_12 _ _ _ ?_
    rw [he, ua_n (show (1 : Int) ≠ 30 + p by omega)]
    refine brbI (fun _ => rngI (by omega) (chkI (inbI (by omega) (by omega)) (hQ _ (fun a ha => ?_) (fun j j0 j1 => ?_)))) (fun q => absurd q (by omega))
    · by_cases e : a = 164
      · rw [e, up_ua, he, ua_ua, ua_id]
      · rw [up_off a (by omega)]; exact ho a (by simp_all)
    · rw [up_off 172 (by decide)]; exact hj j j0 (by omega)
  | succ m ih =>
    intro k v y k0 hk ho he hj
    have e2 : up v 164 (30 + p) k 164 = ua (v0 164) (30 + p) k := by rw [up_ua, he, ua_ua]
    have hS2 := Sn_at hS (p := p) (x := k) (by omega) (by omega)
    obtain ⟨v1, hE, hO⟩ := C_sourcesOf (d := d) (c := c) (v := up v 164 (30 + p) k) (p := p) (by rw [e2]; exact hS2) (by rw [e2, ua_n (show (2 : Int) ≠ 30 + p by omega)]; exact hp)
    rw [e2, up_ne2 _ (by decide), ho 163 (by decide), hi] at hE
    have hr := src_rng hS2.1 (-1) p
    refine E268_12 _ _ _ ?_
    rw [he, ua_n (show (1 : Int) ≠ 30 + p by omega)]
    refine brbI (fun q => absurd q (by omega)) (fun _ => rngI (by omega) (chkI (inbI (by omega) (by omega)) ⟨_, c, v1, hE, _, c, v1, C_bitsOf hr, chkI (inbI (by omega) (by omega)) (rngI (by omega) (ih (k + 1) _ k (by omega) (by omega) (((ho.up (by decide)).tr (hO.wk (by decide))).up (by decide)) ?_ (fun j j0 j1 => ?_)))⟩))
    · rw [up_off 164 (by decide), hO 164 (by decide), e2]
    · by_cases e : j = k
      · rw [e, up_same]; rfl
      · rw [up_ne _ e, hO 172 (by decide), up_off 172 (by decide)]
        exact hj j j0 (by omega)
theorem C_laysFound {v : sF} {p : Int} (hS : Sn (v 164)) (hi : v 163 18 = -1) (hp : 0 ≤ p ∧ p < v 164 2) : ∃ v', Ev (d + 8) 268 [(2, 163), (0, p)] (c, v) none (c, v') ∧ Off [168, 169, 171, 172] v v' ∧ ∀ k : Int, 0 ≤ k → k < v 164 1 → v' 172 k = q_cnt (v 164) p k := by
  have h1 := hS.1.1
  have h2 := hS.1.2.1
  refine CV_of (loc268 p) (E268_0 p (rngI (by omega) (chkI (inbI (by omega) (by omega)) ?_)))
  exact lf_loop v hS hi hp (fun v2 ho hj => ⟨rfl, _, rfl, ho, hj⟩) (v 164 1).toNat 0 v (v 164 (30 + p)) (by omega) (by omega) (Off.rf _ _) (by rw [ua_id]) (fun j j0 j1 => absurd j0 (by omega))
theorem fdM_loop {v : sF} {al : Int → Int} {p : Int} {Q : sQ} (h1 : 2 ≤ al 1 ∧ al 1 ≤ 6) (e : v 164 = al) (hj : ∀ k : Int, 0 ≤ k → k < al 1 → v 172 k = q_cnt al p k) (hQ : Q (some (0, bix (fun k => 1 * q_cnt al p k) (al 1).toNat)) (c, v)) : ∀ (m k : Nat), (k : Int) + m = al 1 → 1 ≤ k → Wp (Ev d) 0 (fun _ => 0) 269 Q 26 [(2, 163), (9, 0), (0, bix (fun k => 1 * q_cnt al p k) k), (0, (k : Int))] [] c v := by
  intro m
  induction m with
  | zero =>
    intro k hk k1
    refine E269_26 _ _ ?_
    rw [e]
    rw [show (al 1).toNat = k by omega] at hQ
    exact brbI (fun _ => hQ) (fun q => absurd q (by omega))
  | succ m ih =>
    intro k hk k1
    have ihk := ih (k + 1) (by omega) (by omega)
    have hr := bix_rng (fun k => 1 * q_cnt al p k) k
    rw [bix_s] at ihk
    refine E269_26 _ _ ?_
    rw [e, hj k (by omega) (by omega), hj (bix (fun k => 1 * q_cnt al p k) k) hr.1 (by omega)]
    refine brbI (fun q => absurd q (by omega)) (fun _ => chkI (inbI (by omega) (by omega)) (chkI (inbI (by omega) (by omega)) (brbI (fun q => rngI (by omega) ?_) (fun q => rngI (by omega) ?_))))
    · rw [if_neg (by omega)] at ihk; exact ihk
    · rw [if_pos (by omega)] at ihk; exact ihk
theorem hdM_loop {v : sF} {al : Int → Int} {p : Int} {Q : sQ} (h1 : 2 ≤ al 1 ∧ al 1 ≤ 6) (e : v 164 = al) (hj : ∀ k : Int, 0 ≤ k → k < al 1 → v 172 k = q_cnt al p k) (hQ : Q (some (0, bix (fun k => (-1) * q_cnt al p k) (al 1).toNat)) (c, v)) : ∀ (m k : Nat), (k : Int) + m = al 1 → 1 ≤ k → Wp (Ev d) 0 (fun _ => 0) 270 Q 26 [(2, 163), (9, 0), (0, bix (fun k => (-1) * q_cnt al p k) k), (0, (k : Int))] [] c v := by
  intro m
  induction m with
  | zero =>
    intro k hk k1
    refine E270_26 _ _ ?_
    rw [e]
    rw [show (al 1).toNat = k by omega] at hQ
    exact brbI (fun _ => hQ) (fun q => absurd q (by omega))
  | succ m ih =>
    intro k hk k1
    have ihk := ih (k + 1) (by omega) (by omega)
    have hr := bix_rng (fun k => (-1) * q_cnt al p k) k
    rw [bix_s] at ihk
    refine E270_26 _ _ ?_
    rw [e, hj k (by omega) (by omega), hj (bix (fun k => (-1) * q_cnt al p k) k) hr.1 (by omega)]
    refine brbI (fun q => absurd q (by omega)) (fun _ => chkI (inbI (by omega) (by omega)) (chkI (inbI (by omega) (by omega)) (brbI (fun q => rngI (by omega) ?_) (fun q => rngI (by omega) ?_))))
    · rw [if_neg (by omega)] at ihk; exact ihk
    · rw [if_pos (by omega)] at ihk; exact ihk
theorem oM3 {v v' : sF} (h : Off [168, 169, 171, 172] v v') : QM v v' := QM.of h (by decide)
theorem M_found {v : sF} {p : Int} (hS : St (v 164)) (hi : v 163 18 = -1) : ∃ v', Ev (d + 9) 269 [(2, 163), (0, p)] (c, v) (some (0, q_found (v 164) p 1)) (c, v') ∧ QM v v' := by
  have hq := QM.t0 v 0
  have h1 := hS.1.1
  have h2 := hS.1.2.1
  have ea := hq.al
  have hw := C_isPersonM (d := d + 6) (c := c) (v := up v 163 0 0) (x := p) (by rw [ea]; omega)
  rw [ea] at hw
  refine CI_of (loc269 p) (E269_0 p ⟨_, c, _, hw, bfi (fun h => ?_) (fun h => ⟨by unfold q_found; rw [if_neg h], _, rfl, hq⟩)⟩)
  obtain ⟨v1, hE, hO, hj⟩ := C_laysFound (d := d) (c := c) (v := up v 163 0 0) (p := p) (by rw [ea]; exact hS.n) (by rw [hq.idle]; exact hi) (by rw [ea]; exact h)
  rw [ea] at hj
  have e1 : v1 164 = v 164 := (hO 164 (by decide)).trans ea
  have := fdM_loop (d := d + 8) (c := c) (v := v1) (Q := fun r μ => r = some (0, q_found (v 164) p 1) ∧ ∃ v', μ = (c, v') ∧ QM v v') h1 e1 hj ⟨by unfold q_found; rw [if_pos h], _, rfl, hq.tr (oM3 hO)⟩ ((v 164 1).toNat - 1) 1 (by omega) (by omega)
  rw [show bix (fun k => 1 * q_cnt (v 164) p k) 1 = 0 by rw [bix_s, if_neg (by exact Int.lt_irrefl _)]; rfl] at this
  exact ⟨c, v1, hE, this⟩
theorem M_hides {v : sF} {p : Int} (hS : St (v 164)) (hi : v 163 18 = -1) : ∃ v', Ev (d + 9) 270 [(2, 163), (0, p)] (c, v) (some (0, q_found (v 164) p (-1))) (c, v') ∧ QM v v' := by
  have hq := QM.t0 v 0
  have h1 := hS.1.1
  have h2 := hS.1.2.1
  have ea := hq.al
  have hw := C_isPersonM (d := d + 6) (c := c) (v := up v 163 0 0) (x := p) (by rw [ea]; omega)
  rw [ea] at hw
  refine CI_of (loc270 p) (E270_0 p ⟨_, c, _, hw, bfi (fun h => ?_) (fun h => ⟨by unfold q_found; rw [if_neg h], _, rfl, hq⟩)⟩)
  obtain ⟨v1, hE, hO, hj⟩ := C_laysFound (d := d) (c := c) (v := up v 163 0 0) (p := p) (by rw [ea]; exact hS.n) (by rw [hq.idle]; exact hi) (by rw [ea]; exact h)
  rw [ea] at hj
  have e1 : v1 164 = v 164 := (hO 164 (by decide)).trans ea
  have := hdM_loop (d := d + 8) (c := c) (v := v1) (Q := fun r μ => r = some (0, q_found (v 164) p (-1)) ∧ ∃ v', μ = (c, v') ∧ QM v v') h1 e1 hj ⟨by unfold q_found; rw [if_pos h], _, rfl, hq.tr (oM3 hO)⟩ ((v 164 1).toNat - 1) 1 (by omega) (by omega)
  rw [show bix (fun k => (-1) * q_cnt (v 164) p k) 1 = 0 by rw [bix_s, if_neg (by exact Int.lt_irrefl _)]; rfl] at this
  exact ⟨c, v1, hE, this⟩
end Qry4
