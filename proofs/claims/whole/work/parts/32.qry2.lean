section Qry2
variable {d c : Nat}
theorem ior_0 {x : Int} (h : -2147483648 ≤ x ∧ x ≤ 2147483647) : ior x 0 = x := by
  have e : (Int32.ofInt x ||| Int32.ofInt 0) = Int32.ofInt x := by
    rw [show Int32.ofInt 0 = 0 by decide]
    simp
  unfold ior
  rw [e, t32 h]
theorem ior_b {P : Int → Bool} {n : Nat} (hn : n ≤ 10) : ior (bts P n) 0 = bts P n := by
  have h := bts_rng P hn
  have hp : (2 : Int) ^ n ≤ 1024 := by
    rcases (show n = 0 ∨ n = 1 ∨ n = 2 ∨ n = 3 ∨ n = 4 ∨ n = 5 ∨ n = 6 ∨ n = 7 ∨ n = 8 ∨ n = 9 ∨ n = 10 by omega) with rfl | rfl | rfl | rfl | rfl | rfl | rfl | rfl | rfl | rfl | rfl <;> decide
  exact ior_0 (by omega)
/-- hands -/
theorem X_hands {v : sF} {al : Int → Int} {p x : Int} (hS : St al) (hR : CR v 13 al) (X : Int) (hX : ∀ mu la, ((0 ≤ p ∧ p < al 2) ∧ (0 ≤ x ∧ x < al 1)) → Rho (nxA al (-1) p) x (al 1) mu la → X = hnd (nxA al (-1) p) (fun y => sdA al (-1) p y (-1)) x (mu + la)) (hX2 : ¬ ((0 ≤ p ∧ p < al 2) ∧ (0 ≤ x ∧ x < al 1)) → X = -2) : ∃ v', Ev (d + 9) 132 [(2, 1), (0, p), (0, x)] (c, v) (some (0, X)) (c, v') ∧ Off scX v v' := by
  have hw := C_isWayX (d := d + 6) (c := c) (v := v) (x := p) (y := x)
  rw [hR.p.1, hR.p.2] at hw
  refine CI_of (loc132 p x) (E132_0 p x ⟨_, c, v, hw, bfi (fun h => ?_) (fun h => ⟨by rw [hX2 h], _, rfl, Off.rf _ v⟩)⟩)
  obtain ⟨v1, hE, hO, hR1, hG, hN, _⟩ := C_aimX (d := d + 2) (c := c) hS hR h.1
  obtain ⟨mu, la, hr⟩ := rho hN.2.1 h.2
  have hE2 := C_senderBits (d := d + 3) (c := c) (s := fun y => sdA al (-1) p y (-1)) hN (fun y _ _ => sdW_e hG (Or.inl rfl) (fun q q0 => by rw [hG.2.2.2.2.1]; constructor <;> omega) hS.1.2.1.1) h.2 hr
  rw [← hX mu la h hr] at hE2
  exact ⟨c, v1, hE, _, c, v1, hE2, rfl, _, rfl, oX hO⟩
theorem hnd_loopM {g : Int → Int} {p N x : Int} {n : Nat} {Q : sQ} (v0 : sF) (hS : St (v0 164)) (hi : v0 163 18 = -1) (h : MN v0 g N) (hp : 0 ≤ p ∧ p < 6) (hx : 0 ≤ x ∧ x < N) (hn : n ≤ 100) (hQ : ∀ v, Off [168, 169] v0 v → Q (some (0, hnd g (fun y => sdA (v0 164) (-1) p y (-1)) x n)) (c, v)) : ∀ (m k : Nat) (v : sF), k + m = n → Off [168, 169] v0 v → Wp (Ev (d + 4)) 0 (fun _ => 0) 255 Q 50 [(2, 163), (0, p), (9, 0), (0, (n : Int)), (0, hnd g (fun y => sdA (v0 164) (-1) p y (-1)) x k), (0, itf g k x), (0, (k : Int))] [] c v := by
  have hN := h.1.1
  intro m
  induction m with
  | zero =>
    intro k v hk ho
    have hk : k = n := hk
    subst hk
    exact E255_50 _ _ _ _ _ (brbI (fun _ => hQ v ho) (fun q => absurd q (by omega)))
  | succ m ih =>
    intro k v hk ho
    have ihk := ih (k + 1)
    have hy := h.1.it k hx
    rw [hnd_s, itf_succ] at ihk
    have e171 : ∀ {v' : sF}, Off [168, 169] v0 v' → v' 171 (itf g k x) = g (itf g k x) := fun {v'} q => by rw [q 171 (by decide)]; exact h.2 _ hy.1 hy.2
    have e164 : v 164 = v0 164 := ho 164 (by decide)
    have e163 : v 163 = v0 163 := ho 163 (by decide)
    refine E255_50 _ _ _ _ _ (brbI (fun q => absurd q (by omega)) (fun _ => chkI (inbI (by omega) (by omega)) ?_))
    rw [e171 ho]
    refine brbI (fun q => chkI (inbI (by omega) (by omega)) (rngI (by omega) ?_)) (fun q => ?_)
    · rw [if_pos q] at ihk; exact ihk v (by omega) ho
    · rw [if_neg q] at ihk
      obtain ⟨v1, hE, hO⟩ := C_sender (d := d) (c := c) (v := v) (to := p) (place := itf g k x) (but := -1) (by rw [e164]; exact hS.1) (by rw [e164]; exact hS.2.1) hp
      rw [e164, e163, hi] at hE
      refine ⟨_, c, v1, hE, chkI (inbI (by omega) (by omega)) (rngI (by omega) ?_)⟩
      rw [e171 (ho.tr hO)]
      exact ihk v1 (by omega) (ho.tr hO)
theorem M_hands {v : sF} {p x : Int} (hS : St (v 164)) (hi : v 163 18 = -1) (X : Int) (hX : ∀ mu la, ((0 ≤ p ∧ p < v 164 2) ∧ (0 ≤ x ∧ x < v 164 1)) → Rho (nxA (v 164) (-1) p) x (v 164 1) mu la → X = hnd (nxA (v 164) (-1) p) (fun y => sdA (v 164) (-1) p y (-1)) x (mu + la)) (hX2 : ¬ ((0 ≤ p ∧ p < v 164 2) ∧ (0 ≤ x ∧ x < v 164 1)) → X = -2) : ∃ v', Ev (d + 9) 255 [(2, 163), (0, p), (0, x)] (c, v) (some (0, X)) (c, v') ∧ QM v v' := by
  have hq := QM.t0 v 0
  have h1 := hS.1.1
  have h2 := hS.1.2.1
  have ea := hq.al
  have ei := hq.idle
  have hw := C_isWayM (d := d + 5) (c := c) (v := up v 163 0 0) (x := p) (y := x) (by rw [ea]; omega) (by rw [ea]; omega)
  rw [ea] at hw
  refine CI_of (loc255 p x) (E255_0 p x ⟨_, c, _, hw, bfi (fun h => ?_) (fun h => ⟨by rw [hX2 h], _, rfl, hq⟩)⟩)
  obtain ⟨v1, hE, hO, hN⟩ := C_laysM (d := d + 2) (c := c) (v := up v 163 0 0) (p := p) (by rw [ea]; exact hS.n) (by rw [ea]; exact h.1)
  rw [ea, ei, hi] at hN
  have e1 : v1 164 = v 164 := (hO 164 (by decide)).trans ea
  have hqq := hq.tr (oM hO)
  obtain ⟨mu, la, hr⟩ := rho hN.1 h.2
  have hX := hX mu la h hr
  have hb := hr.2.1
  have hNN := hN.1.1
  have hy := hN.1.it mu h.2
  refine ⟨c, v1, hE, _, c, v1, C_tailOf (d := d + 6) hN h.2 hr, _, c, v1, C_lies (d := d + 7) hN h.2 (by omega), _, c, v1, C_lengthOf (d := d + 7) hN hy (hr.shift (Nat.le_refl mu)), rngI (by omega) ?_⟩
  have := hnd_loopM (d := d + 4) (c := c) (n := mu + la) (x := x) (p := p) (Q := fun r μ => r = some (0, X) ∧ ∃ v', μ = (c, v') ∧ QM v v') v1 (by rw [e1]; exact hS) (by rw [hqq.2 18 (by decide)]; exact hi) hN (by omega) h.2 (by omega) (fun v2 ho => ⟨by rw [hX, e1], _, rfl, hqq.tr (oM2 ho)⟩) (mu + la) 0 v1 (by omega) (Off.rf _ _)
  exact this
/-- sources -/
def q_src (al : Int → Int) (idle p : Int) : Int := bts (fun k => decide (q_com al idle p k ≠ -1)) (al 1).toNat
def q_sources (al : Int → Int) (p : Int) : Int := if 0 ≤ p ∧ p < al 2 then q_src al (-1) p else -2
theorem srcM_loop {g : Int → Int} {p N : Int} {Q : sQ} (v : sF) (h : MN v g N) (hN1 : v 164 1 = N) (hp : 0 ≤ p ∧ p < 6) (hQ : Q (some (0, bts (fun k => decide (cmo g (v 164 (30 + p)) N.toNat 0 k ≠ -1)) N.toNat)) (c, v)) : ∀ (m k : Nat), (k : Int) + m = N → Wp (Ev (d + 1)) 0 (fun _ => 0) 256 Q 9 [(2, 163), (0, p), (0, bts (fun k => decide (cmo g (v 164 (30 + p)) N.toNat 0 k ≠ -1)) k), (0, (k : Int))] [] c v := by
  have hN := h.1.1
  intro m
  induction m with
  | zero =>
    intro k hk
    refine E256_9 _ _ _ ?_
    rw [hN1]
    rw [show N.toNat = k by omega] at hQ ⊢
    exact brbI (fun _ => hQ) (fun q => absurd q (by omega))
  | succ m ih =>
    intro k hk
    have ihk := ih (k + 1) (by omega)
    rw [bts_s] at ihk
    refine E256_9 _ _ _ ?_
    rw [hN1]
    refine brbI (fun q => absurd q (by omega)) (fun _ => ⟨_, c, v, C_comesIn h hp ⟨by omega, by omega⟩, brbN (fun q => rngI (by omega) ?_) (fun q => rngI (by omega) ?_)⟩)
    · rw [if_pos (by simp [q])] at ihk; exact ihk
    · rw [if_neg (by simp [q])] at ihk; rw [ior_b (by omega)]; exact ihk
theorem C_sourcesOf {v : sF} {p : Int} (hS : Sn (v 164)) (hp : 0 ≤ p ∧ p < v 164 2) : ∃ v', Ev (d + 7) 256 [(2, 163), (0, p)] (c, v) (some (0, q_src (v 164) (v 163 18) p)) (c, v') ∧ Off [168, 169, 171] v v' := by
  have h1 := hS.1.1
  have h2 := hS.1.2.1
  obtain ⟨v1, hE, hO, hN⟩ := C_laysM (d := d) (c := c) (v := v) hS hp
  have e1 : v1 164 = v 164 := hO 164 (by decide)
  refine CI_of (loc256 p) (E256_0 p ⟨c, v1, hE, ?_⟩)
  refine srcM_loop (d := d + 5) v1 hN (by rw [e1]) (by omega) ⟨?_, _, rfl, hO⟩ (v 164 1).toNat 0 (by omega)
  rw [e1]; rfl
theorem X_sources {v : sF} {al : Int → Int} {p : Int} (hS : St al) (hR : CR v 13 al) : ∃ v', Ev (d + 9) 133 [(2, 1), (0, p)] (c, v) (some (0, q_sources al p)) (c, v') ∧ Off scX v v' := by
  have hw := C_isPersonX (d := d + 7) (c := c) (v := v) (x := p)
  rw [hR.p.2] at hw
  refine CI_of (loc133 p) (E133_0 p ⟨_, c, v, hw, bfi (fun h => ?_) (fun h => ⟨by unfold q_sources; rw [if_neg h], _, rfl, Off.rf _ v⟩)⟩)
  obtain ⟨v1, hE, hO, hR1, hG, hN, _⟩ := C_aimX (d := d + 2) (c := c) hS hR h
  exact ⟨c, v1, hE, _, c, v1, C_sourceBits (d := d + 4) hN, by unfold q_sources; rw [if_pos h]; rfl, _, rfl, oX hO⟩
theorem M_sources {v : sF} {p : Int} (hS : St (v 164)) (hi : v 163 18 = -1) : ∃ v', Ev (d + 9) 257 [(2, 163), (0, p)] (c, v) (some (0, q_sources (v 164) p)) (c, v') ∧ QM v v' := by
  have hq := QM.t0 v 0
  have h2 := hS.1.2.1
  have ea := hq.al
  have hw := C_isPersonM (d := d + 6) (c := c) (v := up v 163 0 0) (x := p) (by rw [ea]; omega)
  rw [ea] at hw
  refine CI_of (loc257 p) (E257_0 p ⟨_, c, _, hw, bfz (fun h => ⟨by unfold q_sources; rw [if_neg h], _, rfl, hq⟩) (fun h => ?_)⟩)
  obtain ⟨v1, hE, hO⟩ := C_sourcesOf (d := d + 1) (c := c) (v := up v 163 0 0) (p := p) (by rw [ea]; exact hS.n) (by rw [ea]; exact h)
  rw [ea, hq.idle, hi] at hE
  exact ⟨_, c, v1, hE, by unfold q_sources; rw [if_pos h], _, rfl, hq.tr (oM hO)⟩
/-- soonest -/
theorem cmo_ge (g : Int → Int) (t : Int) : ∀ (n : Nat) (k x : Int), cmo g t n k x = -1 ∨ (k ≤ cmo g t n k x ∧ cmo g t n k x < k + n) := by
  intro n
  induction n with
  | zero => intro k x; left; rfl
  | succ n ih =>
    intro k x
    unfold cmo
    split
    · right; omega
    · rcases ih (k + 1) (g x) with h | h
      · left; exact h
      · right; omega
theorem com_0 {al : Int → Int} (hT : okT al) (idle p x : Int) : (0 < q_com al idle p x ↔ (x ≠ al (30 + p) ∧ q_com al idle p x ≠ -1)) ∧ q_com al idle p x < 10 := by
  have h1 := hT.1
  unfold q_com
  obtain ⟨n, hn⟩ : ∃ n, (al 1).toNat = n + 1 := ⟨(al 1).toNat - 1, by omega⟩
  rw [hn]
  unfold cmo
  split
  · rename_i h
    simp [h]
  · rename_i h
    have := cmo_ge (nxA al idle p) (al (30 + p)) n (0 + 1) (nxA al idle p x)
    refine ⟨⟨fun q => ⟨h, by omega⟩, fun q => by rcases this with q2 | q2 <;> omega⟩, by omega⟩
def son (f : Int → Int) : Nat → Int × Int
  | 0 => (-1, 268435456)
  | n + 1 => if 0 < f n ∧ f n < (son f n).2 then ((n : Int), f n) else son f n
theorem son_s (f : Int → Int) (n : Nat) : son f (n + 1) = if 0 < f n ∧ f n < (son f n).2 then ((n : Int), f n) else son f n := rfl
theorem son_1 (f : Int → Int) : ∀ n, ((son f n).1 = -1 ∧ (son f n).2 = 268435456) ∨ (0 ≤ (son f n).1) := by
  intro n
  induction n with
  | zero => left; exact ⟨rfl, rfl⟩
  | succ n ih =>
    rw [son_s]
    split
    · right; dsimp only; omega
    · exact ih
def q_soonest (al : Int → Int) (p : Int) : Int := if 0 ≤ p ∧ p < al 2 then (son (q_com al (-1) p) (al 1).toNat).1 else -2
theorem sonX_loop {v : sF} {al : Int → Int} {p : Int} {Q : sQ} (hT : okT al) (h : WN v (nxA al (-1) p) (al 1) (al (30 + p))) (hQ : Q (some (0, (son (q_com al (-1) p) (al 1).toNat).1)) (c, v)) : ∀ (m k : Nat) (z : Int), (k : Int) + m = al 1 → ((son (q_com al (-1) p) k).1 ≠ -1 → z = (son (q_com al (-1) p) k).2) → Wp (Ev (d + 3)) 0 (fun _ => 0) 134 Q 30 [(2, 1), (9, 0), (0, (son (q_com al (-1) p) k).1), (0, z), (0, (k : Int)), (9, 0)] [] c v := by
  have hN := h.2.1.1
  intro m
  induction m with
  | zero =>
    intro k z hk hz
    refine E134_30 _ _ _ ?_
    rw [h.1.2.1]
    rw [show (al 1).toNat = k by omega] at hQ
    exact brbI (fun _ => hQ) (fun q => absurd q (by omega))
  | succ m ih =>
    intro k z hk hz
    have ihk := fun z => ih (k + 1) z (by omega)
    rw [son_s] at ihk
    have h0 := com_0 hT (-1) p (k : Int)
    have hs := son_1 (q_com al (-1) p) k
    have hE := C_dtg (d := d) (c := c) (x := (k : Int)) h ⟨by omega, by omega⟩
    have hE : Ev (d + 3) 97 [(2, 140), (0, (k : Int))] (c, v) (some (0, q_com al (-1) p k)) (c, v) := hE
    generalize son (q_com al (-1) p) k = s at *
    refine E134_30 _ _ _ ?_
    rw [h.1.2.1]
    refine brbI (fun q => absurd q (by omega)) (fun _ => ⟨_, c, v, hE, brbI (fun q => rngI (by omega) ?_) (fun q => brbI (fun q2 => rngI (by omega) ?_) (fun q2 => brbI (fun q3 => rngI (by omega) ?_) (fun q3 => rngI (by omega) ?_)))⟩)
    · have := ihk z; rw [if_neg (by omega)] at this; exact this hz
    · have := ihk (q_com al (-1) p k); rw [if_pos (by omega)] at this; exact this (fun _ => rfl)
    · have := ihk z; rw [if_neg (by have := hz q2; omega)] at this; exact this hz
    · have := ihk (q_com al (-1) p k); rw [if_pos (by have := hz q2; omega)] at this; exact this (fun _ => rfl)
theorem X_soonest {v : sF} {al : Int → Int} {p : Int} (hS : St al) (hR : CR v 13 al) : ∃ v', Ev (d + 9) 134 [(2, 1), (0, p)] (c, v) (some (0, q_soonest al p)) (c, v') ∧ Off scX v v' := by
  have h1 := hS.1.1
  have hw := C_isPersonX (d := d + 7) (c := c) (v := v) (x := p)
  rw [hR.p.2] at hw
  refine CI_of (loc134 p) (E134_0 p ⟨_, c, v, hw, bfi (fun h => ?_) (fun h => ⟨by unfold q_soonest; rw [if_neg h], _, rfl, Off.rf _ v⟩)⟩)
  obtain ⟨v1, hE, hO, hR1, hG, hN, _⟩ := C_aimX (d := d + 2) (c := c) hS hR h
  exact ⟨c, v1, hE, sonX_loop (d := d + 5) hS.1 hN ⟨by unfold q_soonest; rw [if_pos h], _, rfl, oX hO⟩ (al 1).toNat 0 0 (by omega) (fun q => absurd rfl q)⟩
theorem sonM_loop {v : sF} {al : Int → Int} {p : Int} {Q : sQ} (hT : okT al) (h : MN v (nxA al (-1) p) (al 1)) (e : v 164 = al) (hp : 0 ≤ p ∧ p < 6) (hQ : Q (some (0, (son (q_com al (-1) p) (al 1).toNat).1)) (c, v)) : ∀ (m k : Nat), (k : Int) + m = al 1 → Wp (Ev (d + 1)) 0 (fun _ => 0) 258 Q 31 [(2, 163), (0, p), (0, (son (q_com al (-1) p) k).1), (0, (son (q_com al (-1) p) k).2), (0, (k : Int)), (9, 0)] [] c v := by
  have hN := h.1.1
  intro m
  induction m with
  | zero =>
    intro k hk
    refine E258_31 _ _ _ _ ?_
    rw [e]
    rw [show (al 1).toNat = k by omega] at hQ
    exact brbI (fun _ => hQ) (fun q => absurd q (by omega))
  | succ m ih =>
    intro k hk
    have ihk := ih (k + 1) (by omega)
    rw [son_s] at ihk
    have h0 := com_0 hT (-1) p (k : Int)
    have hE := C_comesIn (d := d) (c := c) (x := (k : Int)) h hp ⟨by omega, by omega⟩
    rw [e] at hE
    have hE : Ev (d + 1) 248 [(2, 163), (0, p), (0, (k : Int))] (c, v) (some (0, q_com al (-1) p k)) (c, v) := hE
    generalize son (q_com al (-1) p) k = s at *
    refine E258_31 _ _ _ _ ?_
    rw [e]
    refine brbI (fun q => absurd q (by omega)) (fun _ => rngI (by omega) (chkI (inbI (by omega) (by omega)) (brbN (fun q => ⟨_, c, v, hE, brbI (fun q2 => rngI (by omega) ?_) (fun q2 => brbI (fun q3 => rngI (by omega) ?_) (fun q3 => rngI (by omega) ?_))⟩) (fun q => rngI (by omega) ?_))))
    · rw [if_neg (by omega)] at ihk; exact ihk
    · rw [if_pos (by omega)] at ihk; exact ihk
    · rw [if_neg (by omega)] at ihk; exact ihk
    · rw [if_neg (by omega)] at ihk; exact ihk
theorem M_soonest {v : sF} {p : Int} (hS : St (v 164)) (hi : v 163 18 = -1) : ∃ v', Ev (d + 9) 258 [(2, 163), (0, p)] (c, v) (some (0, q_soonest (v 164) p)) (c, v') ∧ QM v v' := by
  have hq := QM.t0 v 0
  have h1 := hS.1.1
  have h2 := hS.1.2.1
  have ea := hq.al
  have hw := C_isPersonM (d := d + 6) (c := c) (v := up v 163 0 0) (x := p) (by rw [ea]; omega)
  rw [ea] at hw
  refine CI_of (loc258 p) (E258_0 p ⟨_, c, _, hw, bfi (fun h => ?_) (fun h => ⟨by unfold q_soonest; rw [if_neg h], _, rfl, hq⟩)⟩)
  obtain ⟨v1, hE, hO, hN⟩ := C_laysM (d := d + 2) (c := c) (v := up v 163 0 0) (p := p) (by rw [ea]; exact hS.n) (by rw [ea]; exact h)
  rw [ea, hq.idle, hi] at hN
  have e1 : v1 164 = v 164 := (hO 164 (by decide)).trans ea
  exact ⟨c, v1, hE, sonM_loop (d := d + 7) hS.1 hN e1 (by omega) ⟨by unfold q_soonest; rw [if_pos h], _, rfl, hq.tr (oM hO)⟩ (v 164 1).toNat 0 (by omega)⟩
/-- offices -/
def q_off (al : Int → Int) (p : Int) : Int := bts (fun k => decide (k ≠ al (30 + p) ∧ nxA al (-1) p k = k)) (al 1).toNat
def q_offices (al : Int → Int) (p : Int) : Int := if 0 ≤ p ∧ p < al 2 then q_off al p else -2
theorem offX_loop {v : sF} {al : Int → Int} {p : Int} {Q : sQ} (h : WN v (nxA al (-1) p) (al 1) (al (30 + p))) (hQ : Q (some (0, q_off al p)) (c, v)) : ∀ (m k : Nat), (k : Int) + m = al 1 → Wp (Ev (d + 2)) 0 (fun _ => 0) 136 Q 27 [(2, 1), (9, 0), (0, bts (fun k => decide (k ≠ al (30 + p) ∧ nxA al (-1) p k = k)) k), (0, (k : Int))] [] c v := by
  have hN := h.2.1.1
  intro m
  induction m with
  | zero =>
    intro k hk
    refine E136_27 _ _ ?_
    rw [h.1.2.1]
    unfold q_off at hQ
    rw [show (al 1).toNat = k by omega] at hQ
    exact brbI (fun _ => hQ) (fun q => absurd q (by omega))
  | succ m ih =>
    intro k hk
    have ihk := ih (k + 1) (by omega)
    rw [bts_s] at ihk
    refine E136_27 _ _ ?_
    rw [h.1.2.1, h.1.2.2]
    refine brbI (fun q => absurd q (by omega)) (fun _ => brbI (fun q => rngI (by omega) ?_) (fun q => ⟨_, c, v, C_nx h ⟨by omega, by omega⟩, brbN (fun q2 => rngI (by omega) ?_) (fun q2 => rngI (by omega) ?_)⟩))
    · rw [if_neg (by simp [q])] at ihk; exact ihk
    · rw [if_neg (by simp [q2])] at ihk; exact ihk
    · rw [if_pos (by simp [q, q2])] at ihk; exact ihk
theorem X_offices {v : sF} {al : Int → Int} {p : Int} (hS : St al) (hR : CR v 13 al) : ∃ v', Ev (d + 9) 136 [(2, 1), (0, p)] (c, v) (some (0, q_offices al p)) (c, v') ∧ Off scX v v' := by
  have h1 := hS.1.1
  have hw := C_isPersonX (d := d + 7) (c := c) (v := v) (x := p)
  rw [hR.p.2] at hw
  refine CI_of (loc136 p) (E136_0 p ⟨_, c, v, hw, bfi (fun h => ?_) (fun h => ⟨by unfold q_offices; rw [if_neg h], _, rfl, Off.rf _ v⟩)⟩)
  obtain ⟨v1, hE, hO, hR1, hG, hN, _⟩ := C_aimX (d := d + 2) (c := c) hS hR h
  exact ⟨c, v1, hE, offX_loop (d := d + 6) hN ⟨by unfold q_offices; rw [if_pos h], _, rfl, oX hO⟩ (al 1).toNat 0 (by omega)⟩
theorem offM_loop {v : sF} {al : Int → Int} {p : Int} {Q : sQ} (h : MN v (nxA al (-1) p) (al 1)) (e : v 164 = al) (hp : 0 ≤ p ∧ p < 6) (hQ : Q (some (0, q_off al p)) (c, v)) : ∀ (m k : Nat), (k : Int) + m = al 1 → Wp (Ev d) 0 (fun _ => 0) 260 Q 26 [(2, 163), (0, p), (0, bts (fun k => decide (k ≠ al (30 + p) ∧ nxA al (-1) p k = k)) k), (0, (k : Int))] [] c v := by
  have hN := h.1.1
  intro m
  induction m with
  | zero =>
    intro k hk
    refine E260_26 _ _ _ ?_
    rw [e]
    unfold q_off at hQ
    rw [show (al 1).toNat = k by omega] at hQ
    exact brbI (fun _ => hQ) (fun q => absurd q (by omega))
  | succ m ih =>
    intro k hk
    have ihk := ih (k + 1) (by omega)
    rw [bts_s] at ihk
    refine E260_26 _ _ _ ?_
    rw [e, h.2 k (by omega) (by omega), ior_b (by omega)]
    refine brbI (fun q => absurd q (by omega)) (fun _ => chkI (inbI (by omega) (by omega)) (brbN (fun q => rngI (by omega) ?_) (fun q => rngI (by omega) (chkI (inbI (by omega) (by omega)) (brbI (fun q2 => rngI (by omega) ?_) (fun q2 => rngI (by omega) ?_))))))
    · rw [if_neg (by simp [q])] at ihk; exact ihk
    · rw [if_neg (by simp [q2])] at ihk; exact ihk
    · rw [if_pos (by simp [q, q2])] at ihk; exact ihk
theorem M_offices {v : sF} {p : Int} (hS : St (v 164)) (hi : v 163 18 = -1) : ∃ v', Ev (d + 9) 260 [(2, 163), (0, p)] (c, v) (some (0, q_offices (v 164) p)) (c, v') ∧ QM v v' := by
  have hq := QM.t0 v 0
  have h1 := hS.1.1
  have h2 := hS.1.2.1
  have ea := hq.al
  have hw := C_isPersonM (d := d + 6) (c := c) (v := up v 163 0 0) (x := p) (by rw [ea]; omega)
  rw [ea] at hw
  refine CI_of (loc260 p) (E260_0 p ⟨_, c, _, hw, bfi (fun h => ?_) (fun h => ⟨by unfold q_offices; rw [if_neg h], _, rfl, hq⟩)⟩)
  obtain ⟨v1, hE, hO, hN⟩ := C_laysM (d := d + 2) (c := c) (v := up v 163 0 0) (p := p) (by rw [ea]; exact hS.n) (by rw [ea]; exact h)
  rw [ea, hq.idle, hi] at hN
  have e1 : v1 164 = v 164 := (hO 164 (by decide)).trans ea
  exact ⟨c, v1, hE, offM_loop (d := d + 8) hN e1 (by omega) ⟨by unfold q_offices; rw [if_pos h], _, rfl, hq.tr (oM hO)⟩ (v 164 1).toNat 0 (by omega)⟩
end Qry2
