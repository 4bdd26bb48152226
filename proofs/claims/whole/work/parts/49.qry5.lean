section Qry5
variable {d c : Nat}
theorem isG_tb {al : Int → Int} {l : Int} (h : 0 ≤ al 29 ∧ al 29 < 64) (hl : 0 ≤ l ∧ l < 6) : isG al l = tb (al 29) l := by
  unfold isG
  exact (isIn_i h hl).2.2.symm
theorem C_isGiven {v : sF} {al : Int → Int} {l : Int} (e : v 164 = al) (h : 0 ≤ al 29 ∧ al 29 < 64) (hl : 0 ≤ l ∧ l < 6) : Ev (d + 2) 211 [(2, 163), (0, l)] (c, v) (some (0, if isG al l = true then 1 else 0)) (c, v) := by
  refine Ev_of (loc211 l) (E211_0 l ?_)
  rw [e, isG_tb h hl]
  exact ⟨_, c, v, C_isIn h hl, chk01 ⟨rfl, rfl⟩⟩
/-- letters to one -/
def q_lto (al : Int → Int) (p : Int) : Int := bts (fun l => decide (al (84 + l) = p)) (al 28).toNat
theorem ltX_loop {v : sF} {al : Int → Int} {p : Int} {Q : sQ} (hL : okLt al) (hR : NowR v 13 al) (hQ : Q (some (0, q_lto al p)) (c, v)) : ∀ (m k : Nat), (k : Int) + m = al 28 → Wp (Ev d) 0 (fun _ => 0) 34 Q 4 [(2, 13), (0, p), (0, bts (fun l => decide (al (84 + l) = p)) k), (0, (k : Int))] [] c v := by
  have h28 := hL.1
  intro m
  induction m with
  | zero =>
    intro k hk
    refine E34_4 _ _ _ ?_
    rw [hR.2.1]
    unfold q_lto at hQ
    rw [show (al 28).toNat = k by omega] at hQ
    exact brbI (fun _ => hQ) (fun z => absurd z (by omega))
  | succ m ih =>
    intro k hk
    have ihk := ih (k + 1) (by omega)
    rw [bts_s] at ihk
    have e17 : v 17 k = al (84 + (k : Int)) := (hR.2.2.2.2 k (by omega) (by omega)).1
    refine E34_4 _ _ _ ?_
    rw [hR.2.1, e17]
    refine brbI (fun z => absurd z (by omega)) (fun _ => chkI (inbI (by omega) (by omega)) (brbN (fun z => rngI (by omega) ?_) (fun z => rngI (by omega) ?_)))
    · rw [if_neg (by simp [z])] at ihk; exact ihk
    · rw [if_pos (by simp [z])] at ihk; exact ihk
theorem C_lettersToX {v : sF} {al : Int → Int} {p : Int} (hL : okLt al) (hR : NowR v 13 al) : Ev (d + 1) 34 [(2, 13), (0, p)] (c, v) (some (0, q_lto al p)) (c, v) := by
  have h28 := hL.1
  exact Ev_of (loc34 p) (E34_0 p (ltX_loop hL hR ⟨rfl, rfl⟩ (al 28).toNat 0 (by omega)))
set_option maxRecDepth 100000 in
theorem ltM_loop {v : sF} {al : Int → Int} {p : Int} {Q : sQ} (hL : okLt al) (e : v 164 = al) (hQ : Q (some (0, q_lto al p)) (c, v)) : ∀ (m k : Nat), (k : Int) + m = al 28 → Wp (Ev d) 0 (fun _ => 0) 213 Q 4 [(2, 163), (0, p), (0, bts (fun l => decide (al (84 + l) = p)) k), (0, (k : Int))] [] c v := by
  have h28 := hL.1
  intro m
  induction m with
  | zero =>
    intro k hk
    refine E213_4 _ _ _ ?_
    rw [e]
    unfold q_lto at hQ
    rw [show (al 28).toNat = k by omega] at hQ
    exact brbI (fun _ => hQ) (fun z => absurd z (by omega))
  | succ m ih =>
    intro k hk
    have ihk := ih (k + 1) (by omega)
    rw [bts_s] at ihk
    refine E213_4 _ _ _ ?_
    rw [e, ior_b (by omega)]
    refine brbI (fun z => absurd z (by omega)) (fun _ => rngI (by omega) (chkI (inbI (by omega) (by omega)) (brbN (fun z => rngI (by omega) ?_) (fun z => rngI (by omega) ?_))))
    · rw [if_neg (by simp [z])] at ihk; exact ihk
    · rw [if_pos (by simp [z])] at ihk; exact ihk
theorem C_lettersToM {v : sF} {al : Int → Int} {p : Int} (hL : okLt al) (e : v 164 = al) : Ev (d + 1) 213 [(2, 163), (0, p)] (c, v) (some (0, q_lto al p)) (c, v) := by
  have h28 := hL.1
  exact Ev_of (loc213 p) (E213_0 p (ltM_loop hL e ⟨rfl, rfl⟩ (al 28).toNat 0 (by omega)))
def q_person (al : Int → Int) (p w : Int) : Int := if 0 ≤ p ∧ p < al 2 then (if w = 0 then al (30 + p) else if w = 1 then al (9 + p) else if w = 2 then al (15 + p) else if w = 3 then al (36 + p) else if w = 4 then al (21 + p) else if w = 5 then q_lto al p else -2) else -2
theorem X_person {v : sF} {al : Int → Int} {p w : Int} (hS : St al) (hR : CR v 13 al) : ∃ v', Ev (d + 9) 112 [(2, 1), (0, p), (0, w)] (c, v) (some (0, q_person al p w)) (c, v') ∧ Off scX v v' := by
  have h2 := hS.1.2.1
  have hw := C_isPersonX (d := d + 7) (c := c) (v := v) (x := p)
  rw [hR.p.2] at hw
  refine CI_of (loc112 p w) (E112_0 p w ⟨_, c, v, hw, bfi (fun h => ?_) (fun h => ⟨by unfold q_person; rw [if_neg h], _, rfl, Off.rf _ v⟩)⟩)
  have e14 : v 14 p = al (30 + p) := (hR.2.2.2.1 p h.1 (by omega)).1
  have e15 : v 15 p = al (36 + p) := (hR.2.2.2.1 p h.1 (by omega)).2
  have e4 : v 4 p = al (9 + p) := (hR.1.2.2.2.1 p h.1 (by omega)).1
  have e5 : v 5 p = al (15 + p) := (hR.1.2.2.2.1 p h.1 (by omega)).2.1
  have e6 : v 6 p = al (21 + p) := (hR.1.2.2.2.1 p h.1 (by omega)).2.2
  rw [e14, e15, e4, e5, e6]
  unfold q_person
  rw [if_pos h]
  refine brbI (fun z => chkI (inbI (by omega) (by omega)) ⟨by rw [if_pos z], _, rfl, Off.rf _ v⟩) (fun z0 => ?_)
  rw [if_neg z0]
  refine brbI (fun z => chkI (inbI (by omega) (by omega)) ⟨by rw [if_pos z], _, rfl, Off.rf _ v⟩) (fun z1 => ?_)
  rw [if_neg z1]
  refine brbI (fun z => chkI (inbI (by omega) (by omega)) ⟨by rw [if_pos z], _, rfl, Off.rf _ v⟩) (fun z2 => ?_)
  rw [if_neg z2]
  refine brbI (fun z => chkI (inbI (by omega) (by omega)) ⟨by rw [if_pos z], _, rfl, Off.rf _ v⟩) (fun z3 => ?_)
  rw [if_neg z3]
  refine brbI (fun z => chkI (inbI (by omega) (by omega)) ⟨by rw [if_pos z], _, rfl, Off.rf _ v⟩) (fun z4 => ?_)
  rw [if_neg z4]
  refine brbI (fun z => ⟨_, c, v, C_lettersToX hS.2.2 hR.2, by rw [if_pos z], _, rfl, Off.rf _ v⟩) (fun z5 => ⟨by rw [if_neg z5], _, rfl, Off.rf _ v⟩)
theorem M_person {v : sF} {p w : Int} (hS : St (v 164)) : ∃ v', Ev (d + 9) 212 [(2, 163), (0, p), (0, w)] (c, v) (some (0, q_person (v 164) p w)) (c, v') ∧ QM v v' := by
  have hq := QM.t0 v 0
  have h2 := hS.1.2.1
  have ea := hq.al
  have hw := C_isPersonM (d := d + 6) (c := c) (v := up v 163 0 0) (x := p) (by rw [ea]; omega)
  rw [ea] at hw
  refine CI_of (loc212 p w) (E212_0 p w ⟨_, c, _, hw, bfi (fun h => ?_) (fun h => ⟨by unfold q_person; rw [if_neg h], _, rfl, hq⟩)⟩)
  rw [ea]
  unfold q_person
  rw [if_pos h]
  refine brbI (fun z => rngI (by omega) (chkI (inbI (by omega) (by omega)) ⟨by rw [if_pos z], _, rfl, hq⟩)) (fun z0 => ?_)
  rw [if_neg z0]
  refine brbI (fun z => rngI (by omega) (chkI (inbI (by omega) (by omega)) ⟨by rw [if_pos z], _, rfl, hq⟩)) (fun z1 => ?_)
  rw [if_neg z1]
  refine brbI (fun z => rngI (by omega) (chkI (inbI (by omega) (by omega)) ⟨by rw [if_pos z], _, rfl, hq⟩)) (fun z2 => ?_)
  rw [if_neg z2]
  refine brbI (fun z => rngI (by omega) (chkI (inbI (by omega) (by omega)) ⟨by rw [if_pos z], _, rfl, hq⟩)) (fun z3 => ?_)
  rw [if_neg z3]
  refine brbI (fun z => rngI (by omega) (chkI (inbI (by omega) (by omega)) ⟨by rw [if_pos z], _, rfl, hq⟩)) (fun z4 => ?_)
  rw [if_neg z4]
  refine brbI (fun z => ⟨_, c, _, C_lettersToM hS.2.2 ea, by rw [if_pos z], _, rfl, hq⟩) (fun z5 => ⟨by rw [if_neg z5], _, rfl, hq⟩)
def q_cares (al : Int → Int) (p q : Int) : Int := if (0 ≤ p ∧ p < al 2) ∧ (0 ≤ q ∧ q < al 2) then al (42 + 6 * p + q) else -2
theorem X_cares {v : sF} {al : Int → Int} {p q : Int} (hS : St al) (hR : CR v 13 al) : ∃ v', Ev (d + 9) 113 [(2, 1), (0, p), (0, q)] (c, v) (some (0, q_cares al p q)) (c, v') ∧ Off scX v v' := by
  have h2 := hS.1.2.1
  have hw := fun x => C_isPersonX (d := d + 7) (c := c) (v := v) (x := x)
  rw [hR.p.2] at hw
  refine CI_of (loc113 p q) (E113_0 p q ⟨_, c, v, hw p, bfz (fun h => ⟨by unfold q_cares; rw [if_neg (fun z => h z.1)], _, rfl, Off.rf _ v⟩) (fun h => ⟨_, c, v, hw q, bfi (fun h3 => ?_) (fun h3 => ⟨by unfold q_cares; rw [if_neg (fun z => h3 z.2)], _, rfl, Off.rf _ v⟩)⟩)⟩)
  have e16 : v 16 (p * 6 + q) = al (42 + (p * 6 + q)) := hR.2.2.2.2.1 (p * 6 + q) (by omega) (by omega)
  refine rngI (by omega) (rngI (by omega) (chkI (inbI (by omega) (by omega)) ⟨?_, _, rfl, Off.rf _ v⟩))
  unfold q_cares
  rw [if_pos ⟨h, h3⟩, e16, show 42 + (p * 6 + q) = 42 + 6 * p + q by omega]
theorem M_cares {v : sF} {p q : Int} (hS : St (v 164)) : ∃ v', Ev (d + 9) 214 [(2, 163), (0, p), (0, q)] (c, v) (some (0, q_cares (v 164) p q)) (c, v') ∧ QM v v' := by
  have hq := QM.t0 v 0
  have h2 := hS.1.2.1
  have ea := hq.al
  have hw := fun x => C_isPersonM (d := d + 6) (c := c) (v := up v 163 0 0) (x := x) (by rw [ea]; omega)
  rw [ea] at hw
  refine CI_of (loc214 p q) (E214_0 p q ⟨_, c, _, hw p, bfz (fun h => ⟨by unfold q_cares; rw [if_neg (fun z => h z.1)], _, rfl, hq⟩) (fun h => ⟨_, c, _, hw q, bfz (fun h3 => ⟨by unfold q_cares; rw [if_neg (fun z => h3 z.2)], _, rfl, hq⟩) (fun h3 => ⟨_, c, _, C_caresOf (by omega) (by omega), by unfold q_cares; rw [if_pos ⟨h, h3⟩, ea], _, rfl, hq⟩)⟩)⟩)
def q_minds (al : Int → Int) (p q : Int) : Int := if (0 ≤ p ∧ p < al 2) ∧ (0 ≤ q ∧ q < al 2) ∧ p ≠ q then mnA al p q else -99000002
def q_would (al : Int → Int) (p q : Int) : Int := if (0 ≤ p ∧ p < al 2) ∧ (0 ≤ q ∧ q < al 2) ∧ p ≠ q then wlA al p q else -2
theorem X_minds {v : sF} {al : Int → Int} {p q : Int} (hS : St al) (hR : CR v 13 al) : ∃ v', Ev (d + 9) 114 [(2, 1), (0, p), (0, q)] (c, v) (some (0, q_minds al p q)) (c, v') ∧ Off scX v v' := by
  have h2 := hS.1.2.1
  have hw := C_areTwoX (d := d + 6) (c := c) (v := v) (x := p) (y := q)
  rw [hR.p.2] at hw
  refine CI_of (loc114 p q) (E114_0 p q ⟨_, c, v, hw, bfi (fun h => ?_) (fun h => ⟨by unfold q_minds; rw [if_neg h], _, rfl, Off.rf _ v⟩)⟩)
  obtain ⟨v1, hE, hO, hR1, hG, hN, _⟩ := C_aimX (d := d + 2) (c := c) hS hR h.2.1
  refine ⟨c, v1, hE, chkI (inbI (by omega) (by omega)) ⟨?_, _, rfl, oX hO⟩⟩
  unfold q_minds
  rw [if_pos h, ((hG.2.2.2.2.2 p h.1.1 h.1.2 h.2.2).2 (Or.inl rfl)).1]
theorem X_would {v : sF} {al : Int → Int} {p q : Int} (hS : St al) (hR : CR v 13 al) : ∃ v', Ev (d + 9) 115 [(2, 1), (0, p), (0, q)] (c, v) (some (0, q_would al p q)) (c, v') ∧ Off scX v v' := by
  have h1 := hS.1.1
  have h2 := hS.1.2.1
  have hw := C_areTwoX (d := d + 6) (c := c) (v := v) (x := p) (y := q)
  rw [hR.p.2] at hw
  refine CI_of (loc115 p q) (E115_0 p q ⟨_, c, v, hw, bfi (fun h => ?_) (fun h => ⟨by unfold q_would; rw [if_neg h], _, rfl, Off.rf _ v⟩)⟩)
  obtain ⟨v1, hE, hO, hR1, hG, hN, _⟩ := C_aimX (d := d + 2) (c := c) hS hR h.2.1
  have e14 : v1 14 p = al (30 + p) := (hR1.2.2.2.1 p h.1.1 (by omega)).1
  have hat := (hS.2.1.1 p h.1.1 (by omega)).1
  refine ⟨c, v1, hE, ?_⟩
  rw [e14]
  refine rngI (by omega) (chkI (inbI (by omega) (by omega)) (rngI (by omega) (chkI (inbI (by omega) (by omega)) ⟨?_, _, rfl, oX hO⟩)))
  unfold q_would
  rw [if_pos h, ((hG.2.2.2.2.2 p h.1.1 h.1.2 h.2.2).2 (Or.inl rfl)).2]
theorem M_minds {v : sF} {p q : Int} (hS : St (v 164)) : ∃ v', Ev (d + 9) 215 [(2, 163), (0, p), (0, q)] (c, v) (some (0, q_minds (v 164) p q)) (c, v') ∧ QM v v' := by
  have hq := QM.t0 v 0
  have h2 := hS.1.2.1
  have ea := hq.al
  have hw := C_areTwoM (d := d + 5) (c := c) (v := up v 163 0 0) (x := p) (y := q) (by rw [ea]; omega)
  rw [ea] at hw
  refine CI_of (loc215 p q) (E215_0 p q ⟨_, c, _, hw, bfz (fun h => ⟨by unfold q_minds; rw [if_neg h], _, rfl, hq⟩) (fun h => ?_)⟩)
  obtain ⟨v1, hE, hO⟩ := C_mindsOf (d := d + 5) (c := c) (v := up v 163 0 0) (p := p) (q := q) (by rw [ea]; exact hS.1) (by rw [ea]; exact hS.2.1) (by omega) (by omega)
  rw [ea] at hE
  exact ⟨_, c, v1, hE, by unfold q_minds; rw [if_pos h], _, rfl, hq.tr (oM2 hO)⟩
theorem M_would {v : sF} {p q : Int} (hS : St (v 164)) : ∃ v', Ev (d + 9) 216 [(2, 163), (0, p), (0, q)] (c, v) (some (0, q_would (v 164) p q)) (c, v') ∧ QM v v' := by
  have hq := QM.t0 v 0
  have h2 := hS.1.2.1
  have ea := hq.al
  have hw := C_areTwoM (d := d + 5) (c := c) (v := up v 163 0 0) (x := p) (y := q) (by rw [ea]; omega)
  rw [ea] at hw
  refine CI_of (loc216 p q) (E216_0 p q ⟨_, c, _, hw, bfz (fun h => ⟨by unfold q_would; rw [if_neg h], _, rfl, hq⟩) (fun h => ?_)⟩)
  obtain ⟨v1, hE, hO⟩ := C_wouldOf (d := d + 5) (c := c) (v := up v 163 0 0) (p := p) (q := q) (by rw [ea]; exact hS.1) (by rw [ea]; exact hS.2.1) (by omega) (by omega)
  rw [ea] at hE
  exact ⟨_, c, v1, hE, by unfold q_would; rw [if_pos h], _, rfl, hq.tr (oM2 hO)⟩
/-- letter -/
def q_letter (al : Int → Int) (l w : Int) : Int := if 0 ≤ l ∧ l < al 28 then (if w = 0 then al (78 + l) else if w = 1 then al (84 + l) else if w = 2 then (if isG al l = true then 1 else 0) else if w = 3 then (if isG al l = true then al (96 + l) - al (90 + l) else al 27 - al (90 + l)) else if w = 4 then (if isG al l = true then -1 else sdA al (-1) (al (84 + l)) (al (78 + l)) (-1)) else -2) else -2
theorem C_senderOf {v : sF} {al : Int → Int} {l : Int} (hS : St al) (hR : CR v 13 al) (hl : 0 ≤ l ∧ l < al 28) : ∃ v', Ev (d + 8) 117 [(2, 1), (0, l)] (c, v) (some (0, sdA al (-1) (al (84 + l)) (al (78 + l)) (-1))) (c, v') ∧ Off scX v v' := by
  have h2 := hS.1.2.1
  have hL := hS.2.2.1
  have hll := hS.2.2.2.2.2.2 l hl.1 hl.2
  have e17 : v 17 l = al (84 + l) := (hR.2.2.2.2.2 l hl.1 hl.2).1
  have e18 : v 18 l = al (78 + l) := (hR.2.2.2.2.2 l hl.1 hl.2).2.1
  obtain ⟨v1, hE, hO, hW⟩ := C_aimAt (d := d + 2) (c := c) (v := v) (a := 13) (p := al (84 + l)) (only := al (78 + l)) (Or.inl rfl) hS.1 hS.2.1 hR (by omega)
  have hR1 := hR.w (Or.inl rfl) hO
  have hG := hW.g hR1
  have e18' : v1 18 l = al (78 + l) := (hR1.2.2.2.2.2 l hl.1 hl.2).2.1
  have hb := C_bestAt (d := d + 6) (c := c) (v := v1) (place := al (78 + l)) (but := -1) (by rw [hR1.p.2]; exact h2)
  rw [sdW_e hG (Or.inr rfl) (but := -1) (fun q q0 => by omega) h2.1] at hb
  refine CI_of (loc117 l) (E117_0 l ?_)
  rw [e17, e18]
  refine chkI (inbI (by omega) (by omega)) (chkI (inbI (by omega) (by omega)) ⟨c, v1, hE, chkI (inbI (by omega) (by omega)) ?_⟩)
  rw [e18']
  exact ⟨_, c, v1, hb, rfl, _, rfl, oX hO⟩
theorem X_letter {v : sF} {al : Int → Int} {l w : Int} (hS : St al) (hR : CR v 13 al) (hD : al 27 ≤ 1000000) : ∃ v', Ev (d + 9) 116 [(2, 1), (0, l), (0, w)] (c, v) (some (0, q_letter al l w)) (c, v') ∧ Off scX v v' := by
  have hL := hS.2.2.1
  have e4 : v 13 4 = al 28 := hR.2.2.1
  have e3 : v 13 3 = al 27 := hR.2.1
  refine CI_of (loc116 l w) (E116_0 l w ?_)
  rw [e4, e3]
  refine brbI (fun z => ⟨by unfold q_letter; rw [if_neg (by omega)], _, rfl, Off.rf _ v⟩) (fun z => brbI (fun z2 => ?_) (fun z2 => ⟨by unfold q_letter; rw [if_neg (by omega)], _, rfl, Off.rf _ v⟩))
  have hl : 0 ≤ l ∧ l < al 28 := by omega
  have hll := hS.2.2.2.2.2.2 l hl.1 hl.2
  have hr := hR.2.2.2.2.2 l hl.1 hl.2
  have e17 : v 17 l = al (84 + l) := hr.1
  have e18 : v 18 l = al (78 + l) := hr.2.1
  have e19 : v 19 l = al (90 + l) := hr.2.2.1
  have e20 : v 20 l = if isG al l = true then al (96 + l) else -1 := hr.2.2.2
  rw [e17, e18, e19, e20]
  unfold q_letter
  rw [if_pos hl]
  obtain ⟨v1, hE, hO⟩ := C_senderOf (d := d) (c := c) hS hR hl
  by_cases hg : isG al l = true
  · have hg2 := hll.2.2.2.1 hg
    rw [if_pos hg, if_pos hg, if_pos hg, if_pos hg]
    refine chkI (inbI (by omega) (by omega)) (brbI (fun z3 => absurd z3 (by omega)) (fun _ => ?_))
    refine brbI (fun z => chkI (inbI (by omega) (by omega)) ⟨by rw [if_pos z], _, rfl, Off.rf _ v⟩) (fun z0 => ?_)
    rw [if_neg z0]
    refine brbI (fun z => chkI (inbI (by omega) (by omega)) ⟨by rw [if_pos z], _, rfl, Off.rf _ v⟩) (fun z1 => ?_)
    rw [if_neg z1]
    refine brbI (fun z => ⟨by rw [if_pos z], _, rfl, Off.rf _ v⟩) (fun z2 => ?_)
    rw [if_neg z2]
    refine brbI (fun z => chkI (inbI (by omega) (by omega)) (chkI (inbI (by omega) (by omega)) (rngI (by omega) ⟨by rw [if_pos z], _, rfl, Off.rf _ v⟩))) (fun z3 => ?_)
    rw [if_neg z3]
    exact brbI (fun z => ⟨by rw [if_pos z], _, rfl, Off.rf _ v⟩) (fun z4 => ⟨by rw [if_neg z4], _, rfl, Off.rf _ v⟩)
  · rw [if_neg hg, if_neg hg, if_neg hg, if_neg hg]
    refine chkI (inbI (by omega) (by omega)) (brbI (fun _ => ?_) (fun z3 => absurd rfl z3))
    refine brbI (fun z => chkI (inbI (by omega) (by omega)) ⟨by rw [if_pos z], _, rfl, Off.rf _ v⟩) (fun z0 => ?_)
    rw [if_neg z0]
    refine brbI (fun z => chkI (inbI (by omega) (by omega)) ⟨by rw [if_pos z], _, rfl, Off.rf _ v⟩) (fun z1 => ?_)
    rw [if_neg z1]
    refine brbI (fun z => ⟨by rw [if_pos z], _, rfl, Off.rf _ v⟩) (fun z2 => ?_)
    rw [if_neg z2]
    refine brbI (fun z => chkI (inbI (by omega) (by omega)) (rngI (by omega) ⟨by rw [if_pos z], _, rfl, Off.rf _ v⟩)) (fun z3 => ?_)
    rw [if_neg z3]
    exact brbI (fun z => ⟨_, c, v1, hE, by rw [if_pos z], _, rfl, hO⟩) (fun z4 => ⟨by rw [if_neg z4], _, rfl, Off.rf _ v⟩)
theorem M_letter {v : sF} {l w : Int} (hS : St (v 164)) (hi : v 163 18 = -1) (hD : v 164 27 ≤ 1000000) : ∃ v', Ev (d + 9) 217 [(2, 163), (0, l), (0, w)] (c, v) (some (0, q_letter (v 164) l w)) (c, v') ∧ QM v v' := by
  have hq := QM.t0 v 0
  have h2 := hS.1.2.1
  have hL := hS.2.2.1
  have ea := hq.al
  refine CI_of (loc217 l w) (E217_0 l w (rngI (by omega) ⟨_, c, _, C_within _ _ _, bfi (fun h => ?_) (fun h => ⟨by unfold q_letter; rw [if_neg (by omega)], _, rfl, hq⟩)⟩))
  have hl : 0 ≤ l ∧ l < v 164 28 := by omega
  have hll := hS.2.2.2.2.2.2 l hl.1 hl.2
  have hg := C_isGiven (d := d + 6) (c := c) (v := up v 163 0 0) (l := l) ea hS.2.2.2.1 (by omega)
  obtain ⟨v1, hE, hO⟩ := C_sender (d := d + 4) (c := c) (v := up v 163 0 0) (to := v 164 (84 + l)) (place := v 164 (78 + l)) (but := -1) (by rw [ea]; exact hS.1) (by rw [ea]; exact hS.2.1) (by omega)
  rw [ea, hq.idle, hi] at hE
  rw [ea]
  unfold q_letter
  rw [if_pos hl]
  refine brbI (fun z => rngI (by omega) (chkI (inbI (by omega) (by omega)) ⟨by rw [if_pos z], _, rfl, hq⟩)) (fun z0 => ?_)
  rw [if_neg z0]
  refine brbI (fun z => rngI (by omega) (chkI (inbI (by omega) (by omega)) ⟨by rw [if_pos z], _, rfl, hq⟩)) (fun z1 => ?_)
  rw [if_neg z1]
  refine brbI (fun z => ⟨_, c, _, hg, bfz (fun g => ⟨by rw [if_pos z, if_neg g], _, rfl, hq⟩) (fun g => ⟨by rw [if_pos z, if_pos g], _, rfl, hq⟩)⟩) (fun z2 => ?_)
  rw [if_neg z2]
  refine brbI (fun z => ⟨_, c, _, hg, ?_⟩) (fun z3 => ?_)
  · rw [ea]
    refine bfz (fun g => rngI (by omega) (chkI (inbI (by omega) (by omega)) (rngI (by omega) ⟨by rw [if_pos z, if_neg g], _, rfl, hq⟩))) (fun g => ?_)
    have hg2 := hll.2.2.2.1 g
    exact rngI (by omega) (chkI (inbI (by omega) (by omega)) (rngI (by omega) (chkI (inbI (by omega) (by omega)) (rngI (by omega) ⟨by rw [if_pos z, if_pos g], _, rfl, hq⟩))))
  rw [if_neg z3]
  refine brbI (fun z => ⟨_, c, _, hg, ?_⟩) (fun z4 => ⟨by rw [if_neg z4], _, rfl, hq⟩)
  rw [ea]
  exact bfz (fun g => rngI (by omega) (chkI (inbI (by omega) (by omega)) (rngI (by omega) (chkI (inbI (by omega) (by omega)) ⟨_, c, v1, hE, by rw [if_pos z, if_neg g], _, rfl, hq.tr (oM2 hO)⟩)))) (fun g => ⟨by rw [if_pos z, if_pos g], _, rfl, hq⟩)
/-- count -/
theorem bts6 : ∀ b : Fin 64, bts (fun k => tb ((b.val : Nat) : Int) k) 6 = ((b.val : Nat) : Int) := by decide +kernel
theorem bts_ext {P : Int → Bool} {n : Nat} : ∀ m : Nat, (∀ k : Nat, n ≤ k → k < n + m → P k = false) → bts P (n + m) = bts P n := by
  intro m
  induction m with
  | zero => intro _; rfl
  | succ m ih =>
    intro h
    rw [show n + (m + 1) = (n + m) + 1 by omega, bts_s, h (n + m) (by omega) (by omega), if_neg (by decide)]
    exact ih (fun k k0 k1 => h k k0 (by omega))
theorem given_e {al : Int → Int} (hL : okLt al) : bts (fun l => isG al l) (al 28).toNat = al 29 := by
  have h28 := hL.1
  have h29 := hL.2.1
  have e1 : bts (fun l => isG al l) 6 = al 29 := by
    have := bts6 ⟨(al 29).toNat, by omega⟩
    dsimp only at this
    rw [show (((al 29).toNat : Nat) : Int) = al 29 by omega] at this
    rw [← this]
    exact bts_congr (fun k hk => isG_tb h29 (by omega))
  have e2 := bts_ext (P := fun l => isG al l) (n := (al 28).toNat) (6 - (al 28).toNat) (fun k k0 k1 => hL.2.2.2.1 k (by omega) (by omega))
  rw [show (al 28).toNat + (6 - (al 28).toNat) = 6 by omega, e1] at e2
  exact e2.symm
theorem gvX_loop {v : sF} {al : Int → Int} {a : Int} {Q : sQ} (ha : NT a) (hL : okLt al) (hR : NowR v a al) (hQ : Q (some (0, al 29)) (c, v)) : ∀ (m k : Nat), (k : Int) + m = al 28 → Wp (Ev d) 0 (fun _ => 0) 35 Q 4 [(2, a), (0, bts (fun l => isG al l) k), (0, (k : Int))] [] c v := by
  have h28 := hL.1
  intro m
  induction m with
  | zero =>
    intro k hk
    refine E35_4 _ _ _ (cktI (beqI ha.1) ?_)
    rw [hR.2.1]
    have := given_e hL
    rw [show (al 28).toNat = k by omega] at this
    rw [this]
    exact brbI (fun _ => hQ) (fun z => absurd z (by omega))
  | succ m ih =>
    intro k hk
    have ihk := ih (k + 1) (by omega)
    rw [bts_s] at ihk
    have hr := (hR.2.2.2.2 k (by omega) (by omega)).2.2.2
    have hll := hL.2.2.2.2 k (by omega) (by omega)
    refine E35_4 _ _ _ (cktI (beqI ha.1) ?_)
    rw [hR.2.1, hr, ha.2.2.2.2.2.2.2.2]
    refine brbI (fun z => absurd z (by omega)) (fun _ => cktI (beqI ha.1) (cktI (beqI ha.2.2.2.2.2.2.2.1) (chkI (inbI (by omega) (by omega)) ?_)))
    by_cases g : isG al k = true
    · have := hll.2.2.2.1 g
      rw [if_pos g] at ihk ⊢
      exact brbI (fun z => absurd z (by omega)) (fun _ => rngI (by omega) ihk)
    · rw [if_neg g] at ihk ⊢
      exact brbI (fun _ => rngI (by omega) ihk) (fun z => absurd rfl z)
theorem C_givenBits {v : sF} {al : Int → Int} {a : Int} (ha : NT a) (hL : okLt al) (hR : NowR v a al) : Ev (d + 1) 35 [(2, a)] (c, v) (some (0, al 29)) (c, v) := by
  have h28 := hL.1
  exact Ev_of (loc35 a) (E35_0 a (gvX_loop ha hL hR ⟨rfl, rfl⟩ (al 28).toNat 0 (by omega)))
def smA (f : Int → Int) : Nat → Int
  | 0 => 0
  | n + 1 => smA f n + f n
theorem smA_rng {f : Int → Int} : ∀ n : Nat, (∀ k : Int, 0 ≤ k → k < n → 0 ≤ f k ∧ f k ≤ 9) → 0 ≤ smA f n ∧ smA f n ≤ 9 * n := by
  intro n
  induction n with
  | zero => intro _; exact ⟨by show (0 : Int) ≤ 0; decide, by show (0 : Int) ≤ 9 * 0; decide⟩
  | succ n ih => intro h; have h1 := ih (fun k k0 k1 => h k k0 (by omega)); have h2 := h n (by omega) (by omega); show 0 ≤ smA f n + f n ∧ _; show _ ∧ smA f n + f n ≤ _; omega
theorem acX_loop {v : sF} {al : Int → Int} {Q : sQ} (hN : okN al) (hR : NowR v 13 al) (hQ : Q (some (0, smA (fun i => al (42 + i)) 36)) (c, v)) : ∀ (m k : Nat), k + m = 36 → Wp (Ev d) 0 (fun _ => 0) 37 Q 4 [(2, 13), (0, smA (fun i => al (42 + i)) k), (0, (k : Int))] [] c v := by
  intro m
  induction m with
  | zero =>
    intro k hk
    have hk : k = 36 := hk
    subst hk
    exact E37_4 _ _ (brbI (fun _ => hQ) (fun z => absurd z (by decide)))
  | succ m ih =>
    intro k hk
    have ihk := ih (k + 1) (by omega)
    have hs : smA (fun i => al (42 + i)) (k + 1) = smA (fun i => al (42 + i)) k + al (42 + (k : Int)) := rfl
    rw [hs] at ihk
    have hr := smA_rng (f := fun i => al (42 + i)) k (fun j j0 j1 => hN.2 j j0 (by omega))
    have hc := hN.2 k (by omega) (by omega)
    have e : v 16 k = al (42 + (k : Int)) := hR.2.2.2.1 k (by omega) (by omega)
    refine E37_4 _ _ ?_
    rw [e]
    exact brbI (fun z => absurd z (by omega)) (fun _ => chkI (inbI (by omega) (by omega)) (rngI (by omega) (rngI (by omega) ihk)))
theorem C_allCares {v : sF} {al : Int → Int} (hN : okN al) (hR : NowR v 13 al) : Ev (d + 1) 37 [(2, 13)] (c, v) (some (0, smA (fun i => al (42 + i)) 36)) (c, v) := Ev_of loc37 (E37_0 (acX_loop hN hR ⟨rfl, rfl⟩ 36 0 (by omega)))
set_option maxRecDepth 100000 in
theorem acM_loop {v : sF} {al : Int → Int} {Q : sQ} (hN : okN al) (e : v 164 = al) (hQ : Q (some (0, smA (fun i => al (42 + i)) 36)) (c, v)) : ∀ (m k : Nat), k + m = 36 → Wp (Ev d) 0 (fun _ => 0) 295 Q 4 [(2, 163), (0, smA (fun i => al (42 + i)) k), (0, (k : Int))] [] c v := by
  intro m
  induction m with
  | zero =>
    intro k hk
    have hk : k = 36 := hk
    subst hk
    exact E295_4 _ _ (brbI (fun _ => hQ) (fun z => absurd z (by decide)))
  | succ m ih =>
    intro k hk
    have ihk := ih (k + 1) (by omega)
    have hs : smA (fun i => al (42 + i)) (k + 1) = smA (fun i => al (42 + i)) k + al (42 + (k : Int)) := rfl
    rw [hs] at ihk
    have hr := smA_rng (f := fun i => al (42 + i)) k (fun j j0 j1 => hN.2 j j0 (by omega))
    have hc := hN.2 k (by omega) (by omega)
    refine E295_4 _ _ ?_
    rw [e]
    exact brbI (fun z => absurd z (by omega)) (fun _ => rngI (by omega) (chkI (inbI (by omega) (by omega)) (rngI (by omega) (rngI (by omega) ihk))))
theorem C_caresAll {v : sF} {al : Int → Int} (hN : okN al) (e : v 164 = al) : Ev (d + 1) 295 [(2, 163)] (c, v) (some (0, smA (fun i => al (42 + i)) 36)) (c, v) := Ev_of loc295 (E295_0 (acM_loop hN e ⟨rfl, rfl⟩ 36 0 (by omega)))
def q_count (al : Int → Int) (tp w : Int) : Int := if w = 0 then al 1 else if w = 1 then al 2 else if w = 2 then al 28 else if w = 3 then al 29 else if w = 4 then al 27 else if w = 5 then smA (fun i => al (42 + i)) 36 else if w = 6 then al 102 else if w = 7 then tp else if w = 8 then al 0 else -1
theorem X_count {v : sF} {al : Int → Int} {tp w : Int} (hS : St al) (hR : CR v 13 al) (h58 : v 58 2 = al 102) (htp : v 1 1 = tp) : ∃ v', Ev (d + 9) 159 [(2, 1), (0, w)] (c, v) (some (0, q_count al tp w)) (c, v') ∧ Off scX v v' := by
  have e4 : v 13 4 = al 28 := hR.2.2.1
  have e3 : v 13 3 = al 27 := hR.2.1
  have e2 : v 3 2 = al 0 := hR.1.2.2.1
  have hg := C_givenBits (d := d + 7) (c := c) NT_13 hS.2.2 hR.2
  have hc := C_allCares (d := d + 7) (c := c) hS.2.1 hR.2
  refine CI_of (loc159 w) (E159_0 w ?_)
  rw [e4, e3, e2, h58, htp, hR.p.1, hR.p.2]
  unfold q_count
  refine brbI (fun z => ⟨by rw [if_pos z], _, rfl, Off.rf _ v⟩) (fun z0 => ?_)
  rw [if_neg z0]
  refine brbI (fun z => ⟨by rw [if_pos z], _, rfl, Off.rf _ v⟩) (fun z1 => ?_)
  rw [if_neg z1]
  refine brbI (fun z => ⟨by rw [if_pos z], _, rfl, Off.rf _ v⟩) (fun z2 => ?_)
  rw [if_neg z2]
  refine brbI (fun z => ⟨_, c, v, hg, by rw [if_pos z], _, rfl, Off.rf _ v⟩) (fun z3 => ?_)
  rw [if_neg z3]
  refine brbI (fun z => ⟨by rw [if_pos z], _, rfl, Off.rf _ v⟩) (fun z4 => ?_)
  rw [if_neg z4]
  refine brbI (fun z => ⟨_, c, v, hc, by rw [if_pos z], _, rfl, Off.rf _ v⟩) (fun z5 => ?_)
  rw [if_neg z5]
  refine brbI (fun z => ⟨by rw [if_pos z], _, rfl, Off.rf _ v⟩) (fun z6 => ?_)
  rw [if_neg z6]
  refine brbI (fun z => ⟨by rw [if_pos z], _, rfl, Off.rf _ v⟩) (fun z7 => ?_)
  rw [if_neg z7]
  exact brbI (fun z => ⟨by rw [if_pos z], _, rfl, Off.rf _ v⟩) (fun z8 => ⟨by rw [if_neg z8], _, rfl, Off.rf _ v⟩)
theorem M_count {v : sF} {w : Int} (hS : St (v 164)) : ∃ v', Ev (d + 9) 296 [(2, 163), (0, w)] (c, v) (some (0, q_count (v 164) (v 163 5) w)) (c, v') ∧ QM v v' := by
  have hq := QM.t0 v 0
  have hc := C_caresAll (d := d + 7) (c := c) (v := up v 163 0 0) (al := v 164) hS.2.1 hq.al
  refine CI_of (loc296 w) (E296_0 w ?_)
  unfold q_count
  refine brbI (fun z => ⟨by rw [if_pos z], _, rfl, hq⟩) (fun z0 => ?_)
  rw [if_neg z0]
  refine brbI (fun z => ⟨by rw [if_pos z], _, rfl, hq⟩) (fun z1 => ?_)
  rw [if_neg z1]
  refine brbI (fun z => ⟨by rw [if_pos z], _, rfl, hq⟩) (fun z2 => ?_)
  rw [if_neg z2]
  refine brbI (fun z => ⟨by rw [if_pos z], _, rfl, hq⟩) (fun z3 => ?_)
  rw [if_neg z3]
  refine brbI (fun z => ⟨by rw [if_pos z], _, rfl, hq⟩) (fun z4 => ?_)
  rw [if_neg z4]
  refine brbI (fun z => ⟨_, c, _, hc, by rw [if_pos z], _, rfl, hq⟩) (fun z5 => ?_)
  rw [if_neg z5]
  refine brbI (fun z => ⟨by rw [if_pos z], _, rfl, hq⟩) (fun z6 => ?_)
  rw [if_neg z6]
  refine brbI (fun z => ⟨by rw [if_pos z], _, rfl, hq⟩) (fun z7 => ?_)
  rw [if_neg z7]
  exact brbI (fun z => ⟨by rw [if_pos z], _, rfl, hq⟩) (fun z8 => ⟨by rw [if_neg z8], _, rfl, hq⟩)
/-- fault -/
theorem X_fault {v : sF} {w : Int} : ∃ v', Ev (d + 9) 111 [(2, 1), (0, w)] (c, v) (some (0, if w = 0 then v 37 2 else if w = 1 then v 37 3 else -1)) (c, v') ∧ Off scX v v' := by
  refine CI_of (loc111 w) (E111_0 w (brbI (fun z => ⟨by rw [if_pos z], _, rfl, Off.rf _ v⟩) (fun z0 => brbI (fun z => ⟨by rw [if_neg z0, if_pos z], _, rfl, Off.rf _ v⟩) (fun z1 => ⟨by rw [if_neg z0, if_neg z1], _, rfl, Off.rf _ v⟩))))
theorem M_fault {v : sF} {w : Int} : ∃ v', Ev (d + 9) 199 [(2, 163), (0, w)] (c, v) (some (0, if w = 0 then v 163 13 else if w = 1 then v 163 14 else -1)) (c, v') ∧ QM v v' := by
  refine CI_of (loc199 w) (E199_0 w (brbN (fun z0 => brbN (fun z1 => ⟨by rw [if_neg z0, if_neg z1], _, rfl, QM.t0 v 0⟩) (fun z => ⟨by rw [if_neg z0, if_pos z], _, rfl, QM.t0 v 0⟩)) (fun z => ⟨by rw [if_pos z], _, rfl, QM.t0 v 0⟩)))
end Qry5
