section Tray2
variable {d c : Nat}
/-- the trays are the same -/
def TrR (v : sF) : Prop := ∀ t : Int, 0 ≤ t → t < 4 → (v 179 t = -1 ∨ (0 ≤ v 179 t ∧ v 179 t ≤ 3)) ∧ (0 ≤ v 180 t ∧ v 180 t ≤ 40) ∧ v (155 + 2 * t) 0 = (if v 179 t = -1 then 0 else 1) ∧ (v 179 t ≠ -1 → v (155 + 2 * t) 1 = v 179 t ∧ TrX v t (v 180 t) (fun i => v 181 (40 * t + i)))
theorem TrM.self (v : sF) (t : Int) : TrM v t (v 180 t) (fun i => v 181 (40 * t + i)) := ⟨rfl, fun _ _ _ => rfl⟩
noncomputable def q_sgt (so sz : Int) (nm : Int → Int) (N t : Int) (ok : Prop) : Int := cif ((0 ≤ t ∧ t < 4) ∧ ok) (if so = -1 then -6 else if 1 ≤ sz ∧ sz ≤ 12 then cif (∀ i : Int, 0 ≤ i → i < sz → -1 ≤ nm i ∧ nm i < N) 0 (-3) else -4) (-2)
theorem q_sgt0 {so sz : Int} {nm : Int → Int} {N t : Int} {ok : Prop} (h : q_sgt so sz nm N t ok = 0) : ((0 ≤ t ∧ t < 4) ∧ ok) ∧ so ≠ -1 ∧ (1 ≤ sz ∧ sz ≤ 12) := by
  unfold q_sgt at h
  by_cases h1 : (0 ≤ t ∧ t < 4) ∧ ok
  · rw [cif_pos h1] at h
    by_cases h2 : so = -1
    · rw [if_pos h2] at h; omega
    · rw [if_neg h2] at h
      by_cases h3 : 1 ≤ sz ∧ sz ≤ 12
      · exact ⟨h1, h2, h3⟩
      · rw [if_neg h3] at h; omega
  · rw [cif_neg h1] at h; omega
theorem C_isTrayX {v : sF} {x : Int} : Ev (d + 1) 166 [(2, 1), (0, x)] (c, v) (some (0, if 0 ≤ x ∧ x < 4 then 1 else 0)) (c, v) := by
  refine Ev_of (loc166 x) (E166_0 x (brbI (fun h => ⟨by rw [if_neg (by omega)], rfl⟩) (fun h => brbI (fun h2 => ⟨by rw [if_neg (by omega)], rfl⟩) (fun h2 => ⟨by rw [if_pos (by omega)], rfl⟩))))
theorem sc_loop {v : sF} {N t sz : Int} {nm : Int → Int} {Q : sQ} (ht : 0 ≤ t ∧ t < 4) (hz : 0 ≤ sz ∧ sz ≤ 40) (hr : TrX v t sz nm) (hN : v 3 0 = N) (hQ1 : (∀ i : Int, 0 ≤ i → i < sz → -1 ≤ nm i ∧ nm i < N) → Q (some (0, 0)) (c, v)) (hQ0 : ¬ (∀ i : Int, 0 ≤ i → i < sz → -1 ≤ nm i ∧ nm i < N) → Q (some (0, -3)) (c, v)) : ∀ (m : Nat) (k : Int), 0 ≤ k → k + m = sz → (∀ i : Int, 0 ≤ i → i < k → -1 ≤ nm i ∧ nm i < N) → Wp (Ev d) 0 (fun _ => 0) 148 Q 55 [(2, 1), (9, 0), (9, 0), (2, 155 + 2 * t), (0, k)] [] c v := by
  have hty := tr_ty ht
  intro m
  induction m with
  | zero =>
    intro k k0 hk hi
    refine E148_55 _ _ (cktI (beqI hty.1) ?_)
    rw [hr.1]
    exact brbI (fun _ => hQ1 (fun i h h2 => hi i h (by omega))) (fun q => absurd q (by omega))
  | succ m ih =>
    intro k k0 hk hi
    refine E148_55 _ _ (cktI (beqI hty.1) ?_)
    rw [hr.1, hr.2 k k0 (by omega), hty.2.2, hN]
    refine brbI (fun q => absurd q (by omega)) (fun _ => cktI (beqI hty.1) (cktI (beqI hty.2.1) (chkI (inbI (by omega) (by omega)) (blt (fun q => hQ0 (fun z => by have := z k k0 (by omega); omega)) (fun q => cktI (beqI hty.1) (cktI (beqI hty.2.1) (chkI (inbI (by omega) (by omega)) (blt (fun q2 => rngI (by omega) (ih (k + 1) (by omega) (by omega) (fun i i0 i1 => ?_))) (fun q2 => hQ0 (fun z => by have := z k k0 (by omega); omega)))))))))) 
    by_cases e : i = k
    · rw [e]; omega
    · exact hi i i0 (by omega)
theorem C_sightCode0 {v : sF} {N t r : Int} (hT : TrR v) (hN : v 3 0 = N) : Ev (d + 2) 148 [(2, 1), (0, t), (0, r)] (c, v) (some (0, q_sgt (v 179 t) (v 180 t) (fun i => v 181 (40 * t + i)) N t (r ≠ 0))) (c, v) := by
  refine Ev_of (loc148 t r) (E148_0 t r ⟨_, c, v, C_isTrayX, bfz (fun h => ⟨by unfold q_sgt; rw [cif_neg (fun q => h q.1)], rfl⟩) (fun h => brbN (fun h2 => ?_) (fun h2 => ⟨by unfold q_sgt; rw [cif_neg (fun q => q.2 h2)], rfl⟩))⟩)
  have hty := tr_ty h
  have hT := hT t h.1 h.2
  refine chkI (inbI (by omega) (by omega)) (cktI (beqI hty.1) ?_)
  rw [hT.2.2.1]
  by_cases h3 : v 179 t = -1
  · rw [if_pos h3]
    exact brbN (fun q => absurd rfl q) (fun _ => ⟨by unfold q_sgt; rw [cif_pos ⟨h, h2⟩, if_pos h3], rfl⟩)
  · rw [if_neg h3]
    have hr := (hT.2.2.2 h3).2
    rw [hr.1]
    refine brbN (fun _ => cktI (beqI hty.1) (brbI (fun q => ⟨by unfold q_sgt; rw [cif_pos ⟨h, h2⟩, if_neg h3, if_neg (by omega)], rfl⟩) (fun q => cktI (beqI hty.1) (brbI (fun q2 => ?_) (fun q2 => ⟨by unfold q_sgt; rw [cif_pos ⟨h, h2⟩, if_neg h3, if_neg (by omega)], rfl⟩))))) (fun q => absurd q (by decide))
    exact sc_loop h hT.2.1 hr hN (fun z => ⟨by unfold q_sgt; rw [cif_pos ⟨h, h2⟩, if_neg h3, if_pos (by omega), cif_pos z], rfl⟩) (fun z => ⟨by unfold q_sgt; rw [cif_pos ⟨h, h2⟩, if_neg h3, if_pos (by omega), cif_neg z], rfl⟩) (v 180 t).toNat 0 (by omega) (by omega) (fun i q0 q1 => absurd q0 (by omega))
theorem C_noTray {v : sF} {t : Int} : Ev (d + 2) 237 [(2, 163), (0, t)] (c, v) (some (0, if 0 ≤ t ∧ t < 4 then (if v 179 t = -1 then -6 else 0) else -2)) (c, v) := by
  refine Ev_of (loc237 t) (E237_0 t ⟨_, c, v, C_within _ _ _, bfi (fun h => chkI (inbI (by omega) (by omega)) (brbN (fun h2 => ⟨by rw [if_pos (by omega), if_neg h2], rfl⟩) (fun h2 => ⟨by rw [if_pos (by omega), if_pos h2], rfl⟩))) (fun h => ⟨by rw [if_neg (by omega)], rfl⟩)⟩)
theorem ns_loop {v : sF} {N t sz : Int} {nm : Int → Int} {Q : sQ} (ht : 0 ≤ t ∧ t < 4) (hz : 0 ≤ sz ∧ sz ≤ 40) (hr : TrM v t sz nm) (hN : v 164 1 = N) (hN6 : 0 ≤ N ∧ N ≤ 6) (hQ1 : (∀ i : Int, 0 ≤ i → i < sz → -1 ≤ nm i ∧ nm i < N) → Q (some (0, 0)) (c, v)) (hQ0 : ¬ (∀ i : Int, 0 ≤ i → i < sz → -1 ≤ nm i ∧ nm i < N) → Q (some (0, -3)) (c, v)) : ∀ (m : Nat) (k : Int), 0 ≤ k → k + m = sz → (∀ i : Int, 0 ≤ i → i < k → -1 ≤ nm i ∧ nm i < N) → Wp (Ev (d + 2)) 0 (fun _ => 0) 271 Q 34 [(2, 163), (0, t), (9, 0), (0, k)] [] c v := by
  intro m
  induction m with
  | zero =>
    intro k k0 hk hi
    refine E271_34 _ _ (chkI (inbI (by omega) (by omega)) ?_)
    rw [hr.1]
    exact brbI (fun _ => hQ1 (fun i h h2 => hi i h (by omega))) (fun q => absurd q (by omega))
  | succ m ih =>
    intro k k0 hk hi
    refine E271_34 _ _ (chkI (inbI (by omega) (by omega)) ?_)
    rw [hr.1, hr.2 k k0 (by omega)]
    have hp := C_isPlaceM (d := d) (c := c) (v := v) (x := nm k) (by rw [hN]; exact hN6)
    rw [hN] at hp
    have hgo : (-1 ≤ nm k ∧ nm k < N) → ∀ i : Int, 0 ≤ i → i < k + 1 → -1 ≤ nm i ∧ nm i < N := fun q i i0 i1 => by
      by_cases e : i = k
      · rw [e]; exact q
      · exact hi i i0 (by omega)
    refine brbI (fun q => absurd q (by omega)) (fun _ => rngI (by omega) (rngI (by omega) (chkI (inbI (by omega) (by omega)) (beq0 (fun q => rngI (by omega) (ih (k + 1) (by omega) (by omega) (hgo (by omega)))) (fun q => rngI (by omega) (rngI (by omega) (chkI (inbI (by omega) (by omega)) ⟨_, c, v, hp, bfi (fun q2 => rngI (by omega) (ih (k + 1) (by omega) (by omega) (hgo (by omega)))) (fun q2 => hQ0 (fun z => by have := z k k0 (by omega); omega))⟩)))))))
theorem C_noSeen0 {v : sF} {N t : Int} (ok : Prop) (hok : ok) (hT : TrR v) (hN : v 164 1 = N) (hN6 : 0 ≤ N ∧ N ≤ 6) : Ev (d + 3) 271 [(2, 163), (0, t)] (c, v) (some (0, q_sgt (v 179 t) (v 180 t) (fun i => v 181 (40 * t + i)) N t ok)) (c, v) := by
  refine Ev_of (loc271 t) (E271_0 t ⟨_, c, v, C_noTray, ?_⟩)
  by_cases h : 0 ≤ t ∧ t < 4
  · rw [if_pos h]
    have hT := hT t h.1 h.2
    by_cases h3 : v 179 t = -1
    · rw [if_pos h3]
      exact brbI (fun q => absurd q (by decide)) (fun _ => ⟨by unfold q_sgt; rw [cif_pos ⟨h, hok⟩, if_pos h3], rfl⟩)
    · rw [if_neg h3]
      refine brbI (fun _ => chkI (inbI (by omega) (by omega)) ⟨_, c, v, C_within _ _ _, bfi (fun q => ?_) (fun q => ⟨by unfold q_sgt; rw [cif_pos ⟨h, hok⟩, if_neg h3, if_neg q], rfl⟩)⟩) (fun q => absurd rfl q)
      exact ns_loop h hT.2.1 (TrM.self v t) hN hN6 (fun z => ⟨by unfold q_sgt; rw [cif_pos ⟨h, hok⟩, if_neg h3, if_pos q, cif_pos z], rfl⟩) (fun z => ⟨by unfold q_sgt; rw [cif_pos ⟨h, hok⟩, if_neg h3, if_pos q, cif_neg z], rfl⟩) (v 180 t).toNat 0 (by omega) (by omega) (fun i q0 q1 => absurd q0 (by omega))
  · rw [if_neg h]
    exact brbI (fun q => absurd q (by decide)) (fun _ => ⟨by unfold q_sgt; rw [cif_neg (fun q => h q.1)], rfl⟩)
theorem C_noSeenOf0 {v : sF} {N P t p x : Int} (hT : TrR v) (hN : v 164 1 = N) (hP : v 164 2 = P) (hN6 : 0 ≤ N ∧ N ≤ 6) (hP6 : 0 ≤ P ∧ P ≤ 6) : Ev (d + 4) 272 [(2, 163), (0, t), (0, p), (0, x)] (c, v) (some (0, q_sgt (v 179 t) (v 180 t) (fun i => v 181 (40 * t + i)) N t ((0 ≤ p ∧ p < P) ∧ (0 ≤ x ∧ x < N)))) (c, v) := by
  have hw := C_isWayM (d := d) (c := c) (v := v) (x := p) (y := x) (by rw [hN]; exact hN6) (by rw [hP]; exact hP6)
  rw [hN, hP] at hw
  refine Ev_of (loc272 t p x) (E272_0 t p x ⟨_, c, v, C_within _ _ _, bfz (fun h => ⟨by unfold q_sgt; rw [cif_neg (fun q => h (by omega))], rfl⟩) (fun h => ⟨_, c, v, hw, bfi (fun h2 => ⟨_, c, v, C_noSeen0 _ h2 hT hN hN6, rfl, rfl⟩) (fun h2 => ⟨by unfold q_sgt; rw [cif_neg (fun q => h2 q.2)], rfl⟩)⟩)⟩)
theorem sgt_ok {so sz : Int} {nm : Int → Int} {N t : Int} {a b : Prop} (h : a ↔ b) : q_sgt so sz nm N t a = q_sgt so sz nm N t b := by
  rw [propext h]
theorem if_ne0 {C : Prop} [Decidable C] : ((if C then (1 : Int) else 0) ≠ 0) ↔ C := by
  by_cases h : C
  · rw [if_pos h]; simp [h]
  · rw [if_neg h]; simp [h]
/-- what a tray is in the model -/
def tsz (v : sF) (t : Int) : Int := v 180 t
def tnm (v : sF) (t : Int) : Int → Int := fun i => v 181 (40 * t + i)
theorem C_sightCode {v : sF} {N t r : Int} (hT : TrR v) (hN : v 3 0 = N) : Ev (d + 2) 148 [(2, 1), (0, t), (0, r)] (c, v) (some (0, q_sgt (v 179 t) (tsz v t) (tnm v t) N t (r ≠ 0))) (c, v) := C_sightCode0 hT hN
theorem C_noSeen {v : sF} {N t : Int} (ok : Prop) (hok : ok) (hT : TrR v) (hN : v 164 1 = N) (hN6 : 0 ≤ N ∧ N ≤ 6) : Ev (d + 3) 271 [(2, 163), (0, t)] (c, v) (some (0, q_sgt (v 179 t) (tsz v t) (tnm v t) N t ok)) (c, v) := C_noSeen0 ok hok hT hN hN6
theorem C_noSeenOf {v : sF} {N P t p x : Int} (hT : TrR v) (hN : v 164 1 = N) (hP : v 164 2 = P) (hN6 : 0 ≤ N ∧ N ≤ 6) (hP6 : 0 ≤ P ∧ P ≤ 6) : Ev (d + 4) 272 [(2, 163), (0, t), (0, p), (0, x)] (c, v) (some (0, q_sgt (v 179 t) (tsz v t) (tnm v t) N t ((0 ≤ p ∧ p < P) ∧ (0 ≤ x ∧ x < N)))) (c, v) := C_noSeenOf0 hT hN hP hN6 hP6
noncomputable def q_seen1 (v : sF) (al : Int → Int) (t p x : Int) : Int := if q_sgt (v 179 t) (tsz v t) (tnm v t) (al 1) t ((0 ≤ p ∧ p < al 2) ∧ (0 ≤ x ∧ x < al 1)) = 0 then q_seen al (tsz v t) (tnm v t) p x else q_sgt (v 179 t) (tsz v t) (tnm v t) (al 1) t ((0 ≤ p ∧ p < al 2) ∧ (0 ≤ x ∧ x < al 1))
theorem TrR.x {v : sF} (h : TrR v) {t : Int} (ht : 0 ≤ t ∧ t < 4) (h3 : v 179 t ≠ -1) : TrX v t (tsz v t) (tnm v t) ∧ (0 ≤ tsz v t ∧ tsz v t ≤ 40) := ⟨((h t ht.1 ht.2).2.2.2 h3).2, (h t ht.1 ht.2).2.1⟩
theorem X_seen {v : sF} {al : Int → Int} {t p x : Int} (hS : St al) (hR : CR v 13 al) (hT : TrR v) : ∃ v', Ev (d + 9) 143 [(2, 1), (0, t), (0, p), (0, x)] (c, v) (some (0, q_seen1 v al t p x)) (c, v') ∧ Off scX v v' := by
  have h6 := hS.1.2.1
  have hw := C_isWayX (d := d + 6) (c := c) (v := v) (x := p) (y := x)
  have hs := C_sightCode (d := d + 6) (c := c) (v := v) (t := t) (r := if (0 ≤ p ∧ p < v 3 1) ∧ (0 ≤ x ∧ x < v 3 0) then 1 else 0) hT hR.p.1
  rw [sgt_ok if_ne0, hR.p.1, hR.p.2] at hs
  rw [hR.p.1, hR.p.2] at hw
  refine CI_of (loc143 t p x) (E143_0 t p x ⟨_, c, v, hw, _, c, v, hs, brbI (fun h => ?_) (fun h => ⟨by unfold q_seen1; rw [if_neg h], _, rfl, Off.rf _ v⟩)⟩)
  have h0 := q_sgt0 h
  obtain ⟨v1, hE, hO, hR1, hG, hN, _⟩ := C_aimX (d := d + 2) (c := c) hS hR h0.1.2.1
  have htx := hT.x h0.1.1 h0.2.1
  obtain ⟨v2, hE2, hO2, _⟩ := C_targetBits (d := d + 4) (c := c) (v := v1) (al := al) (p := p) (x := x) hS.1 (by omega) h0.1.1 htx.2 (htx.1.off h0.1.1 hO (by decide)) h0.1.2.2 hG
  exact ⟨c, v1, hE, chkI (inbI (by omega) (by omega)) ⟨_, c, v2, hE2, by unfold q_seen1; rw [if_pos h], _, rfl, (oX hO).tr (hO2.wk (by decide))⟩⟩
theorem TrR.qm {v v' : sF} (h : TrR v) (hq : QM v v') : TrR v' := by
  intro t h0 h1
  have e : ∀ a : Int, (155 ≤ a ∧ a ≤ 162) ∨ (179 ≤ a ∧ a ≤ 181) → v' a = v a := fun a ha => hq.1 a (by unfold scM; simp only [List.mem_cons, List.not_mem_nil, or_false]; omega)
  unfold TrX
  rw [e 179 (by omega), e 180 (by omega), e 181 (by omega), e (155 + 2 * t) (by omega), e (155 + 2 * t + 1) (by omega)]
  exact h t h0 h1
theorem tsz_qm {v v' : sF} (hq : QM v v') : v' 179 = v 179 ∧ tsz v' = tsz v ∧ tnm v' = tnm v := by
  have e9 : v' 179 = v 179 := hq.1 179 (by decide)
  have e0 : v' 180 = v 180 := hq.1 180 (by decide)
  have e1 : v' 181 = v 181 := hq.1 181 (by decide)
  refine ⟨e9, ?_, ?_⟩
  · unfold tsz; rw [e0]
  · unfold tnm; rw [e1]
theorem M_seen {v : sF} {t p x : Int} (hS : St (v 164)) (hi : v 163 18 = -1) (hT : TrR v) : ∃ v', Ev (d + 9) 275 [(2, 163), (0, t), (0, p), (0, x)] (c, v) (some (0, q_seen1 v (v 164) t p x)) (c, v') ∧ QM v v' := by
  have hq := QM.t0 v 0
  have h1 := hS.1.1
  have h2 := hS.1.2.1
  have ea := hq.al
  have hz := tsz_qm hq
  have hs := C_noSeenOf (d := d + 4) (c := c) (v := up v 163 0 0) (t := t) (p := p) (x := x) (hT.qm hq) (by rw [ea]) (by rw [ea]) (by omega) (by omega)
  have hs : Ev (d + 8) 272 [(2, 163), (0, t), (0, p), (0, x)] (c, up v 163 0 0) (some (0, q_sgt (up v 163 0 0 179 t) (tsz (up v 163 0 0) t) (tnm (up v 163 0 0) t) (v 164 1) t ((0 ≤ p ∧ p < v 164 2) ∧ (0 ≤ x ∧ x < v 164 1)))) (c, up v 163 0 0) := hs
  rw [hz.1, hz.2.1, hz.2.2] at hs
  refine CI_of (loc275 t p x) (E275_0 t p x ⟨_, c, _, hs, brbI (fun h => ?_) (fun h => ⟨by unfold q_seen1; rw [if_neg h], _, rfl, hq⟩)⟩)
  have h0 := q_sgt0 h
  obtain ⟨v1, hE, hO⟩ := C_seenSet (d := d) (c := c) (v := up v 163 0 0) (t := t) (p := p) (x := x) (sz := tsz v t) (nm := tnm v t) (by rw [ea]; exact hS.n) (by rw [hq.idle]; exact hi) (by rw [ea]; exact h0.1.2.1) h0.1.1 (hT.x h0.1.1 h0.2.1).2 (TrM.off (TrM.self v t) hq.1 (by decide)) (by rw [ea]; exact h0.1.2.2)
  rw [ea] at hE
  exact ⟨_, c, v1, hE, by unfold q_seen1; rw [if_pos h], _, rfl, hq.tr (oM hO)⟩
/-- heart -/
noncomputable def q_heart1 (v : sF) (al : Int → Int) (t p x q : Int) : Int := if q_sgt (v 179 t) (tsz v t) (tnm v t) (al 1) t (((0 ≤ p ∧ p < al 2) ∧ (0 ≤ q ∧ q < al 2) ∧ p ≠ q) ∧ (0 ≤ x ∧ x < al 1)) = 0 then q_heart al (tsz v t) (tnm v t) p x q else q_sgt (v 179 t) (tsz v t) (tnm v t) (al 1) t (((0 ≤ p ∧ p < al 2) ∧ (0 ≤ q ∧ q < al 2) ∧ p ≠ q) ∧ (0 ≤ x ∧ x < al 1))
theorem X_heart {v : sF} {al : Int → Int} {t p x q : Int} (hS : St al) (hR : CR v 13 al) (hT : TrR v) : ∃ v', Ev (d + 9) 146 [(2, 1), (0, t), (0, p), (0, x), (0, q)] (c, v) (some (0, q_heart1 v al t p x q)) (c, v') ∧ Off scX v v' := by
  have h6 := hS.1.2.1
  have hw := C_areTwoX (d := d + 6) (c := c) (v := v) (x := p) (y := q)
  have hpl := C_isPlaceX (d := d + 7) (c := c) (v := v) (x := x)
  have hs0 := C_sightCode (d := d + 6) (c := c) (v := v) (t := t) (r := 0) hT hR.p.1
  have hs1 := C_sightCode (d := d + 6) (c := c) (v := v) (t := t) (r := 1) hT hR.p.1
  rw [hR.p.1] at hpl
  rw [hR.p.2] at hw
  have hno : ¬ (((0 ≤ p ∧ p < al 2) ∧ (0 ≤ q ∧ q < al 2) ∧ p ≠ q) ∧ (0 ≤ x ∧ x < al 1)) → ∀ r : Int, r = 0 → q_sgt (v 179 t) (tsz v t) (tnm v t) (al 1) t (r ≠ 0) = q_sgt (v 179 t) (tsz v t) (tnm v t) (al 1) t (((0 ≤ p ∧ p < al 2) ∧ (0 ≤ q ∧ q < al 2) ∧ p ≠ q) ∧ (0 ≤ x ∧ x < al 1)) := fun hh r hr => sgt_ok ⟨fun z => absurd hr z, fun z => absurd z hh⟩
  refine CI_of (loc146 t p x q) (E146_0 t p x q ⟨_, c, v, hw, bfz (fun h => ⟨_, c, v, hs0, ?_⟩) (fun h => ⟨_, c, v, hpl, bfz (fun h2 => ⟨_, c, v, hs0, ?_⟩) (fun h2 => ⟨_, c, v, hs1, ?_⟩)⟩)⟩)
  · rw [hno (fun z => h z.1) 0 rfl]
    refine brbI (fun z => absurd (q_sgt0 z).1.2.1 h) (fun z => ⟨by unfold q_heart1; rw [if_neg z], _, rfl, Off.rf _ v⟩)
  · rw [hno (fun z => h2 z.2) 0 rfl]
    refine brbI (fun z => absurd (q_sgt0 z).1.2.2 h2) (fun z => ⟨by unfold q_heart1; rw [if_neg z], _, rfl, Off.rf _ v⟩)
  · have he : q_sgt (v 179 t) (tsz v t) (tnm v t) (al 1) t ((1 : Int) ≠ 0) = q_sgt (v 179 t) (tsz v t) (tnm v t) (al 1) t (((0 ≤ p ∧ p < al 2) ∧ (0 ≤ q ∧ q < al 2) ∧ p ≠ q) ∧ (0 ≤ x ∧ x < al 1)) := sgt_ok ⟨fun _ => ⟨h, h2⟩, fun _ => by decide⟩
    rw [he]
    refine brbI (fun z => ?_) (fun z => ⟨by unfold q_heart1; rw [if_neg z], _, rfl, Off.rf _ v⟩)
    have h0 := q_sgt0 z
    obtain ⟨v1, hE, hO, hR1, hG, hN, h13⟩ := C_aimX (d := d + 2) (c := c) hS hR h.1
    have htx := hT.x h0.1.1 h0.2.1
    obtain ⟨v2, hE2, hO2, _⟩ := C_careBits (d := d + 3) (c := c) (v := v1) (al := al) (p := p) (q := q) (x := x) hS.n (by omega) h.2.1 (fun z => h.2.2 z.symm) h0.1.1 htx.2 (htx.1.off h0.1.1 hO (by decide)) h2 hR1 h13 hG
    exact ⟨c, v1, hE, chkI (inbI (by omega) (by omega)) ⟨_, c, v2, hE2, by unfold q_heart1; rw [if_pos z], _, rfl, (oX hO).tr (oX hO2)⟩⟩
theorem M_heart {v : sF} {t p x q : Int} (hS : St (v 164)) (hi : v 163 18 = -1) (hT : TrR v) : ∃ v', Ev (d + 9) 278 [(2, 163), (0, t), (0, p), (0, x), (0, q)] (c, v) (some (0, q_heart1 v (v 164) t p x q)) (c, v') ∧ QM v v' := by
  have hq := QM.t0 v 0
  have h1 := hS.1.1
  have h2 := hS.1.2.1
  have ea := hq.al
  have hz := tsz_qm hq
  have hw := C_areTwoM (d := d + 5) (c := c) (v := up v 163 0 0) (x := p) (y := q) (by rw [ea]; omega)
  have hpl := C_isPlaceM (d := d + 6) (c := c) (v := up v 163 0 0) (x := x) (by rw [ea]; omega)
  rw [ea] at hw hpl
  have hbad : ¬ ((0 ≤ t ∧ t < 4) ∧ ((0 ≤ p ∧ p < v 164 2) ∧ (0 ≤ q ∧ q < v 164 2) ∧ p ≠ q) ∧ (0 ≤ x ∧ x < v 164 1)) → q_heart1 v (v 164) t p x q = -2 := fun hh => by
    unfold q_heart1 q_sgt
    rw [cif_neg hh, if_neg (by decide)]
  refine CI_of (loc278 t p x q) (E278_0 t p x q ⟨_, c, _, C_within _ _ _, bfz (fun h => ⟨by rw [hbad (fun z => h (by omega))], _, rfl, hq⟩) (fun h => ⟨_, c, _, hw, bfz (fun h3 => ⟨by rw [hbad (fun z => h3 z.2.1)], _, rfl, hq⟩) (fun h3 => ⟨_, c, _, hpl, bfi (fun h4 => ?_) (fun h4 => ⟨by rw [hbad (fun z => h4 z.2.2)], _, rfl, hq⟩)⟩)⟩)⟩)
  have hs := C_noSeen (d := d + 5) (c := c) (v := up v 163 0 0) (t := t) (((0 ≤ p ∧ p < v 164 2) ∧ (0 ≤ q ∧ q < v 164 2) ∧ p ≠ q) ∧ (0 ≤ x ∧ x < v 164 1)) ⟨h3, h4⟩ (hT.qm hq) (by rw [ea]) (by omega)
  have hs : Ev (d + 8) 271 [(2, 163), (0, t)] (c, up v 163 0 0) (some (0, q_sgt (up v 163 0 0 179 t) (tsz (up v 163 0 0) t) (tnm (up v 163 0 0) t) (v 164 1) t (((0 ≤ p ∧ p < v 164 2) ∧ (0 ≤ q ∧ q < v 164 2) ∧ p ≠ q) ∧ (0 ≤ x ∧ x < v 164 1)))) (c, up v 163 0 0) := hs
  rw [hz.1, hz.2.1, hz.2.2] at hs
  refine ⟨_, c, _, hs, brbI (fun z => ?_) (fun z => ⟨by unfold q_heart1; rw [if_neg z], _, rfl, hq⟩)⟩
  have h0 := q_sgt0 z
  obtain ⟨v1, hE, hO⟩ := C_heartOf (d := d) (c := c) (v := up v 163 0 0) (t := t) (p := p) (x := x) (q := q) (sz := tsz v t) (nm := tnm v t) (by rw [ea]; exact hS.n) (by rw [hq.idle]; exact hi) (by rw [ea]; exact h3.1) (by rw [ea]; exact h3.2.1) h0.1.1 (hT.x h0.1.1 h0.2.1).2 (TrM.off (TrM.self v t) hq.1 (by decide)) (by rw [ea]; exact h4)
  rw [ea] at hE
  exact ⟨_, c, v1, hE, by unfold q_heart1; rw [if_pos z], _, rfl, hq.tr (oM hO)⟩
/-- suspects -/
noncomputable def q_sus (al : Int → Int) (sz : Int) (nm : Int → Int) (p x : Int) : Int := cif (soP sz nm (nxA al (-1) p) x) 0 (bts (fun q => decide (q ≠ p ∧ q_heart al sz nm p x q ≠ 0)) (al 2).toNat)
noncomputable def q_sus1 (v : sF) (al : Int → Int) (t p x : Int) : Int := if q_sgt (v 179 t) (tsz v t) (tnm v t) (al 1) t ((0 ≤ p ∧ p < al 2) ∧ (0 ≤ x ∧ x < al 1)) = 0 then q_sus al (tsz v t) (tnm v t) p x else q_sgt (v 179 t) (tsz v t) (tnm v t) (al 1) t ((0 ≤ p ∧ p < al 2) ∧ (0 ≤ x ∧ x < al 1))
theorem susX_loop {al : Int → Int} {p t sz x : Int} {nm : Int → Int} {Q : sQ} (v0 : sF) (hS : Sn al) (hp : 0 ≤ p ∧ p < 6) (ht : 0 ≤ t ∧ t < 4) (hz : 0 ≤ sz ∧ sz ≤ 40) (hr : TrX v0 t sz nm) (hx : 0 ≤ x ∧ x < al 1) (hR : CR v0 13 al) (h13 : v0 140 1 = 13) (hQ : ∀ v, Off cW v0 v → Q (some (0, bts (fun q => decide (q ≠ p ∧ q_heart al sz nm p x q ≠ 0)) (al 2).toNat)) (c, v)) : ∀ (m k : Nat) (v : sF), (k : Int) + m = al 2 → Off cW v0 v → v 140 = v0 140 → WG v al p (-1) (-1) → Wp (Ev (d + 5)) 0 (fun _ => 0) 147 Q 58 [(2, 1), (0, t), (0, p), (0, x), (9, 0), (0, bts (fun q => decide (q ≠ p ∧ q_heart al sz nm p x q ≠ 0)) k), (0, (k : Int))] [] c v := by
  have h2 := hS.1.2.1
  intro m
  induction m with
  | zero =>
    intro k v hk ho h140 hG
    refine E147_58 _ _ _ _ _ ?_
    rw [hG.2.1]
    rw [show (al 2).toNat = k by omega] at hQ
    exact brbI (fun _ => hQ v ho) (fun q => absurd q (by omega))
  | succ m ih =>
    intro k v hk ho h140 hG
    have ihk := ih (k + 1)
    rw [bts_s] at ihk
    refine E147_58 _ _ _ _ _ ?_
    rw [hG.2.1]
    refine brbI (fun q => absurd q (by omega)) (fun _ => brbI (fun q => rngI (by omega) ?_) (fun q => chkI (inbI (by omega) (by omega)) ?_))
    · rw [if_neg (by simp [q])] at ihk; exact ihk v (by omega) ho h140 hG
    · obtain ⟨v1, hE, hO, h141, hG1⟩ := C_careBits (d := d) (c := c) (v := v) (q := (k : Int)) hS hp (by omega) q ht hz (hr.off ht ho (by decide)) hx (hR.w (Or.inl rfl) ho) (by rw [h140]; exact h13) hG
      refine ⟨_, c, v1, hE, brbI (fun q2 => rngI (by omega) ?_) (fun q2 => rngI (by omega) ?_)⟩
      · rw [if_neg (by simp [q2])] at ihk; exact ihk v1 (by omega) (ho.tr hO) (h141.trans h140) hG1
      · rw [if_pos (by simp [q, q2])] at ihk; exact ihk v1 (by omega) (ho.tr hO) (h141.trans h140) hG1
theorem X_suspects {v : sF} {al : Int → Int} {t p x : Int} (hS : St al) (hR : CR v 13 al) (hT : TrR v) : ∃ v', Ev (d + 9) 147 [(2, 1), (0, t), (0, p), (0, x)] (c, v) (some (0, q_sus1 v al t p x)) (c, v') ∧ Off scX v v' := by
  have h6 := hS.1.2.1
  have hw := C_isWayX (d := d + 6) (c := c) (v := v) (x := p) (y := x)
  have hs := C_sightCode (d := d + 6) (c := c) (v := v) (t := t) (r := if (0 ≤ p ∧ p < v 3 1) ∧ (0 ≤ x ∧ x < v 3 0) then 1 else 0) hT hR.p.1
  rw [sgt_ok if_ne0, hR.p.1, hR.p.2] at hs
  rw [hR.p.1, hR.p.2] at hw
  refine CI_of (loc147 t p x) (E147_0 t p x ⟨_, c, v, hw, _, c, v, hs, brbI (fun h => ?_) (fun h => ⟨by unfold q_sus1; rw [if_neg h], _, rfl, Off.rf _ v⟩)⟩)
  have h0 := q_sgt0 h
  obtain ⟨v1, hE, hO, hR1, hG, hN, h13⟩ := C_aimX (d := d + 2) (c := c) hS hR h0.1.2.1
  have htx := hT.x h0.1.1 h0.2.1
  have htx1 := htx.1.off h0.1.1 hO (by decide)
  have hE2 := C_goesAs (d := d + 5) (c := c) hN h0.1.1 htx.2 htx1 h0.1.2.2
  refine ⟨c, v1, hE, chkI (inbI (by omega) (by omega)) ⟨_, c, v1, hE2, bcf (fun q => ?_) (fun q => ⟨by unfold q_sus1 q_sus; rw [if_pos h, cif_pos q], _, rfl, oX hO⟩)⟩⟩
  exact susX_loop (d := d + 3) v1 hS.n (by omega) h0.1.1 htx.2 htx1 h0.1.2.2 hR1 h13 (fun v2 ho => ⟨by unfold q_sus1 q_sus; rw [if_pos h, cif_neg q], _, rfl, oX (hO.tr ho)⟩) (al 2).toNat 0 v1 (by omega) (Off.rf _ _) rfl hG
theorem susM_loop {p t sz x : Int} {nm : Int → Int} {Q : sQ} (v0 : sF) (hS : Sn (v0 164)) (hi : v0 163 18 = -1) (hp : 0 ≤ p ∧ p < v0 164 2) (ht : 0 ≤ t ∧ t < 4) (hz : 0 ≤ sz ∧ sz ≤ 40) (hr : TrM v0 t sz nm) (hx : 0 ≤ x ∧ x < v0 164 1) (hQ : ∀ v, Off [168, 169, 171] v0 v → Q (some (0, bts (fun q => decide (q ≠ p ∧ q_heart (v0 164) sz nm p x q ≠ 0)) (v0 164 2).toNat)) (c, v)) : ∀ (m k : Nat) (v : sF), (k : Int) + m = v0 164 2 → Off [168, 169, 171] v0 v → Wp (Ev (d + 8)) 0 (fun _ => 0) 279 Q 41 [(2, 163), (0, t), (0, p), (0, x), (9, 0), (0, bts (fun q => decide (q ≠ p ∧ q_heart (v0 164) sz nm p x q ≠ 0)) k), (0, (k : Int))] [] c v := by
  have h2 := hS.1.2.1
  intro m
  induction m with
  | zero =>
    intro k v hk ho
    refine E279_41 _ _ _ _ _ ?_
    rw [ho 164 (by decide)]
    rw [show (v0 164 2).toNat = k by omega] at hQ
    exact brbI (fun _ => hQ v ho) (fun q => absurd q (by omega))
  | succ m ih =>
    intro k v hk ho
    have ihk := ih (k + 1)
    rw [bts_s] at ihk
    have ea := ho 164 (by decide)
    refine E279_41 _ _ _ _ _ ?_
    rw [ea, ior_b (by omega)]
    obtain ⟨v1, hE, hO⟩ := C_heartOf (d := d) (c := c) (v := v) (t := t) (p := p) (x := x) (q := (k : Int)) (sz := sz) (nm := nm) (by rw [ea]; exact hS) (by rw [ho 163 (by decide)]; exact hi) (by rw [ea]; exact hp) (by rw [ea]; omega) ht hz (hr.off ho (by decide)) (by rw [ea]; exact hx)
    rw [ea] at hE
    refine brbI (fun q => absurd q (by omega)) (fun _ => brbI (fun q => rngI (by omega) ?_) (fun q => ⟨_, c, v1, hE, brbI (fun q2 => rngI (by omega) ?_) (fun q2 => rngI (by omega) ?_)⟩))
    · rw [if_neg (by simp [q])] at ihk; exact ihk v (by omega) ho
    · rw [if_neg (by simp [q2])] at ihk; exact ihk v1 (by omega) (ho.tr hO)
    · rw [if_pos (by simp [q, q2])] at ihk; exact ihk v1 (by omega) (ho.tr hO)
theorem M_suspects {v : sF} {t p x : Int} (hS : St (v 164)) (hi : v 163 18 = -1) (hT : TrR v) : ∃ v', Ev (d + 9) 279 [(2, 163), (0, t), (0, p), (0, x)] (c, v) (some (0, q_sus1 v (v 164) t p x)) (c, v') ∧ QM v v' := by
  have hq := QM.t0 v 0
  have h1 := hS.1.1
  have h2 := hS.1.2.1
  have ea := hq.al
  have hz := tsz_qm hq
  have hs := C_noSeenOf (d := d + 4) (c := c) (v := up v 163 0 0) (t := t) (p := p) (x := x) (hT.qm hq) (by rw [ea]) (by rw [ea]) (by omega) (by omega)
  have hs : Ev (d + 8) 272 [(2, 163), (0, t), (0, p), (0, x)] (c, up v 163 0 0) (some (0, q_sgt (up v 163 0 0 179 t) (tsz (up v 163 0 0) t) (tnm (up v 163 0 0) t) (v 164 1) t ((0 ≤ p ∧ p < v 164 2) ∧ (0 ≤ x ∧ x < v 164 1)))) (c, up v 163 0 0) := hs
  rw [hz.1, hz.2.1, hz.2.2] at hs
  refine CI_of (loc279 t p x) (E279_0 t p x ⟨_, c, _, hs, brbI (fun h => ?_) (fun h => ⟨by unfold q_sus1; rw [if_neg h], _, rfl, hq⟩)⟩)
  have h0 := q_sgt0 h
  have htm : TrM (up v 163 0 0) t (tsz v t) (tnm v t) := TrM.off (TrM.self v t) hq.1 (by decide)
  obtain ⟨v1, hE, hO⟩ := C_isSo (d := d + 1) (c := c) (v := up v 163 0 0) (t := t) (p := p) (x := x) (sz := tsz v t) (nm := tnm v t) (by rw [ea]; exact hS.n) (by rw [ea]; exact h0.1.2.1) h0.1.1 (hT.x h0.1.1 h0.2.1).2 htm (by rw [ea]; exact h0.1.2.2)
  rw [ea, hq.idle, hi] at hE
  have hqq := hq.tr (oM hO)
  refine ⟨_, c, v1, hE, bcf (fun q => ?_) (fun q => ⟨by unfold q_sus1 q_sus; rw [if_pos h, cif_pos q], _, rfl, hqq⟩)⟩
  have e1 := hqq.al
  exact susM_loop (d := d) v1 (by rw [e1]; exact hS.n) (by rw [hqq.idle]; exact hi) (by rw [e1]; exact h0.1.2.1) h0.1.1 (hT.x h0.1.1 h0.2.1).2 (htm.off hO (by decide)) (by rw [e1]; exact h0.1.2.2) (fun v2 ho => ⟨by unfold q_sus1 q_sus; rw [if_pos h, cif_neg q, e1], _, rfl, hqq.tr (oM ho)⟩) (v1 164 2).toNat 0 v1 (by rw [e1]; omega) (Off.rf _ _)
end Tray2
