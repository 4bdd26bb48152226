section Tray1
variable {d c : Nat}
noncomputable def cif (P : Prop) (a b : Int) : Int := @ite Int P (Classical.propDecidable P) a b
theorem cif_pos {P : Prop} (h : P) (a b : Int) : cif P a b = a := by unfold cif; exact if_pos h
theorem cif_neg {P : Prop} (h : ¬ P) (a b : Int) : cif P a b = b := by unfold cif; exact if_neg h
noncomputable def cdec (P : Prop) : Bool := @decide P (Classical.propDecidable P)
theorem cdec_iff (P : Prop) : cdec P = true ↔ P := by unfold cdec; exact @decide_eq_true_iff P (Classical.propDecidable P)
theorem cdec_n {P : Prop} (h : ¬ P) : ¬ cdec P = true := fun q => h ((cdec_iff P).1 q)
theorem tr_ty {t : Int} (h : 0 ≤ t ∧ t < 4) : tyT (155 + 2 * t) = 19 ∧ tyT (155 + 2 * t + 1) = 2 ∧ lnT (155 + 2 * t + 1) = 40 := by
  rcases (show t = 0 ∨ t = 1 ∨ t = 2 ∨ t = 3 by omega) with rfl | rfl | rfl | rfl <;> decide +kernel
/-- a tray's numbers, in the class's tray, in the model's -/
def TrX (v : sF) (t sz : Int) (nm : Int → Int) : Prop := v (155 + 2 * t) 2 = sz ∧ ∀ i : Int, 0 ≤ i → i < sz → v (155 + 2 * t + 1) i = nm i
def TrM (v : sF) (t sz : Int) (nm : Int → Int) : Prop := v 180 t = sz ∧ ∀ i : Int, 0 ≤ i → i < sz → v 181 (40 * t + i) = nm i
theorem TrX.off {v v' : sF} {t sz : Int} {nm : Int → Int} (h : TrX v t sz nm) (ht : 0 ≤ t ∧ t < 4) {S : List Int} (ho : Off S v v') (hs : ∀ k ∈ S, k < 155 ∨ 162 < k) : TrX v' t sz nm := by
  unfold TrX at *
  rw [ho (155 + 2 * t) (fun q => by have := hs _ q; omega), ho (155 + 2 * t + 1) (fun q => by have := hs _ q; omega)]
  exact h
theorem TrM.off {v v' : sF} {t sz : Int} {nm : Int → Int} (h : TrM v t sz nm) {S : List Int} (ho : Off S v v') (hs : ∀ k ∈ S, k < 180) : TrM v' t sz nm := by
  unfold TrM at *
  rw [ho 180 (fun q => by have := hs _ q; omega), ho 181 (fun q => by have := hs _ q; omega)]
  exact h
/-- a way is as seen -/
def soP (sz : Int) (nm g : Int → Int) (x : Int) : Prop := ∀ i : Nat, (i : Int) < sz → nm i = -1 ∨ nm i = itf g i x
theorem ga_loop {v : sF} {g : Int → Int} {N tg t sz x : Int} {nm : Int → Int} {Q : sQ} (h : WN v g N tg) (ht : 0 ≤ t ∧ t < 4) (hz : 0 ≤ sz ∧ sz ≤ 40) (hr : TrX v t sz nm) (hx : 0 ≤ x ∧ x < N) (hQ1 : soP sz nm g x → Q (some (0, 1)) (c, v)) (hQ0 : ¬ soP sz nm g x → Q (some (0, 0)) (c, v)) : ∀ (m k : Nat), (k : Int) + m = sz → (∀ i : Nat, i < k → nm i = -1 ∨ nm i = itf g i x) → Wp (Ev (d + 2)) 0 (fun _ => 0) 102 Q 5 [(2, 140), (9, 0), (2, 155 + 2 * t), (0, itf g k x), (0, (k : Int))] [] c v := by
  have hty := tr_ty ht
  intro m
  induction m with
  | zero =>
    intro k hk hi
    refine E102_5 _ _ _ (cktI (beqI hty.1) ?_)
    rw [hr.1]
    exact brbI (fun _ => hQ1 (fun i h => hi i (by omega))) (fun q => absurd q (by omega))
  | succ m ih =>
    intro k hk hi
    have ihk := ih (k + 1) (by omega)
    rw [itf_succ] at ihk
    refine E102_5 _ _ _ (cktI (beqI hty.1) ?_)
    rw [hr.1, hr.2 k (by omega) (by omega), hty.2.2]
    have hgo : (nm k = -1 ∨ nm k = itf g k x) → ∀ i : Nat, i < k + 1 → nm i = -1 ∨ nm i = itf g i x := fun q i h => by
      rcases Nat.lt_or_eq_of_le (show i ≤ k by omega) with h2 | h2
      · exact hi i h2
      · rw [h2]; exact q
    refine brbI (fun q => absurd q (by omega)) (fun _ => cktI (beqI hty.1) (cktI (beqI hty.2.1) (chkI (inbI (by omega) (by omega)) (beq0 (fun q => ?_) (fun q => cktI (beqI hty.1) (cktI (beqI hty.2.1) (chkI (inbI (by omega) (by omega)) (beq0 (fun q2 => ?_) (fun q2 => ?_)))))))))
    · exact ⟨_, c, v, C_nx h (h.2.1.it k hx), rngI (by omega) (ihk (hgo (Or.inl q)))⟩
    · exact ⟨_, c, v, C_nx h (h.2.1.it k hx), rngI (by omega) (ihk (hgo (Or.inr q2)))⟩
    · exact hQ0 (fun z => by rcases z k (by omega) with z | z; exact q z; exact q2 z)
theorem C_goesAs {v : sF} {g : Int → Int} {N tg t sz x : Int} {nm : Int → Int} (h : WN v g N tg) (ht : 0 ≤ t ∧ t < 4) (hz : 0 ≤ sz ∧ sz ≤ 40) (hr : TrX v t sz nm) (hx : 0 ≤ x ∧ x < N) : Ev (d + 3) 102 [(2, 140), (0, x), (2, 155 + 2 * t)] (c, v) (some (0, cif (soP sz nm g x) 1 0)) (c, v) :=
  Ev_of (loc102 x _) (E102_0 x _ (ga_loop h ht hz hr hx (fun q => ⟨by rw [cif_pos q], rfl⟩) (fun q => ⟨by rw [cif_neg q], rfl⟩) sz.toNat 0 (by omega) (fun i q => absurd q (by omega))))
theorem bcf {P : Prop} {A B : Prop} (h1 : ¬ P → A) (h2 : P → B) : brb (decide (cif P 1 0 = 0)) A B := by
  by_cases h : P
  · rw [cif_pos h]; exact h2 h
  · rw [cif_neg h]; exact h1 h
/-- seen: where one can be -/
noncomputable def q_seen (al : Int → Int) (sz : Int) (nm : Int → Int) (p x : Int) : Int := bts (fun k => cdec (soP sz nm (nxA (ua al (30 + p) k) (-1) p) x)) (al 1).toNat
theorem tgb_loop {al : Int → Int} {p t sz x : Int} {nm : Int → Int} {Q : sQ} (v0 : sF) (hT : okT al) (hp : 0 ≤ p ∧ p < 6) (ht : 0 ≤ t ∧ t < 4) (hz : 0 ≤ sz ∧ sz ≤ 40) (hr : TrX v0 t sz nm) (hx : 0 ≤ x ∧ x < al 1) (hQ : ∀ v, Off [140] v0 v → WG v al p (-1) (-1) → Q (some (0, q_seen al sz nm p x)) (c, v)) : ∀ (m k : Nat) (v : sF) (y : Int), (k : Int) + m = al 1 → Off [140] v0 v → WG v (ua al (30 + p) y) p (-1) (-1) → Wp (Ev (d + 3)) 0 (fun _ => 0) 103 Q 11 [(2, 140), (0, x), (2, 155 + 2 * t), (0, bts (fun k => cdec (soP sz nm (nxA (ua al (30 + p) k) (-1) p) x)) k), (0, al (30 + p)), (0, (k : Int))] [] c v := by
  have h1 := hT.1
  intro m
  induction m with
  | zero =>
    intro k v y hk ho hG
    have hG2 := hG.tgt (okT_cg (sameT_ua (by omega)) hT) hp (al (30 + p))
    rw [ua_ua, ua_id] at hG2
    refine E103_11 _ _ _ _ _ ?_
    rw [hG.1, ua_n (show (1 : Int) ≠ 30 + p by omega)]
    unfold q_seen at hQ
    rw [show (al 1).toNat = k by omega] at hQ
    exact brbI (fun _ => hQ _ (ho.up (by decide)) hG2) (fun q => absurd q (by omega))
  | succ m ih =>
    intro k v y hk ho hG
    have hG2 := hG.tgt (okT_cg (sameT_ua (by omega)) hT) hp (k : Int)
    rw [ua_ua] at hG2
    have hT3 : okT (ua al (30 + p) k) := okT_cg (sameT_ua (by omega)) hT
    have ho2 : Off [140] v0 (up v 140 3 k) := ho.up (by decide)
    have ihk := ih (k + 1) _ (k : Int) (by omega) ho2 hG2
    rw [bts_s] at ihk
    have hE := C_goesAs (d := d) (c := c) (hG2.n hT3 hp) ht hz (hr.off ht ho2 (by decide)) (x := x) (by rw [ua_n (show (1 : Int) ≠ 30 + p by omega)]; exact hx)
    refine E103_11 _ _ _ _ _ ?_
    rw [hG.1, ua_n (show (1 : Int) ≠ 30 + p by omega)]
    refine brbI (fun q => absurd q (by omega)) (fun _ => ⟨_, c, _, hE, bcf (fun q => rngI (by omega) ?_) (fun q => rngI (by omega) ?_)⟩)
    · rw [if_neg (cdec_n q)] at ihk; exact ihk
    · rw [if_pos ((cdec_iff _).2 q)] at ihk; exact ihk
theorem C_targetBits {v : sF} {al : Int → Int} {p t sz x : Int} {nm : Int → Int} (hT : okT al) (hp : 0 ≤ p ∧ p < 6) (ht : 0 ≤ t ∧ t < 4) (hz : 0 ≤ sz ∧ sz ≤ 40) (hr : TrX v t sz nm) (hx : 0 ≤ x ∧ x < al 1) (hG : WG v al p (-1) (-1)) : ∃ v', Ev (d + 4) 103 [(2, 140), (0, x), (2, 155 + 2 * t)] (c, v) (some (0, q_seen al sz nm p x)) (c, v') ∧ Off [140] v v' ∧ WG v' al p (-1) (-1) := by
  have h1 := hT.1
  refine CI_of (loc103 x _) (E103_0 x _ ?_)
  rw [hG.2.2.2.1]
  exact tgb_loop v hT hp ht hz hr hx (fun v2 ho hG2 => ⟨rfl, _, rfl, ho, hG2⟩) (al 1).toNat 0 v (al (30 + p)) (by omega) (Off.rf _ _) (by rw [ua_id]; exact hG)
/-- heart: how much one can care -/
noncomputable def q_heart (al : Int → Int) (sz : Int) (nm : Int → Int) (p x q : Int) : Int := bts (fun k => cdec (soP sz nm (nxA (ua al (42 + 6 * q + p) k) (-1) p) x)) 10
theorem crb_loop {al : Int → Int} {p q t sz x : Int} {nm : Int → Int} {Q : sQ} (v0 : sF) (hS : Sn al) (hp : 0 ≤ p ∧ p < 6) (hq : 0 ≤ q ∧ q < 6) (hqp : q ≠ p) (ht : 0 ≤ t ∧ t < 4) (hz : 0 ≤ sz ∧ sz ≤ 40) (hr : TrX v0 t sz nm) (hx : 0 ≤ x ∧ x < al 1) (hR : CR v0 13 al) (h13 : v0 140 1 = 13) (hto : v0 140 2 = p) (hQ : ∀ v, Off cW v0 v → v 140 = v0 140 → WG v al p (-1) (-1) → Q (some (0, q_heart al sz nm p x q)) (c, v)) : ∀ (m k : Nat) (v : sF) (y : Int), k + m = 10 → Off cW v0 v → v 140 = v0 140 → WG v (ua al (42 + 6 * q + p) y) p (-1) (-1) → Wp (Ev (d + 4)) 0 (fun _ => 0) 104 Q 14 [(2, 140), (0, q), (0, x), (2, 155 + 2 * t), (0, bts (fun k => cdec (soP sz nm (nxA (ua al (42 + 6 * q + p) k) (-1) p) x)) k), (0, mnA al q p), (0, (k : Int))] [] c v := by
  have hT := hS.1
  have h1 := hT.1
  have h2 := hT.2.1
  intro m
  induction m with
  | zero =>
    intro k v y hk ho h140 hG
    have hk : k = 10 := hk
    subst hk
    have hsa : sameT al (ua al (42 + 6 * q + p) y) := sameT_ua (by omega)
    have hG2 := hG.cre (okT_cg hsa hT) hp hq hqp (al (42 + 6 * q + p))
    rw [ua_ua, ua_id, mnB_cg hsa hT hq hp (ua_n (by omega)), mnB_e hT] at hG2
    exact E104_14 _ _ _ _ _ _ (brbI (fun _ => chkI (inbI (by omega) (by omega)) (hQ _ (ho.up (by decide)) (by rw [up_off 140 (by decide)]; exact h140) hG2)) (fun q => absurd q (by decide)))
  | succ m ih =>
    intro k v y hk ho h140 hG
    have hsa : sameT al (ua al (42 + 6 * q + p) y) := sameT_ua (by omega)
    have hRv := hR.w (Or.inl rfl) ho
    obtain ⟨v1, hE, hO⟩ := C_mindWith (d := d) (c := c) (v := v) (a := 13) (q := q) (p := p) (care := (k : Int)) (Or.inl rfl) hT hS.2 hRv (by rw [h140]; exact h13) (by rw [h140]; exact hto) hq hp (by omega)
    have hG1 : WG v1 (ua al (42 + 6 * q + p) y) p (-1) (-1) := by
      unfold WG at *
      rw [hO 3 (by decide), hO 140 (by decide), hO 141 (by decide), hO 142 (by decide), hO 143 (by decide)]
      exact hG
    have hG2 := hG1.cre (okT_cg hsa hT) hp hq hqp (k : Int)
    rw [ua_ua, mnB_cg hsa hT hq hp (ua_n (by omega))] at hG2
    have hS3 := Sn_care hS (i := 6 * q + p) (x := (k : Int)) (by omega) (by omega)
    rw [show 42 + (6 * q + p) = 42 + 6 * q + p by omega] at hS3
    have ho2 : Off cW v0 (up v1 142 q (mnB al q p k)) := (ho.tr (hO.wk (by decide))).up (by decide)
    have h141 : up v1 142 q (mnB al q p k) 140 = v0 140 := by rw [up_off 140 (by decide), hO 140 (by decide)]; exact h140
    have ihk := ih (k + 1) _ (k : Int) (by omega) ho2 h141 hG2
    rw [bts_s] at ihk
    have hE2 := C_goesAs (d := d + 1) (c := c) (hG2.n hS3.1 hp) ht hz (hr.off ht ho2 (by decide)) (x := x) (by rw [ua_n (show (1 : Int) ≠ 42 + 6 * q + p by omega)]; exact hx)
    refine E104_14 _ _ _ _ _ _ (brbI (fun q => absurd q (by omega)) (fun _ => ⟨_, c, v1, hE, chkI (inbI (by omega) (by omega)) ⟨_, c, _, hE2, bcf (fun q => rngI (by omega) ?_) (fun q => rngI (by omega) ?_)⟩⟩))
    · rw [if_neg (cdec_n q)] at ihk; exact ihk
    · rw [if_pos ((cdec_iff _).2 q)] at ihk; exact ihk
theorem C_careBits {v : sF} {al : Int → Int} {p q t sz x : Int} {nm : Int → Int} (hS : Sn al) (hp : 0 ≤ p ∧ p < 6) (hq : 0 ≤ q ∧ q < al 2) (hqp : q ≠ p) (ht : 0 ≤ t ∧ t < 4) (hz : 0 ≤ sz ∧ sz ≤ 40) (hr : TrX v t sz nm) (hx : 0 ≤ x ∧ x < al 1) (hR : CR v 13 al) (h13 : v 140 1 = 13) (hG : WG v al p (-1) (-1)) : ∃ v', Ev (d + 5) 104 [(2, 140), (0, q), (0, x), (2, 155 + 2 * t)] (c, v) (some (0, q_heart al sz nm p x q)) (c, v') ∧ Off cW v v' ∧ v' 140 = v 140 ∧ WG v' al p (-1) (-1) := by
  have h2 := hS.1.2.1
  refine CI_of (loc104 q x _) (E104_0 q x _ (chkI (inbI (by omega) (by omega)) ?_))
  rw [((hG.2.2.2.2.2 q hq.1 hq.2 hqp).2 (Or.inl rfl)).1]
  exact crb_loop v hS hp (by omega) hqp ht hz hr hx hR h13 hG.2.2.1 (fun v2 ho h140 hG2 => ⟨rfl, _, rfl, ho, h140, hG2⟩) 10 0 v (al (42 + 6 * q + p)) (by omega) (Off.rf _ _) rfl (by rw [ua_id]; exact hG)
/-- the model's side -/
theorem so_loop {v : sF} {g : Int → Int} {N t sz x : Int} {nm : Int → Int} {Q : sQ} (h : MN v g N) (ht : 0 ≤ t ∧ t < 4) (hz : 0 ≤ sz ∧ sz ≤ 40) (hr : TrM v t sz nm) (hx : 0 ≤ x ∧ x < N) (hQ1 : soP sz nm g x → Q (some (0, 1)) (c, v)) (hQ0 : ¬ soP sz nm g x → Q (some (0, 0)) (c, v)) : ∀ (m k : Nat), (k : Int) + m = sz → (∀ i : Nat, i < k → nm i = -1 ∨ nm i = itf g i x) → Wp (Ev (d + 1)) 0 (fun _ => 0) 273 Q 8 [(2, 163), (0, t), (9, 0), (0, x), (0, (k : Int)), (9, 0), (9, 0)] [] c v := by
  intro m
  induction m with
  | zero =>
    intro k hk hi
    refine E273_8 _ _ _ (chkI (inbI (by omega) (by omega)) ?_)
    rw [hr.1]
    exact brbI (fun _ => hQ1 (fun i h => hi i (by omega))) (fun q => absurd q (by omega))
  | succ m ih =>
    intro k hk hi
    have ihk := ih (k + 1) (by omega)
    have hgo : (nm k = -1 ∨ nm k = itf g k x) → ∀ i : Nat, i < k + 1 → nm i = -1 ∨ nm i = itf g i x := fun q i h => by
      rcases Nat.lt_or_eq_of_le (show i ≤ k by omega) with h2 | h2
      · exact hi i h2
      · rw [h2]; exact q
    refine E273_8 _ _ _ (chkI (inbI (by omega) (by omega)) ?_)
    rw [hr.1, hr.2 k (by omega) (by omega)]
    refine brbI (fun q => absurd q (by omega)) (fun _ => rngI (by omega) (rngI (by omega) (chkI (inbI (by omega) (by omega)) (beq0 (fun q => rngI (by omega) (ihk (hgo (Or.inl q)))) (fun q => ⟨_, c, v, C_lies h hx (by omega), ?_⟩)))))
    exact beq0 (fun q2 => rngI (by omega) (ihk (hgo (Or.inr q2)))) (fun q2 => hQ0 (fun z => by rcases z k (by omega) with z | z; exact q z; exact q2 z))
theorem C_isSo {v : sF} {t sz p x : Int} {nm : Int → Int} (hS : Sn (v 164)) (hp : 0 ≤ p ∧ p < v 164 2) (ht : 0 ≤ t ∧ t < 4) (hz : 0 ≤ sz ∧ sz ≤ 40) (hr : TrM v t sz nm) (hx : 0 ≤ x ∧ x < v 164 1) : ∃ v', Ev (d + 7) 273 [(2, 163), (0, t), (0, p), (0, x)] (c, v) (some (0, cif (soP sz nm (nxA (v 164) (v 163 18) p) x) 1 0)) (c, v') ∧ Off [168, 169, 171] v v' := by
  obtain ⟨v1, hE, hO, hN⟩ := C_laysM (d := d) (c := c) (v := v) hS hp
  refine CI_of (loc273 t p x) (E273_0 t p x ⟨c, v1, hE, ?_⟩)
  exact so_loop (d := d + 5) hN ht hz (hr.off hO (by decide)) hx (fun q => ⟨by rw [cif_pos q], _, rfl, hO⟩) (fun q => ⟨by rw [cif_neg q], _, rfl, hO⟩) sz.toNat 0 (by omega) (fun i q => absurd q (by omega))
theorem off_back {v0 v : sF} {S : List Int} {k y : Int} (ho : Off (164 :: S) v0 v) (he : v 164 = ua (v0 164) k y) : Off S v0 (up v 164 k (v0 164 k)) := fun a ha => by
  by_cases e : a = 164
  · rw [e, up_ua, he, ua_ua, ua_id]
  · rw [up_off a (by omega)]
    exact ho a (fun q => by rcases List.mem_cons.1 q with q | q; exact e q; exact ha q)
theorem ss_loop {p t sz x : Int} {nm : Int → Int} {Q : sQ} (v0 : sF) (hS : Sn (v0 164)) (hi : v0 163 18 = -1) (hp : 0 ≤ p ∧ p < v0 164 2) (ht : 0 ≤ t ∧ t < 4) (hz : 0 ≤ sz ∧ sz ≤ 40) (hr : TrM v0 t sz nm) (hx : 0 ≤ x ∧ x < v0 164 1) (hQ : ∀ v, Off [168, 169, 171] v0 v → Q (some (0, q_seen (v0 164) sz nm p x)) (c, v)) : ∀ (m k : Nat) (v : sF) (y : Int), (k : Int) + m = v0 164 1 → Off [164, 168, 169, 171] v0 v → v 164 = ua (v0 164) (30 + p) y → Wp (Ev (d + 7)) 0 (fun _ => 0) 274 Q 17 [(2, 163), (0, t), (0, p), (0, x), (0, v0 164 (30 + p)), (0, bts (fun k => cdec (soP sz nm (nxA (ua (v0 164) (30 + p) k) (-1) p) x)) k), (0, (k : Int))] [] c v := by
  have h1 := hS.1.1
  have h2 := hS.1.2.1
  intro m
  induction m with
  | zero =>
    intro k v y hk ho he
    refine E274_17 _ _ _ _ _ _ ?_
    rw [he, ua_n (show (1 : Int) ≠ 30 + p by omega)]
    unfold q_seen at hQ
    rw [show (v0 164 1).toNat = k by omega] at hQ
    exact brbI (fun _ => rngI (by omega) (chkI (inbI (by omega) (by omega)) (hQ _ (off_back ho he)))) (fun q => absurd q (by omega))
  | succ m ih =>
    intro k v y hk ho he
    have e2 : up v 164 (30 + p) k 164 = ua (v0 164) (30 + p) k := by rw [up_ua, he, ua_ua]
    have hS2 := Sn_at hS (p := p) (x := k) (by omega) (by omega)
    have ho2 : Off [164, 168, 169, 171] v0 (up v 164 (30 + p) k) := ho.up (by decide)
    obtain ⟨v1, hE, hO⟩ := C_isSo (d := d) (c := c) (v := up v 164 (30 + p) k) (p := p) (t := t) (x := x) (nm := nm) (sz := sz) (by rw [e2]; exact hS2) (by rw [e2, ua_n (show (2 : Int) ≠ 30 + p by omega)]; exact hp) ht hz (hr.off ho2 (by decide)) (by rw [e2, ua_n (show (1 : Int) ≠ 30 + p by omega)]; exact hx)
    rw [e2, up_ne2 _ (by decide), ho 163 (by decide), hi] at hE
    have ihk := ih (k + 1) v1 (k : Int) (by omega) (ho2.tr (hO.wk (by decide))) (by rw [hO 164 (by decide), e2])
    rw [bts_s] at ihk
    refine E274_17 _ _ _ _ _ _ ?_
    rw [he, ua_n (show (1 : Int) ≠ 30 + p by omega), ior_b (by omega)]
    refine brbI (fun q => absurd q (by omega)) (fun _ => rngI (by omega) (chkI (inbI (by omega) (by omega)) ⟨_, c, v1, hE, bcf (fun q => rngI (by omega) ?_) (fun q => rngI (by omega) ?_)⟩))
    · rw [if_neg (cdec_n q)] at ihk; exact ihk
    · rw [if_pos ((cdec_iff _).2 q)] at ihk; exact ihk
theorem C_seenSet {v : sF} {t sz p x : Int} {nm : Int → Int} (hS : Sn (v 164)) (hi : v 163 18 = -1) (hp : 0 ≤ p ∧ p < v 164 2) (ht : 0 ≤ t ∧ t < 4) (hz : 0 ≤ sz ∧ sz ≤ 40) (hr : TrM v t sz nm) (hx : 0 ≤ x ∧ x < v 164 1) : ∃ v', Ev (d + 8) 274 [(2, 163), (0, t), (0, p), (0, x)] (c, v) (some (0, q_seen (v 164) sz nm p x)) (c, v') ∧ Off [168, 169, 171] v v' := by
  have h1 := hS.1.1
  have h2 := hS.1.2.1
  refine CI_of (loc274 t p x) (E274_0 t p x (rngI (by omega) (chkI (inbI (by omega) (by omega)) ?_)))
  exact ss_loop v hS hi hp ht hz hr hx (fun v2 ho => ⟨rfl, _, rfl, ho⟩) (v 164 1).toNat 0 v (v 164 (30 + p)) (by omega) (Off.rf _ _) (by rw [ua_id])
theorem ho_loop {p q t sz x : Int} {nm : Int → Int} {Q : sQ} (v0 : sF) (hS : Sn (v0 164)) (hi : v0 163 18 = -1) (hp : 0 ≤ p ∧ p < v0 164 2) (hq : 0 ≤ q ∧ q < v0 164 2) (ht : 0 ≤ t ∧ t < 4) (hz : 0 ≤ sz ∧ sz ≤ 40) (hr : TrM v0 t sz nm) (hx : 0 ≤ x ∧ x < v0 164 1) (hQ : ∀ v, Off [168, 169, 171] v0 v → Q (some (0, q_heart (v0 164) sz nm p x q)) (c, v)) : ∀ (m k : Nat) (v : sF) (y : Int), k + m = 10 → Off [164, 168, 169, 171] v0 v → v 164 = ua (v0 164) (42 + 6 * q + p) y → Wp (Ev (d + 7)) 0 (fun _ => 0) 277 Q 27 [(2, 163), (0, t), (0, p), (0, x), (9, 0), (0, 42 + 6 * q + p), (0, v0 164 (42 + 6 * q + p)), (0, bts (fun k => cdec (soP sz nm (nxA (ua (v0 164) (42 + 6 * q + p) k) (-1) p) x)) k), (0, (k : Int))] [] c v := by
  have h1 := hS.1.1
  have h2 := hS.1.2.1
  intro m
  induction m with
  | zero =>
    intro k v y hk ho he
    have hk : k = 10 := hk
    subst hk
    exact E277_27 _ _ _ _ _ _ _ (brbI (fun _ => chkI (inbI (by omega) (by omega)) (hQ _ (off_back ho he))) (fun q => absurd q (by decide)))
  | succ m ih =>
    intro k v y hk ho he
    have e2 : up v 164 (42 + 6 * q + p) k 164 = ua (v0 164) (42 + 6 * q + p) k := by rw [up_ua, he, ua_ua]
    have hS2 := Sn_care hS (i := 6 * q + p) (x := (k : Int)) (by omega) (by omega)
    rw [show 42 + (6 * q + p) = 42 + 6 * q + p by omega] at hS2
    have ho2 : Off [164, 168, 169, 171] v0 (up v 164 (42 + 6 * q + p) k) := ho.up (by decide)
    obtain ⟨v1, hE, hO⟩ := C_isSo (d := d) (c := c) (v := up v 164 (42 + 6 * q + p) k) (p := p) (t := t) (x := x) (nm := nm) (sz := sz) (by rw [e2]; exact hS2) (by rw [e2, ua_n (show (2 : Int) ≠ 42 + 6 * q + p by omega)]; exact hp) ht hz (hr.off ho2 (by decide)) (by rw [e2, ua_n (show (1 : Int) ≠ 42 + 6 * q + p by omega)]; exact hx)
    rw [e2, up_ne2 _ (by decide), ho 163 (by decide), hi] at hE
    have ihk := ih (k + 1) v1 (k : Int) (by omega) (ho2.tr (hO.wk (by decide))) (by rw [hO 164 (by decide), e2])
    rw [bts_s] at ihk
    refine E277_27 _ _ _ _ _ _ _ ?_
    rw [ior_b (by omega)]
    refine brbI (fun q => absurd q (by omega)) (fun _ => chkI (inbI (by omega) (by omega)) ⟨_, c, v1, hE, bcf (fun q => rngI (by omega) ?_) (fun q => rngI (by omega) ?_)⟩)
    · rw [if_neg (cdec_n q)] at ihk; exact ihk
    · rw [if_pos ((cdec_iff _).2 q)] at ihk; exact ihk
theorem C_heartOf {v : sF} {t sz p x q : Int} {nm : Int → Int} (hS : Sn (v 164)) (hi : v 163 18 = -1) (hp : 0 ≤ p ∧ p < v 164 2) (hq : 0 ≤ q ∧ q < v 164 2) (ht : 0 ≤ t ∧ t < 4) (hz : 0 ≤ sz ∧ sz ≤ 40) (hr : TrM v t sz nm) (hx : 0 ≤ x ∧ x < v 164 1) : ∃ v', Ev (d + 8) 277 [(2, 163), (0, t), (0, p), (0, x), (0, q)] (c, v) (some (0, q_heart (v 164) sz nm p x q)) (c, v') ∧ Off [168, 169, 171] v v' := by
  have h1 := hS.1.1
  have h2 := hS.1.2.1
  refine CI_of (loc277 t p x q) (E277_0 t p x q (rngI (by omega) (rngI (by omega) (rngI (by omega) (chkI (inbI (by omega) (by omega)) ?_)))))
  exact ho_loop v hS hi hp hq ht hz hr hx (fun v2 ho => ⟨rfl, _, rfl, ho⟩) 10 0 v (v 164 (42 + 6 * q + p)) (by omega) (Off.rf _ _) (by rw [ua_id])
end Tray1
