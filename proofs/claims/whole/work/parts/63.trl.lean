section Trl
variable {d c : Nat}
theorem nxW_off {S : List Int} {v v' : sF} (ho : Off S v v') (h3 : 3 ∉ S) (hs : ∀ k : Int, 140 ≤ k → k ≤ 143 → k ∉ S) (y : Int) : nxW v' y = nxW v y := by
  unfold nxW sdW
  rw [ho 3 h3, ho 140 (hs 140 (by decide) (by decide)), ho 141 (hs 141 (by decide) (by decide)), ho 142 (hs 142 (by decide) (by decide)), ho 143 (hs 143 (by decide) (by decide))]
/-- lists -/
def lsA (al : Int → Int) (T sz t p x : Int) : Int := if 0 ≤ t ∧ t < 4 then (if (0 ≤ p ∧ p < al 2) ∧ (0 ≤ x ∧ x < al 1) then (if T = -1 then -6 else sz) else -2) else -2
def lsP (al : Int → Int) (T t p x : Int) : Prop := (0 ≤ t ∧ t < 4) ∧ ((0 ≤ p ∧ p < al 2) ∧ (0 ≤ x ∧ x < al 1)) ∧ T ≠ -1
theorem lsX_loop {t sz N x : Int} {g : Int → Int} {Q : sQ} (v0 : sF) (ht : 0 ≤ t ∧ t < 4) (hz : 0 ≤ sz ∧ sz ≤ 40) (h2 : v0 (155 + 2 * t) 2 = sz) (hG : Gd g N) (hN : N ≤ 6) (hx : 0 ≤ x ∧ x < N) (hP : 0 ≤ v0 3 1 ∧ v0 3 1 ≤ 6) (hnx : ∀ y, 0 ≤ y → y < N → nxW v0 y = g y) (hQ : ∀ v, Off [155 + 2 * t + 1] v0 v → (∀ i : Nat, (i : Int) < sz → v (155 + 2 * t + 1) i = itf g i x) → Q (some (0, sz)) (c, v)) : ∀ (m k : Nat) (v : sF), (k : Int) + m = sz → Off [155 + 2 * t + 1] v0 v → (∀ i : Nat, i < k → v (155 + 2 * t + 1) i = itf g i x) → Wp (Ev (d + 2)) 0 (fun _ => 0) 156 Q 57 [(2, 1), (9, 0), (9, 0), (9, 0), (2, 155 + 2 * t), (0, itf g k x), (0, (k : Int))] [] c v := by
  have ty := tr_ty ht
  intro m
  induction m with
  | zero =>
    intro k v hk ho h
    refine E156_57 _ _ _ (cktI (beqI ty.1) ?_)
    rw [ho (155 + 2 * t) (by simp; omega), h2]
    exact brbI (fun _ => cktI (beqI ty.1) (hQ v ho (fun i hi => h i (by omega)))) (fun z => absurd z (by omega))
  | succ m ih =>
    intro k v hk ho h
    have hy := hG.it k hx
    have hp := C_put (d := d) (c := c) (v := v) (i := (k : Int)) (x := itf g k x) ht (by omega)
    rw [ctV_p (by omega)] at hp
    have ho2 : Off [155 + 2 * t + 1] v0 (up v (155 + 2 * t + 1) k (itf g k x)) := ho.up (by simp)
    have hE := C_nextOf (d := d) (c := c) (v := up v (155 + 2 * t + 1) k (itf g k x)) (place := itf g k x) (by rw [ho2 3 (by simp; omega)]; exact hP) (by omega)
    rw [nxW_off ho2 (by simp; omega) (fun j j0 j1 => by simp; omega), hnx _ hy.1 hy.2, ← itf_succ g k x] at hE
    refine E156_57 _ _ _ (cktI (beqI ty.1) ?_)
    rw [ho (155 + 2 * t) (by simp; omega), h2]
    refine brbI (fun z => absurd z (by omega)) (fun _ => cktI (beqI ty.1) ⟨_, c, _, hp, _, c, _, hE, rngI (by omega) (ih (k + 1) _ (by omega) ho2 (fun i hi => ?_))⟩)
    by_cases e : i = k
    · rw [e, up_same]
    · rw [up_ne _ (by omega)]; exact h i (by omega)
theorem X_lists {v : sF} {t p x : Int} {al : Int → Int} (hS : St al) (hR : CR v 13 al) (hT : TrR v) : ∃ v', Ev (d + 7) 156 [(2, 1), (0, t), (0, p), (0, x)] (c, v) (some (0, lsA al (v 179 t) (v 180 t) t p x)) (c, v') ∧ ((¬ lsP al (v 179 t) t p x ∧ v' = v) ∨ (lsP al (v 179 t) t p x ∧ Off ((155 + 2 * t + 1) :: cW) v v' ∧ CR v' 13 al ∧ ∀ i : Nat, (i : Int) < v 180 t → v' (155 + 2 * t + 1) i = itf (nxA al (-1) p) i x)) := by
  have hI := C_isTrayX (d := d + 5) (c := c) (v := v) (x := t)
  have hw := C_isWayX (d := d + 4) (c := c) (v := v) (x := p) (y := x)
  rw [hR.p.1, hR.p.2] at hw
  refine CI_of (loc156 t p x) (E156_0 t p x ⟨_, c, v, hI, bfz (fun z => ⟨by unfold lsA; rw [if_neg z], v, rfl, Or.inl ⟨fun q => z q.1, rfl⟩⟩) (fun ht => ⟨_, c, v, hw, bfi (fun h => ?_) (fun z => ⟨by unfold lsA; rw [if_pos ht, if_neg z], v, rfl, Or.inl ⟨fun q => z q.2.1, rfl⟩⟩)⟩)⟩)
  have hth := hT t ht.1 ht.2
  have ty := tr_ty ht
  refine chkI (inbI (by omega) (by omega)) (cktI (beqI ty.1) ?_)
  rw [hth.2.2.1]
  by_cases hT1 : v 179 t = -1
  · rw [if_pos hT1]
    exact brbN (fun q => absurd rfl q) (fun _ => ⟨by unfold lsA; rw [if_pos ht, if_pos h, if_pos hT1], v, rfl, Or.inl ⟨fun q => q.2.2 hT1, rfl⟩⟩)
  · rw [if_neg hT1]
    refine brbN (fun _ => ?_) (fun q => absurd q (by decide))
    obtain ⟨v1, hE, hO, hR1, hG, hN, _⟩ := C_aimX (d := d) (c := c) hS hR h.1
    have h1 := hS.1.1
    have hk := hth.2.2.2 hT1
    have e2 : v1 (155 + 2 * t) 2 = v 180 t := by rw [hO (155 + 2 * t) (fun q => by rw [cW_mem] at q; omega)]; exact hk.2.1
    refine ⟨c, v1, hE, lsX_loop (d := d + 4) v1 ht hth.2.1 e2 hN.2.1 (by omega) h.2 hN.1.1 hN.2.2 (fun v2 ho hi => ⟨by unfold lsA; rw [if_pos ht, if_pos h, if_neg hT1], v2, rfl, Or.inr ⟨⟨ht, h, hT1⟩, ?_, ?_, hi⟩⟩) (v 180 t).toNat 0 v1 (by omega) (Off.rf _ v1) (fun i hi => by omega)⟩
    · exact (hO.wk (fun b hb => List.mem_cons_of_mem _ hb)).tr (ho.wk (fun b hb => by simp at hb; rw [hb]; exact List.mem_cons_self ..))
    · exact ⟨hR1.1.off ho (fun k hk z => by simp at z; omega), hR1.2.off ho (fun k k0 k1 z => by simp at z; omega)⟩
theorem lsM_loop {t sz N x : Int} {g : Int → Int} {Q : sQ} (v0 : sF) (ht : 0 ≤ t ∧ t < 4) (hz : 0 ≤ sz ∧ sz ≤ 40) (h2 : v0 180 t = sz) (hM : MN v0 g N) (hx : 0 ≤ x ∧ x < N) (hQ : ∀ v, Off [181] v0 v → (∀ i : Nat, (i : Int) < sz → v 181 (40 * t + i) = itf g i x) → (∀ j : Int, ¬ (40 * t ≤ j ∧ j < 40 * t + 40) → v 181 j = v0 181 j) → Q (some (0, sz)) (c, v)) : ∀ (m k : Nat) (v : sF), (k : Int) + m = sz → Off [181] v0 v → (∀ i : Nat, i < k → v 181 (40 * t + i) = itf g i x) → (∀ j : Int, ¬ (40 * t ≤ j ∧ j < 40 * t + 40) → v 181 j = v0 181 j) → Wp (Ev (d + 1)) 0 (fun _ => 0) 292 Q 52 [(2, 163), (0, t), (9, 0), (0, x), (9, 0), (0, (k : Int))] [] c v := by
  intro m
  induction m with
  | zero =>
    intro k v hk ho h1 h3
    refine E292_52 _ _ _ (chkI (inbI (by omega) (by omega)) ?_)
    rw [ho 180 (by decide), h2]
    exact brbI (fun _ => chkI (inbI (by omega) (by omega)) (hQ v ho (fun i hi => h1 i (by omega)) h3)) (fun z => absurd z (by omega))
  | succ m ih =>
    intro k v hk ho h1 h3
    have hM2 : MN v g N := ⟨hM.1, fun y y0 y1 => by rw [ho 171 (by decide)]; exact hM.2 y y0 y1⟩
    have hE := C_lies (d := d) (c := c) (v := v) (n := k) hM2 hx (by omega)
    refine E292_52 _ _ _ (chkI (inbI (by omega) (by omega)) ?_)
    rw [ho 180 (by decide), h2]
    refine brbI (fun z => absurd z (by omega)) (fun _ => rngI (by omega) (rngI (by omega) ⟨_, c, v, hE, chkI (inbI (by omega) (by omega)) (rngI (by omega) (ih (k + 1) _ (by omega) (ho.up (by decide)) (fun i hi => ?_) (fun j hj => ?_)))⟩))
    · by_cases e : i = k
      · rw [e, up_same]
      · rw [up_ne _ (by omega)]; exact h1 i (by omega)
    · rw [up_ne _ (by omega)]; exact h3 j hj
theorem M_lists {v : sF} {t p x : Int} (hS : St (v 164)) (hi : v 163 18 = -1) (hz : ∀ s : Int, 0 ≤ s → s < 4 → 0 ≤ v 180 s ∧ v 180 s ≤ 40) : ∃ v', Ev (d + 7) 292 [(2, 163), (0, t), (0, p), (0, x)] (c, v) (some (0, lsA (v 164) (v 179 t) (v 180 t) t p x)) (c, v') ∧ Off [163, 168, 169, 171, 181] v v' ∧ (∀ j : Int, j ≠ 0 → v' 163 j = v 163 j) ∧ ((¬ lsP (v 164) (v 179 t) t p x ∧ v' 181 = v 181) ∨ (lsP (v 164) (v 179 t) t p x ∧ (∀ i : Nat, (i : Int) < v 180 t → v' 181 (40 * t + i) = itf (nxA (v 164) (-1) p) i x) ∧ ∀ j : Int, ¬ (40 * t ≤ j ∧ j < 40 * t + 40) → v' 181 j = v 181 j)) := by
  have h1 := hS.1.1
  have h2 := hS.1.2.1
  have hO0 : Off [163, 168, 169, 171, 181] v (up v 163 0 0) := (Off.rf _ v).up (by decide)
  have e164 : up v 163 0 0 164 = v 164 := up_off 164 (by decide)
  have hW := C_within (d := d + 5) (c := c) (v := up v 163 0 0) t 0 3
  have hw := C_isWayM (d := d + 3) (c := c) (v := up v 163 0 0) (x := p) (y := x) (by rw [e164]; omega) (by rw [e164]; omega)
  rw [e164] at hw
  have hN := C_noTray (d := d + 4) (c := c) (v := up v 163 0 0) (t := t)
  rw [up_off 179 (by decide)] at hN
  refine CI_of (loc292 t p x) (E292_0 t p x ⟨_, c, _, hW, bfz (fun z => ⟨by unfold lsA; rw [if_neg (by omega)], _, rfl, hO0, fun j hj => up_ne _ hj, Or.inl ⟨fun q => by have := q.1; omega, up_off 181 (by decide)⟩⟩) (fun ht => ⟨_, c, _, hw, bfi (fun h => ⟨_, c, _, hN, ?_⟩) (fun z => ⟨by unfold lsA; rw [if_pos (by omega), if_neg z], _, rfl, hO0, fun j hj => up_ne _ hj, Or.inl ⟨fun q => z q.2.1, up_off 181 (by decide)⟩⟩)⟩)⟩)
  rw [if_pos (show 0 ≤ t ∧ t < 4 by omega)]
  by_cases hT1 : v 179 t = -1
  · rw [if_pos hT1]
    exact brbI (fun q => absurd q (by decide)) (fun _ => ⟨by unfold lsA; rw [if_pos (by omega), if_pos h, if_pos hT1], _, rfl, hO0, fun j hj => up_ne _ hj, Or.inl ⟨fun q => q.2.2 hT1, up_off 181 (by decide)⟩⟩)
  · rw [if_neg hT1]
    refine brbI (fun _ => ?_) (fun q => absurd rfl q)
    obtain ⟨v1, hE, hO, hM⟩ := C_laysM (d := d) (c := c) (v := up v 163 0 0) (p := p) (by rw [e164]; exact hS.n) (by rw [e164]; exact h.1)
    rw [e164, up_ne _ (by decide), hi] at hM
    refine ⟨c, v1, hE, lsM_loop (d := d + 5) v1 (by omega) (hz t (by omega) (by omega)) (by rw [hO 180 (by decide), up_off 180 (by decide)]) hM h.2 (fun v2 ho hi2 hj2 => ⟨by unfold lsA; rw [if_pos (by omega), if_pos h, if_neg hT1], v2, rfl, hO0.tr ((hO.wk (by decide)).tr (ho.wk (by decide))), fun j hj => ?_, Or.inr ⟨⟨by omega, h, hT1⟩, hi2, fun j hj => ?_⟩⟩) (v 180 t).toNat 0 v1 (by have := hz t (by omega) (by omega); omega) (Off.rf _ v1) (fun i hi => by omega) (fun _ _ => rfl)⟩
    · rw [ho 163 (by decide), hO 163 (by decide), up_ne _ hj]
    · rw [hj2 j hj, hO 181 (by decide), up_off 181 (by decide)]
end Trl
