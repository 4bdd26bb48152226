section Trw
variable {d c : Nat}
theorem TrR_upd {v v2 : sF} {t : Int} (h : TrR v) (hn : ∀ s : Int, 0 ≤ s → s < 4 → s ≠ t → v2 179 s = v 179 s ∧ v2 180 s = v 180 s ∧ v2 (155 + 2 * s) = v (155 + 2 * s) ∧ v2 (155 + 2 * s + 1) = v (155 + 2 * s + 1) ∧ ∀ i : Int, 0 ≤ i → i < 40 → v2 181 (40 * s + i) = v 181 (40 * s + i)) (ht : 0 ≤ t → t < 4 → (v2 179 t = -1 ∨ (0 ≤ v2 179 t ∧ v2 179 t ≤ 3)) ∧ (0 ≤ v2 180 t ∧ v2 180 t ≤ 40) ∧ v2 (155 + 2 * t) 0 = (if v2 179 t = -1 then 0 else 1) ∧ (v2 179 t ≠ -1 → v2 (155 + 2 * t) 1 = v2 179 t ∧ TrX v2 t (v2 180 t) (fun i => v2 181 (40 * t + i)))) : TrR v2 := fun s s0 s1 => by
  by_cases e : s = t
  · subst e; exact ht s0 s1
  · obtain ⟨h1, h2, h3, h4, h5⟩ := hn s s0 s1 e
    have hs := h s s0 s1
    rw [h1, h2, h3]
    refine ⟨hs.1, hs.2.1, hs.2.2.1, fun q => ⟨(hs.2.2.2 q).1, ?_⟩⟩
    have hx := (hs.2.2.2 q).2
    exact ⟨by rw [h3]; exact hx.1, fun i i0 i1 => by (try dsimp only); rw [h4, h5 i i0 (by omega)]; exact hx.2 i i0 i1⟩
/-- numbers -/
def nmA (t s n : Int) : Int := if 0 ≤ t ∧ t < 4 then (if 0 ≤ s ∧ s ≤ 3 then (if 0 ≤ n ∧ n ≤ 40 then 0 else -3) else -2) else -2
theorem tbg_loop {t : Int} {Q : sQ} (v0 : sF) (ht : 0 ≤ t ∧ t < 4) (hQ : ∀ v, Off [155 + 2 * t + 1] v0 v → (∀ i : Int, 0 ≤ i → i < 40 → v (155 + 2 * t + 1) i = 0) → Q none (c, v)) : ∀ (m : Nat) (k : Int) (v : sF), 0 ≤ k → k + m = 40 → Off [155 + 2 * t + 1] v0 v → (∀ i : Int, 0 ≤ i → i < k → v (155 + 2 * t + 1) i = 0) → Wp (Ev d) 0 (fun _ => 0) 83 Q 17 [(2, 155 + 2 * t), (9, 0), (9, 0), (0, k)] [] c v := by
  have ty := tr_ty ht
  intro m
  induction m with
  | zero =>
    intro k v k0 hk ho h
    exact E83_17 _ _ (brbI (fun _ => hQ v ho (fun i i0 i1 => h i i0 (by omega))) (fun z => absurd z (by omega)))
  | succ m ih =>
    intro k v k0 hk ho h
    refine E83_17 _ _ (brbI (fun z => absurd z (by omega)) (fun _ => cktI (beqI ty.1) (cktI (beqI ty.2.1) ?_)))
    rw [ty.2.2]
    refine chkI (inbI (by omega) (by omega)) (rngI (by omega) (ih (k + 1) _ (by omega) (by omega) (ho.up (by simp)) (fun i i0 i1 => ?_)))
    by_cases e : i = k
    · rw [e, up_same]
    · rw [up_ne _ e]; exact h i i0 (by omega)
theorem X_numbers {v : sF} {t s n : Int} : ∃ v', Ev (d + 3) 154 [(2, 1), (0, t), (0, s), (0, n)] (c, v) (some (0, nmA t s n)) (c, v') ∧ ((nmA t s n ≠ 0 ∧ v' = v) ∨ ((0 ≤ t ∧ t < 4) ∧ (0 ≤ s ∧ s ≤ 3) ∧ (0 ≤ n ∧ n ≤ 40) ∧ Off [155 + 2 * t, 155 + 2 * t + 1] v v' ∧ v' (155 + 2 * t) 0 = 1 ∧ v' (155 + 2 * t) 1 = s ∧ v' (155 + 2 * t) 2 = n ∧ ∀ i : Int, 0 ≤ i → i < 40 → v' (155 + 2 * t + 1) i = 0)) := by
  have hI := C_isTrayX (d := d + 1) (c := c) (v := v) (x := t)
  refine CI_of (loc154 t s n) (E154_0 t s n ⟨_, c, v, hI, bfz (fun z => ?_) (fun ht => ?_)⟩)
  · have e : nmA t s n = -2 := by unfold nmA; rw [if_neg z]
    rw [e]; exact ⟨rfl, v, rfl, Or.inl ⟨by decide, rfl⟩⟩
  · by_cases hs : 0 ≤ s ∧ s ≤ 3
    · refine brbI (fun z => absurd z (by omega)) (fun _ => brbI (fun _ => ?_) (fun z => absurd hs.2 z))
      by_cases hn : 0 ≤ n ∧ n ≤ 40
      · have e : nmA t s n = 0 := by unfold nmA; rw [if_pos ht, if_pos hs, if_pos hn]
        have ty := tr_ty ht
        obtain ⟨v0, hv0⟩ : ∃ v0, v0 = up (up (up v (155 + 2 * t) 0 1) (155 + 2 * t) 1 s) (155 + 2 * t) 2 n := ⟨_, rfl⟩
        have hB : ∃ v', Ev (d + 2) 83 [(2, 155 + 2 * t), (0, s), (0, n)] (c, v) none (c, v') ∧ Off [155 + 2 * t + 1] v0 v' ∧ ∀ i : Int, 0 ≤ i → i < 40 → v' (155 + 2 * t + 1) i = 0 := by
          refine CV_of (loc83 (155 + 2 * t) s n) (E83_0 (155 + 2 * t) s n (cktI (beqI ty.1) (cktI (beqI ty.1) (cktI (beqI ty.1) ?_))))
          rw [← hv0]
          exact tbg_loop v0 ht (fun v' ho h => ⟨rfl, v', rfl, ho, h⟩) 40 0 v0 (by omega) (by omega) (Off.rf _ v0) (fun i i0 i1 => by omega)
        obtain ⟨v', hE, hO, hz⟩ := hB
        have e0 : v' (155 + 2 * t) = v0 (155 + 2 * t) := hO _ (by simp; omega)
        rw [e]
        refine brbI (fun z => absurd z (by omega)) (fun _ => brbI (fun _ => chkI (inbI (by omega) (by omega)) (cktI (beqI ty.1) ⟨c, v', hE, rfl, v', rfl, Or.inr ⟨ht, hs, hn, ?_, ?_, ?_, ?_, hz⟩⟩)) (fun z => absurd hn.2 z))
        · have h0 : Off [155 + 2 * t, 155 + 2 * t + 1] v v0 := by rw [hv0]; exact (((Off.rf _ v).up (by simp)).up (by simp)).up (by simp)
          exact h0.tr (hO.wk (by simp))
        · rw [e0, hv0, up_ne _ (by decide), up_ne _ (by decide), up_same]
        · rw [e0, hv0, up_ne _ (by decide), up_same]
        · rw [e0, hv0, up_same]
      · have e : nmA t s n = -3 := by unfold nmA; rw [if_pos ht, if_pos hs, if_neg hn]
        rw [e]
        exact brbI (fun _ => ⟨rfl, v, rfl, Or.inl ⟨by decide, rfl⟩⟩) (fun z => brbI (fun z2 => absurd ⟨by omega, z2⟩ hn) (fun _ => ⟨rfl, v, rfl, Or.inl ⟨by decide, rfl⟩⟩))
    · have e : nmA t s n = -2 := by unfold nmA; rw [if_pos ht, if_neg hs]
      rw [e]
      exact brbI (fun _ => ⟨rfl, v, rfl, Or.inl ⟨by decide, rfl⟩⟩) (fun z => brbI (fun z2 => absurd ⟨by omega, z2⟩ hs) (fun _ => ⟨rfl, v, rfl, Or.inl ⟨by decide, rfl⟩⟩))
theorem nb_loop {t n : Int} {Q : sQ} (v0 : sF) (ht : 0 ≤ t ∧ t < 4) (hn : 0 ≤ n ∧ n ≤ 40) (hQ : ∀ v, Off [181] v0 v → (∀ i : Int, 0 ≤ i → i < n → v 181 (40 * t + i) = 0) → (∀ j : Int, ¬ (40 * t ≤ j ∧ j < 40 * t + 40) → v 181 j = v0 181 j) → Q (some (0, 0)) (c, v)) : ∀ (m : Nat) (k : Int) (v : sF), 0 ≤ k → k + m = n → Off [181] v0 v → (∀ i : Int, 0 ≤ i → i < k → v 181 (40 * t + i) = 0) → (∀ j : Int, ¬ (40 * t ≤ j ∧ j < 40 * t + 40) → v 181 j = v0 181 j) → Wp (Ev d) 0 (fun _ => 0) 290 Q 64 [(2, 163), (0, t), (9, 0), (0, n), (0, k)] [] c v := by
  intro m
  induction m with
  | zero =>
    intro k v k0 hk ho h1 h2
    exact E290_64 _ _ _ (brbI (fun _ => hQ v ho (fun i i0 i1 => h1 i i0 (by omega)) h2) (fun z => absurd z (by omega)))
  | succ m ih =>
    intro k v k0 hk ho h1 h2
    refine E290_64 _ _ _ (brbI (fun z => absurd z (by omega)) (fun _ => rngI (by omega) (rngI (by omega) (chkI (inbI (by omega) (by omega)) (rngI (by omega) (ih (k + 1) _ (by omega) (by omega) (ho.up (by decide)) (fun i i0 i1 => ?_) (fun j hj => ?_)))))))
    · by_cases e : i = k
      · rw [e, up_same]
      · rw [up_ne _ (by omega)]; exact h1 i i0 (by omega)
    · rw [up_ne _ (by omega)]; exact h2 j hj
theorem M_numbers {v : sF} {t s n : Int} : ∃ v', Ev (d + 2) 290 [(2, 163), (0, t), (0, s), (0, n)] (c, v) (some (0, nmA t s n)) (c, v') ∧ Off [163, 179, 180, 181] v v' ∧ (∀ i : Int, i ≠ 0 → v' 163 i = v 163 i) ∧ ((nmA t s n ≠ 0 ∧ v' 179 = v 179 ∧ v' 180 = v 180 ∧ v' 181 = v 181) ∨ ((0 ≤ t ∧ t < 4) ∧ (0 ≤ s ∧ s ≤ 3) ∧ (0 ≤ n ∧ n ≤ 40) ∧ v' 179 = ua (v 179) t s ∧ v' 180 = ua (v 180) t n ∧ (∀ i : Int, 0 ≤ i → i < n → v' 181 (40 * t + i) = 0) ∧ ∀ j : Int, ¬ (40 * t ≤ j ∧ j < 40 * t + 40) → v' 181 j = v 181 j)) := by
  have hW1 := C_within (d := d) (c := c) (v := up v 163 0 0) t 0 3
  have hW2 := C_within (d := d) (c := c) (v := up v 163 0 0) s 0 3
  have hW3 := C_within (d := d) (c := c) (v := up v 163 0 0) n 0 40
  have hO0 : Off [163, 179, 180, 181] v (up v 163 0 0) := (Off.rf _ v).up (by decide)
  have hb : ∀ r, r = nmA t s n → r ≠ 0 → (some ((0 : Nat), r)) = some (0, nmA t s n) ∧ ∃ v', ((c, up v 163 0 0) : Nat × sF) = (c, v') ∧ Off [163, 179, 180, 181] v v' ∧ (∀ i : Int, i ≠ 0 → v' 163 i = v 163 i) ∧ ((nmA t s n ≠ 0 ∧ v' 179 = v 179 ∧ v' 180 = v 180 ∧ v' 181 = v 181) ∨ ((0 ≤ t ∧ t < 4) ∧ (0 ≤ s ∧ s ≤ 3) ∧ (0 ≤ n ∧ n ≤ 40) ∧ v' 179 = ua (v 179) t s ∧ v' 180 = ua (v 180) t n ∧ (∀ i : Int, 0 ≤ i → i < n → v' 181 (40 * t + i) = 0) ∧ ∀ j : Int, ¬ (40 * t ≤ j ∧ j < 40 * t + 40) → v' 181 j = v 181 j)) := fun r hr h0 => ⟨by rw [hr], up v 163 0 0, rfl, hO0, fun i hi => up_ne _ hi, Or.inl ⟨by rw [← hr]; exact h0, up_off 179 (by decide), up_off 180 (by decide), up_off 181 (by decide)⟩⟩
  refine CI_of (loc290 t s n) (E290_0 t s n ⟨_, c, _, hW1, bfz (fun z => hb _ (by unfold nmA; rw [if_neg (by omega)]) (by decide)) (fun z1 => ⟨_, c, _, hW2, bfi (fun z2 => ⟨_, c, _, hW3, bfi (fun z3 => ?_) (fun z => hb _ (by unfold nmA; rw [if_pos (by omega), if_pos z2, if_neg z]) (by decide))⟩) (fun z => hb _ (by unfold nmA; rw [if_pos (by omega), if_neg z]) (by decide))⟩)⟩)
  have e : nmA t s n = 0 := by unfold nmA; rw [if_pos (by omega), if_pos z2, if_pos z3]
  rw [e]
  refine chkI (inbI (by omega) (by omega)) (chkI (inbI (by omega) (by omega)) (nb_loop (up (up (up v 163 0 0) 179 t s) 180 t n) (by omega) z3 (fun v' ho h1 h2 => ⟨rfl, v', rfl, (hO0.tr (((Off.rf _ _).up (by decide)).up (by decide))).tr (ho.wk (by decide)), fun i hi => ?_, Or.inr ⟨by omega, z2, z3, ?_, ?_, h1, fun j hj => ?_⟩⟩) n.toNat 0 _ (by omega) (by omega) (Off.rf _ _) (fun i i0 i1 => by omega) (fun _ _ => rfl)))
  · rw [ho 163 (by decide), up_ne2 _ (by decide), up_ne2 _ (by decide), up_ne _ hi]
  · rw [ho 179 (by decide), up_off 179 (by decide), up_ua, up_off 179 (by decide)]
  · rw [ho 180 (by decide), up_ua, up_off 180 (by decide), up_off 180 (by decide)]
  · rw [h2 j hj, up_ne2 _ (by decide), up_ne2 _ (by decide), up_ne2 _ (by decide)]
/-- a number, cut to its sort -/
def ctV (s x : Int) : Int := if s = 0 then w8 (w32 x) else if s = 1 then w16 (w32 x) else if s = 2 then w32 x else x
theorem ctV_p {s x : Int} (hx : 0 ≤ x ∧ x < 6) : ctV s x = x := by
  unfold ctV
  rw [w32_id (by omega)]
  have h8 : w8 x = x := by unfold w8; omega
  have h16 : w16 x = x := by unfold w16; omega
  rw [h8, h16]
  split
  · rfl
  · split
    · rfl
    · split <;> rfl
theorem C_cutX {v : sF} {t x : Int} (ht : 0 ≤ t ∧ t < 4) : Ev (d + 1) 85 [(2, 155 + 2 * t), (1, x)] (c, v) (some (1, ctV (v (155 + 2 * t) 1) x)) (c, v) := by
  have ty := tr_ty ht
  refine Ev_of (loc85 (155 + 2 * t) x) (F85_0 (155 + 2 * t) x (cktI (beqI ty.1) (brbI (fun z => ?_) (fun z => brbI (fun z1 => ?_) (fun z1 => brbI (fun z2 => ?_) (fun z2 => ?_))))))
  · unfold ctV; rw [if_pos z]; exact ⟨rfl, rfl⟩
  · unfold ctV; rw [if_neg z, if_pos z1]; exact ⟨rfl, rfl⟩
  · unfold ctV; rw [if_neg z, if_neg z1, if_pos z2]; exact ⟨rfl, rfl⟩
  · unfold ctV; rw [if_neg z, if_neg z1, if_neg z2]; exact ⟨rfl, rfl⟩
theorem C_cutM {v : sF} {s x : Int} : Ev (d + 1) 289 [(1, x), (0, s)] (c, v) (some (1, ctV s x)) (c, v) := by
  refine Ev_of (loc289 x s) (F289_0 x s (brbN (fun z => brbN (fun z1 => brbN (fun z2 => ?_) (fun z2 => ?_)) (fun z1 => ?_)) (fun z => ?_)))
  · unfold ctV; rw [if_neg z, if_neg z1, if_neg z2]; exact ⟨rfl, rfl⟩
  · unfold ctV; rw [if_neg z, if_neg z1, if_pos z2]; exact ⟨rfl, rfl⟩
  · unfold ctV; rw [if_neg z, if_pos z1]; exact ⟨rfl, rfl⟩
  · unfold ctV; rw [if_pos z]; exact ⟨rfl, rfl⟩
theorem C_put {v : sF} {t i x : Int} (ht : 0 ≤ t ∧ t < 4) (hi : 0 ≤ i ∧ i < 40) : Ev (d + 2) 84 [(2, 155 + 2 * t), (0, i), (1, x)] (c, v) (some (1, ctV (v (155 + 2 * t) 1) x)) (c, up v (155 + 2 * t + 1) i (ctV (v (155 + 2 * t) 1) x)) := by
  have ty := tr_ty ht
  have hC := C_cutX (d := d) (c := c) (v := v) (x := x) ht
  refine Ev_of (loc84 (155 + 2 * t) i x) (E84_0 (155 + 2 * t) i x (cktI (beqI ty.1) (cktI (beqI ty.1) ⟨_, c, v, hC, cktI (beqI ty.2.1) ?_⟩)))
  rw [ty.2.2]
  refine chkI (inbI hi.1 hi.2) (cktI (beqI ty.1) (cktI (beqI ty.2.1) (chkI (inbI hi.1 hi.2) ⟨by rw [up_same], rfl⟩)))
/-- write -/
def wrA (T sz t i x : Int) : Int := if 0 ≤ t ∧ t < 4 then (if T = -1 then -6 else if 0 ≤ i ∧ i < sz then ctV T x else -7) else -2
theorem X_write {v : sF} {t i x : Int} (hT : TrR v) : ∃ v', Ev (d + 3) 155 [(2, 1), (0, t), (0, i), (1, x)] (c, v) (some (1, wrA (v 179 t) (v 180 t) t i x)) (c, v') ∧ ((¬ ((0 ≤ t ∧ t < 4) ∧ v 179 t ≠ -1 ∧ 0 ≤ i ∧ i < v 180 t) ∧ v' = v) ∨ (((0 ≤ t ∧ t < 4) ∧ v 179 t ≠ -1 ∧ 0 ≤ i ∧ i < v 180 t) ∧ v' = up v (155 + 2 * t + 1) i (ctV (v 179 t) x))) := by
  have hI := C_isTrayX (d := d + 1) (c := c) (v := v) (x := t)
  refine CJ_of (loc155 t i x) (E155_0 t i x ⟨_, c, v, hI, bfi (fun ht => ?_) (fun z => ?_)⟩)
  · have hth := hT t ht.1 ht.2
    have ty := tr_ty ht
    refine chkI (inbI (by omega) (by omega)) (cktI (beqI ty.1) ?_)
    rw [hth.2.2.1]
    by_cases hT1 : v 179 t = -1
    · rw [if_pos hT1]
      exact brbN (fun q => absurd rfl q) (fun _ => ⟨by unfold wrA; rw [if_pos ht, if_pos hT1], v, rfl, Or.inl ⟨fun q => q.2.1 hT1, rfl⟩⟩)
    · rw [if_neg hT1]
      have h2 := hth.2.2.2 hT1
      refine brbN (fun _ => brbI (fun z => ⟨by unfold wrA; rw [if_pos ht, if_neg hT1, if_neg (by omega)], v, rfl, Or.inl ⟨fun q => by omega, rfl⟩⟩) (fun z => cktI (beqI ty.1) ?_)) (fun q => absurd q (by decide))
      rw [h2.2.1]
      refine brbI (fun z2 => cktI (beqI ty.1) ?_) (fun z2 => ⟨by unfold wrA; rw [if_pos ht, if_neg hT1, if_neg (by omega)], v, rfl, Or.inl ⟨fun q => by omega, rfl⟩⟩)
      have hp := C_put (d := d) (c := c) (v := v) (i := i) (x := x) ht (by omega)
      rw [h2.1] at hp
      exact ⟨_, c, _, hp, by unfold wrA; rw [if_pos ht, if_neg hT1, if_pos (by omega)], _, rfl, Or.inr ⟨⟨ht, hT1, by omega, z2⟩, rfl⟩⟩
  · exact ⟨by unfold wrA; rw [if_neg z], v, rfl, Or.inl ⟨fun q => z q.1, rfl⟩⟩
theorem M_write {v : sF} {t i x : Int} (hz : ∀ s : Int, 0 ≤ s → s < 4 → 0 ≤ v 180 s ∧ v 180 s ≤ 40) : ∃ v', Ev (d + 3) 291 [(2, 163), (0, t), (0, i), (1, x)] (c, v) (some (1, wrA (v 179 t) (v 180 t) t i x)) (c, v') ∧ Off [163, 181] v v' ∧ (∀ j : Int, j ≠ 0 → v' 163 j = v 163 j) ∧ ((¬ ((0 ≤ t ∧ t < 4) ∧ v 179 t ≠ -1 ∧ 0 ≤ i ∧ i < v 180 t) ∧ v' 181 = v 181) ∨ (((0 ≤ t ∧ t < 4) ∧ v 179 t ≠ -1 ∧ 0 ≤ i ∧ i < v 180 t) ∧ v' 181 = ua (v 181) (40 * t + i) (ctV (v 179 t) x))) := by
  have hN := C_noTray (d := d) (c := c) (v := up v 163 0 0) (t := t)
  rw [up_off 179 (by decide)] at hN
  have hO0 : Off [163, 181] v (up v 163 0 0) := (Off.rf _ v).up (by decide)
  have e179 : up v 163 0 0 179 = v 179 := up_off 179 (by decide)
  have e180 : up v 163 0 0 180 = v 180 := up_off 180 (by decide)
  refine CJ_of (loc291 t i x) (E291_0 t i x ⟨_, c, _, hN, ?_⟩)
  by_cases ht : 0 ≤ t ∧ t < 4
  · rw [if_pos ht]
    by_cases hT1 : v 179 t = -1
    · rw [if_pos hT1]
      exact brbI (fun q => absurd q (by decide)) (fun _ => ⟨by unfold wrA; rw [if_pos ht, if_pos hT1], _, rfl, hO0, fun j hj => up_ne _ hj, Or.inl ⟨fun q => q.2.1 hT1, up_off 181 (by decide)⟩⟩)
    · rw [if_neg hT1, e180]
      have hzt := hz t ht.1 ht.2
      refine brbI (fun _ => chkI (inbI (by omega) (by omega)) (rngI (by omega) ⟨_, c, _, C_within (d := d + 1) _ _ _, bfi (fun z => ?_) (fun z => ?_)⟩)) (fun q => absurd rfl q)
      · rw [e179]
        refine rngI (by omega) (rngI (by omega) (chkI (inbI (by omega) (by omega)) ⟨_, c, _, C_cutM (d := d + 1), chkI (inbI (by omega) (by omega)) (rngI (by omega) (rngI (by omega) (chkI (inbI (by omega) (by omega)) ⟨?_, _, rfl, hO0.up (by decide), fun j hj => ?_, Or.inr ⟨⟨ht, hT1, by omega, by omega⟩, ?_⟩⟩)))⟩))
        · rw [up_same]; unfold wrA; rw [if_pos ht, if_neg hT1, if_pos (by omega)]
        · rw [up_ne2 _ (by decide), up_ne _ hj]
        · rw [up_ua, up_off 181 (by decide)]
      · exact ⟨by unfold wrA; rw [if_pos ht, if_neg hT1, if_neg (by omega)], _, rfl, hO0, fun j hj => up_ne _ hj, Or.inl ⟨fun q => by omega, up_off 181 (by decide)⟩⟩
  · rw [if_neg ht]
    exact brbI (fun q => absurd q (by decide)) (fun _ => ⟨by unfold wrA; rw [if_neg ht], _, rfl, hO0, fun j hj => up_ne _ hj, Or.inl ⟨fun q => ht q.1, up_off 181 (by decide)⟩⟩)
end Trw
