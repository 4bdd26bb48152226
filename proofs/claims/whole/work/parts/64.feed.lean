section Feed
variable {d c : Nat}
theorem bv_toInt_mod (b : BitVec 32) : b.toInt % 4294967296 = (b.toNat : Int) := by
  have h := b.isLt
  rw [BitVec.toInt_eq_toNat_cond]
  split <;> omega
theorem iand255 (y : Int) : iand y 255 = y % 256 := by
  have h : (Int32.ofInt y &&& Int32.ofInt 255).toInt = ((BitVec.ofInt 32 y) &&& 255#32).toInt := rfl
  unfold iand
  rw [h]
  have hn : ((BitVec.ofInt 32 y) &&& 255#32).toNat = (y % 4294967296).toNat % 256 := by
    rw [BitVec.toNat_and, BitVec.toNat_ofInt]
    exact Nat.and_two_pow_sub_one_eq_mod _ 8
  rw [BitVec.toInt_eq_toNat_of_lt (by rw [hn]; omega), hn]
  omega
theorem iush_mod (x : Int) {s : Nat} (hs : s < 32) : iush x s % 4294967296 = ((x % 4294967296).toNat / 2 ^ s : Nat) := by
  unfold iush
  have e : ((Int32.ofInt x).toUInt32 >>> ((Int32.ofInt (s : Int)).toUInt32 &&& Int32.toUInt32 31)).toInt32.toInt = ((Int32.ofInt x).toUInt32 >>> ((Int32.ofInt (s : Int)).toUInt32 &&& Int32.toUInt32 31)).toBitVec.toInt := rfl
  rw [e, bv_toInt_mod]
  have hsh : ((Int32.ofInt (s : Int)).toUInt32 &&& Int32.toUInt32 31).toNat = s := by
    have : ∀ k : Fin 32, ((Int32.ofInt ((k.val : Nat) : Int)).toUInt32 &&& Int32.toUInt32 31).toNat = k.val := by decide
    exact this ⟨s, hs⟩
  have hu : (Int32.ofInt x).toUInt32.toNat = (x % 4294967296).toNat := by
    show (BitVec.ofInt 32 x).toNat = _
    rw [BitVec.toNat_ofInt]; rfl
  have hm : ((Int32.ofInt x).toUInt32 >>> ((Int32.ofInt (s : Int)).toUInt32 &&& Int32.toUInt32 31)).toBitVec.toNat = ((Int32.ofInt x).toUInt32 >>> ((Int32.ofInt (s : Int)).toUInt32 &&& Int32.toUInt32 31)).toNat := rfl
  rw [hm, UInt32.toNat_shiftRight, hsh, hu, Nat.mod_eq_of_lt hs, Nat.shiftRight_eq_div_pow]
theorem ishr_div (x : Int) {s : Nat} (hs : s < 32) : ishr x s = (BitVec.ofInt 32 x).toInt / 2 ^ s := by
  unfold ishr
  have hsh : ∀ k : Fin 32, Int32.ofInt ((k.val : Nat) : Int) &&& 31 = Int32.ofInt ((k.val : Nat) : Int) ∧ (((Int32.ofInt ((k.val : Nat) : Int)).toBitVec.smod 32#32)).toNat = k.val := by decide
  have h := hsh ⟨s, hs⟩
  simp only at h
  rw [h.1]
  have e : (Int32.ofInt x >>> Int32.ofInt (s : Int)).toInt = ((BitVec.ofInt 32 x).sshiftRight' ((Int32.ofInt (s : Int)).toBitVec.smod 32#32)).toInt := rfl
  rw [e]
  have e2 : ((BitVec.ofInt 32 x).sshiftRight' ((Int32.ofInt (s : Int)).toBitVec.smod 32#32)) = (BitVec.ofInt 32 x).sshiftRight s := by
    show (BitVec.ofInt 32 x).sshiftRight ((Int32.ofInt (s : Int)).toBitVec.smod 32#32).toNat = _
    rw [h.2]
  rw [e2, BitVec.toInt_sshiftRight, Int.shiftRight_eq_div_pow]
  rfl
theorem byte_eq (x : Int) {s : Nat} (hs : s = 0 ∨ s = 8 ∨ s = 16 ∨ s = 24) : iand (w8 (w8 (iush x s))) 255 = iand (ishr x s) 255 ∧ 0 ≤ iand (ishr x s) 255 ∧ iand (ishr x s) 255 ≤ 255 := by
  rw [iand255, iand255]
  refine ⟨?_, by omega, by omega⟩
  have h1 := iush_mod x (s := s) (by omega)
  have h2 := ishr_div x (s := s) (by omega)
  have h3 := bv_toInt_mod (BitVec.ofInt 32 x)
  have h4 : (BitVec.ofInt 32 x).toNat = (x % 4294967296).toNat := by rw [BitVec.toNat_ofInt]; rfl
  rw [h4] at h3
  rw [h2]
  have h5 : w8 (w8 (iush x s)) % 256 = iush x s % 256 := by unfold w8; omega
  rw [h5]
  generalize iush x s = U at *
  generalize (BitVec.ofInt 32 x).toInt = T at *
  generalize hn : (x % 4294967296).toNat = n at *
  rcases hs with e | e | e | e <;> subst e
  · simp at h1 ⊢; omega
  · simp only [Nat.reducePow, Int.reducePow] at h1 ⊢; omega
  · simp only [Nat.reducePow, Int.reducePow] at h1 ⊢; omega
  · simp only [Nat.reducePow, Int.reducePow] at h1 ⊢; omega
/-- the tape -/
def TpR (v : sF) : Prop := v 1 1 = v 163 5 ∧ (0 ≤ v 163 5 ∧ v 163 5 ≤ 900) ∧ ∀ i : Int, 0 ≤ i → i < v 163 5 → iand (v 2 i) 255 = v 166 i ∧ 0 ≤ v 166 i ∧ v 166 i ≤ 255
def sel5 (x1 x2 x3 x4 x5 : Int) (j : Nat) : Int := if j = 0 then x1 else if j = 1 then x2 else if j = 2 then x3 else if j = 3 then x4 else x5
def cbF (x : Int) (j : Nat) : Int := w8 (w8 (iush x ((24 - 8 * j : Nat) : Int)))
def mbF (x : Int) (j : Nat) : Int := iand (ishr x ((24 - 8 * j : Nat) : Int)) 255
theorem fo_loop {x : Int} {Q : sQ} (v0 : sF) (h0 : 0 ≤ v0 1 1 ∧ v0 1 1 + 4 ≤ 900) (hQ : ∀ v, Off [1, 2] v0 v → v 1 1 = v0 1 1 + 4 → (∀ i : Int, i ≠ 1 → v 1 i = v0 1 i) → (∀ j : Nat, j < 4 → v 2 (v0 1 1 + j) = cbF x j) → (∀ i : Int, ¬ (v0 1 1 ≤ i ∧ i < v0 1 1 + 4) → v 2 i = v0 2 i) → Q none (c, v)) : ∀ (m k : Nat) (v : sF), k + m = 4 → Off [1, 2] v0 v → v 1 1 = v0 1 1 + k → (∀ i : Int, i ≠ 1 → v 1 i = v0 1 i) → (∀ j : Nat, j < k → v 2 (v0 1 1 + j) = cbF x j) → (∀ i : Int, ¬ (v0 1 1 ≤ i ∧ i < v0 1 1 + 4) → v 2 i = v0 2 i) → Wp (Ev d) 0 (fun _ => 0) 109 Q 3 [(2, 1), (0, x), (0, 24 - 8 * (k : Int))] [] c v := by
  intro m
  induction m with
  | zero =>
    intro k v hk ho h1 h2 h3 h4
    exact E109_3 _ _ (brbI (fun _ => hQ v ho (by rw [h1]; omega) h2 (fun j hj => h3 j (by omega)) h4) (fun z => absurd z (by omega)))
  | succ m ih =>
    intro k v hk ho h1 h2 h3 h4
    refine E109_3 _ _ (brbI (fun z => absurd z (by omega)) (fun _ => ?_))
    rw [h1]
    refine brbI (fun z => absurd z (by omega)) (fun _ => chkI (inbI (by omega) (by omega)) (rngI (by omega) (rngI (by omega) ?_)))
    have hv : w8 (w8 (iush x (24 - 8 * (k : Int)))) = cbF x k := by unfold cbF; rw [show (24 - 8 * (k : Int)) = ((24 - 8 * k : Nat) : Int) by omega]
    rw [hv, show 24 - 8 * (k : Int) + (-8) = 24 - 8 * ((k + 1 : Nat) : Int) by omega]
    refine ih (k + 1) _ (by omega) ((ho.up (by decide)).up (by decide)) (by rw [up_same]; omega) (fun i hi => by rw [up_ne _ hi, up_ne2 _ (by decide)]; exact h2 i hi) (fun j hj => ?_) (fun i hi => ?_)
    · rw [up_ne2 _ (by decide)]
      by_cases e : j = k
      · rw [e, up_same]
      · rw [up_ne _ (by omega)]; exact h3 j (by omega)
    · rw [up_ne2 _ (by decide), up_ne _ (by omega)]; exact h4 i hi
theorem C_feedOne {v : sF} {x : Int} (h0 : 0 ≤ v 1 1 ∧ v 1 1 + 4 ≤ 900) : ∃ v', Ev (d + 1) 109 [(2, 1), (0, x)] (c, v) none (c, v') ∧ Off [1, 2] v v' ∧ v' 1 1 = v 1 1 + 4 ∧ (∀ i : Int, i ≠ 1 → v' 1 i = v 1 i) ∧ (∀ j : Nat, j < 4 → v' 2 (v 1 1 + j) = cbF x j) ∧ (∀ i : Int, ¬ (v 1 1 ≤ i ∧ i < v 1 1 + 4) → v' 2 i = v 2 i) :=
  CV_of (loc109 x) (E109_0 x (fo_loop v h0 (fun v' ho h1 h2 h3 h4 => ⟨rfl, v', rfl, ho, h1, h2, h3, h4⟩) 4 0 v (by omega) (Off.rf _ v) (by omega) (fun _ _ => rfl) (fun j hj => by omega) (fun _ _ => rfl)))
theorem X_feed {v : sF} {x1 x2 x3 x4 x5 n : Int} (hn : v 1 1 = n) (h0 : 0 ≤ n ∧ n ≤ 900) : ∃ v', Ev (d + 2) 108 [(2, 1), (0, x1), (0, x2), (0, x3), (0, x4), (0, x5)] (c, v) (some (0, if n + 20 ≤ 900 then n + 20 else -5)) (c, v') ∧ Off [1, 2] v v' ∧ (∀ i : Int, i ≠ 1 → v' 1 i = v 1 i) ∧ ((¬ n + 20 ≤ 900 ∧ v' = v) ∨ (n + 20 ≤ 900 ∧ v' 1 1 = n + 20 ∧ (∀ q j : Nat, q < 5 → j < 4 → v' 2 (n + 4 * q + j) = cbF (sel5 x1 x2 x3 x4 x5 q) j) ∧ ∀ i : Int, i < n → v' 2 i = v 2 i)) := by
  refine CI_of (loc108 x1 x2 x3 x4 x5) (E108_0 x1 x2 x3 x4 x5 ?_)
  rw [hn]
  refine rngI (by omega) (brbI (fun z => ?_) (fun z => ?_))
  · obtain ⟨v1, E1, O1, a1, b1, c1, d1⟩ := C_feedOne (d := d) (c := c) (v := v) (x := x1) (by omega)
    obtain ⟨v2, E2, O2, a2, b2, c2, d2⟩ := C_feedOne (d := d) (c := c) (v := v1) (x := x2) (by omega)
    obtain ⟨v3, E3, O3, a3, b3, c3, d3⟩ := C_feedOne (d := d) (c := c) (v := v2) (x := x3) (by omega)
    obtain ⟨v4, E4, O4, a4, b4, c4, d4⟩ := C_feedOne (d := d) (c := c) (v := v3) (x := x4) (by omega)
    obtain ⟨v5, E5, O5, a5, b5, c5, d5⟩ := C_feedOne (d := d) (c := c) (v := v4) (x := x5) (by omega)
    have e1 : v1 1 1 = n + 4 := by omega
    have e2 : v2 1 1 = n + 8 := by omega
    have e3 : v3 1 1 = n + 12 := by omega
    have e4 : v4 1 1 = n + 16 := by omega
    have e5 : v5 1 1 = n + 20 := by omega
    rw [hn] at c1 d1
    rw [e1] at c2 d2
    rw [e2] at c3 d3
    rw [e3] at c4 d4
    rw [e4] at c5 d5
    refine ⟨c, v1, E1, c, v2, E2, c, v3, E3, c, v4, E4, c, v5, E5, by rw [if_pos z, e5], v5, rfl, O1.tr (O2.tr (O3.tr (O4.tr O5))), fun i hi => by rw [b5 i hi, b4 i hi, b3 i hi, b2 i hi, b1 i hi], Or.inr ⟨z, e5, fun q j hq hj => ?_, fun i hi => by rw [d5 i (by omega), d4 i (by omega), d3 i (by omega), d2 i (by omega), d1 i (by omega)]⟩⟩
    rcases (show q = 0 ∨ q = 1 ∨ q = 2 ∨ q = 3 ∨ q = 4 by omega) with e | e | e | e | e <;> subst e
    · rw [d5 _ (by omega), d4 _ (by omega), d3 _ (by omega), d2 _ (by omega), show n + 4 * ((0 : Nat) : Int) + (j : Int) = n + (j : Int) by omega, c1 j hj]; rfl
    · rw [d5 _ (by omega), d4 _ (by omega), d3 _ (by omega), show n + 4 * ((1 : Nat) : Int) + (j : Int) = n + 4 + (j : Int) by omega, c2 j hj]; rfl
    · rw [d5 _ (by omega), d4 _ (by omega), show n + 4 * ((2 : Nat) : Int) + (j : Int) = n + 8 + (j : Int) by omega, c3 j hj]; rfl
    · rw [d5 _ (by omega), show n + 4 * ((3 : Nat) : Int) + (j : Int) = n + 12 + (j : Int) by omega, c4 j hj]; rfl
    · rw [show n + 4 * ((4 : Nat) : Int) + (j : Int) = n + 16 + (j : Int) by omega, c5 j hj]; rfl
  · rw [if_neg z]
    exact ⟨rfl, v, rfl, Off.rf _ v, fun _ _ => rfl, Or.inl ⟨z, rfl⟩⟩
theorem tm4 (k : Nat) : Int.tmod (k : Int) 4 = ((k % 4 : Nat) : Int) := rfl
theorem fm_loop {x1 x2 x3 x4 x5 n : Int} {Q : sQ} (v0 : sF) (hn : v0 163 5 = n) (h0 : 0 ≤ n ∧ n + 20 ≤ 900) (hQ : ∀ v, Off [163, 166] v0 v → (∀ i : Int, i ≠ 5 → v 163 i = v0 163 i) → v 163 5 = n + 20 → (∀ k : Nat, k < 20 → v 166 (n + k) = mbF (sel5 x1 x2 x3 x4 x5 (k / 4)) (k % 4)) → (∀ i : Int, i < n → v 166 i = v0 166 i) → Q (some (0, n + 20)) (c, v)) : ∀ (m k : Nat) (v : sF), k + m = 20 → Off [163, 166] v0 v → (∀ i : Int, i ≠ 5 → v 163 i = v0 163 i) → v 163 5 = n + k → (∀ j : Nat, j < k → v 166 (n + j) = mbF (sel5 x1 x2 x3 x4 x5 (j / 4)) (j % 4)) → (∀ i : Int, i < n → v 166 i = v0 166 i) → Wp (Ev d) 0 (fun _ => 0) 171 Q 24 [(2, 163), (0, x1), (0, x2), (0, x3), (0, x4), (0, x5), (0, (k : Int)), (9, 0)] [] c v := by
  intro m
  induction m with
  | zero =>
    intro k v hk ho h1 h2 h3 h4
    refine E171_24 _ _ _ _ _ _ (brbI (fun _ => ?_) (fun z => absurd z (by omega)))
    have e : v 163 5 = n + 20 := by omega
    rw [e]
    exact hQ v ho h1 e (fun j hj => h3 j (by omega)) h4
  | succ m ih =>
    intro k v hk ho h1 h2 h3 h4
    have step : ∀ x, x = sel5 x1 x2 x3 x4 x5 (k / 4) → rngc (8 * (Int.tmod (k : Int) 4)) (rngc (24 - (8 * (Int.tmod (k : Int) 4))) (chk (inb (v 163 5) 900) (rngc ((v 163 5) + 1) (rngc ((k : Int) + 1) (Wp (Ev d) 0 (fun _ => 0) 171 Q 24 [(2, 163), (0, x1), (0, x2), (0, x3), (0, x4), (0, x5), (0, (k : Int) + 1), (9, 0)] [] c (up (up v 166 (v 163 5) (iand (ishr x (24 - (8 * (Int.tmod (k : Int) 4)))) 255)) 163 5 ((v 163 5) + 1))))))) := fun x hx => by
      rw [tm4, h2]
      have hb : iand (ishr x (24 - 8 * ((k % 4 : Nat) : Int))) 255 = mbF x (k % 4) := by unfold mbF; rw [show 24 - 8 * ((k % 4 : Nat) : Int) = ((24 - 8 * (k % 4) : Nat) : Int) by omega]
      rw [hb, hx]
      refine rngI (by omega) (rngI (by omega) (chkI (inbI (by omega) (by omega)) (rngI (by omega) (rngI (by omega) (ih (k + 1) _ (by omega) ((ho.up (by decide)).up (by decide)) (fun i hi => by rw [up_ne _ hi, up_ne2 _ (by decide)]; exact h1 i hi) (by rw [up_same]; omega) (fun j hj => ?_) (fun i hi => ?_))))))
      · rw [up_ne2 _ (by decide)]
        by_cases e : j = k
        · rw [e, up_same]
        · rw [up_ne _ (by omega)]; exact h3 j (by omega)
      · rw [up_ne2 _ (by decide), up_ne _ (by omega)]; exact h4 i hi
    refine E171_24 _ _ _ _ _ _ (brbI (fun z => absurd z (by omega)) (fun _ => brbI (fun z4 => brbI (fun z8 => brbI (fun z12 => brbI (fun z16 => step _ ?_) (fun z16 => step _ ?_)) (fun z12 => step _ ?_)) (fun z8 => step _ ?_)) (fun z4 => step _ ?_)))
    · rw [show k / 4 = 4 by omega]; rfl
    · rw [show k / 4 = 3 by omega]; rfl
    · rw [show k / 4 = 2 by omega]; rfl
    · rw [show k / 4 = 1 by omega]; rfl
    · rw [show k / 4 = 0 by omega]; rfl
theorem M_feed {v : sF} {x1 x2 x3 x4 x5 n : Int} (hn : v 163 5 = n) (h0 : 0 ≤ n ∧ n ≤ 900) : ∃ v', Ev (d + 1) 171 [(2, 163), (0, x1), (0, x2), (0, x3), (0, x4), (0, x5)] (c, v) (some (0, if n + 20 ≤ 900 then n + 20 else -5)) (c, v') ∧ Off [163, 166] v v' ∧ (∀ i : Int, i ≠ 0 → i ≠ 5 → v' 163 i = v 163 i) ∧ ((¬ n + 20 ≤ 900 ∧ v' 166 = v 166 ∧ v' 163 5 = n) ∨ (n + 20 ≤ 900 ∧ v' 163 5 = n + 20 ∧ (∀ k : Nat, k < 20 → v' 166 (n + k) = mbF (sel5 x1 x2 x3 x4 x5 (k / 4)) (k % 4)) ∧ ∀ i : Int, i < n → v' 166 i = v 166 i)) := by
  refine CI_of (loc171 x1 x2 x3 x4 x5) (E171_0 x1 x2 x3 x4 x5 ?_)
  rw [hn]
  refine rngI (by omega) (brbI (fun z => ?_) (fun z => ?_))
  · rw [if_pos z]
    refine fm_loop (n := n) (up v 163 0 0) (by rw [up_ne _ (by decide)]; exact hn) (by omega) (fun v' ho h1 h2 h3 h4 => ⟨rfl, v', rfl, ((Off.rf _ v).up (by decide)).tr ho, fun i i0 i5 => by rw [h1 i i5, up_ne _ i0], Or.inr ⟨z, h2, h3, fun i hi => by rw [h4 i hi, up_ne2 _ (by decide)]⟩⟩) 20 0 _ (by omega) (Off.rf _ _) (fun _ _ => rfl) (by rw [up_ne _ (by decide), hn]; omega) (fun j hj => by omega) (fun _ _ => rfl)
  · rw [if_neg z]
    exact ⟨rfl, _, rfl, (Off.rf _ v).up (by decide), fun i i0 i5 => up_ne _ i0, Or.inl ⟨z, up_off 166 (by decide), by rw [up_ne _ (by decide)]; exact hn⟩⟩
theorem cm_byte (x : Int) {j : Nat} (hj : j < 4) : iand (cbF x j) 255 = mbF x j ∧ 0 ≤ mbF x j ∧ mbF x j ≤ 255 := by
  unfold cbF mbF
  exact byte_eq x (by omega)
theorem TpR_feed {v v1 v2 : sF} {x1 x2 x3 x4 x5 : Int} (h : TpR v) (hO1 : Off [1, 2] v v1) (h1 : (¬ v 163 5 + 20 ≤ 900 ∧ v1 = v) ∨ (v 163 5 + 20 ≤ 900 ∧ v1 1 1 = v 163 5 + 20 ∧ (∀ q j : Nat, q < 5 → j < 4 → v1 2 (v 163 5 + 4 * q + j) = cbF (sel5 x1 x2 x3 x4 x5 q) j) ∧ ∀ i : Int, i < v 163 5 → v1 2 i = v 2 i)) (hO2 : Off [163, 166] v1 v2) (h2 : (¬ v 163 5 + 20 ≤ 900 ∧ v2 166 = v1 166 ∧ v2 163 5 = v 163 5) ∨ (v 163 5 + 20 ≤ 900 ∧ v2 163 5 = v 163 5 + 20 ∧ (∀ k : Nat, k < 20 → v2 166 (v 163 5 + k) = mbF (sel5 x1 x2 x3 x4 x5 (k / 4)) (k % 4)) ∧ ∀ i : Int, i < v 163 5 → v2 166 i = v1 166 i)) : TpR v2 := by
  obtain ⟨t1, t2, t3⟩ := h
  have e1 : v2 1 = v1 1 := hO2 1 (by decide)
  have e2 : v2 2 = v1 2 := hO2 2 (by decide)
  have e166 : v1 166 = v 166 := hO1 166 (by decide)
  rcases h1 with ⟨n1, h1⟩ | ⟨y1, a1, a2, a3⟩
  · rcases h2 with ⟨_, b1, b2⟩ | ⟨y2, _⟩
    · unfold TpR
      rw [e1, e2, b1, b2, h1]
      exact ⟨t1, t2, t3⟩
    · exact absurd y2 n1
  · rcases h2 with ⟨n2, _⟩ | ⟨_, b1, b2, b3⟩
    · exact absurd y1 n2
    · unfold TpR
      rw [e1, e2, b1]
      refine ⟨a1, by omega, fun i i0 i1 => ?_⟩
      by_cases e : i < v 163 5
      · rw [a3 i e, b3 i e, e166]; exact t3 i i0 e
      · obtain ⟨k, hk⟩ : ∃ k : Nat, i = v 163 5 + (k : Int) := ⟨(i - v 163 5).toNat, by omega⟩
        have hk20 : k < 20 := by omega
        rw [hk, b2 k hk20, show v 163 5 + (k : Int) = v 163 5 + 4 * ((k / 4 : Nat) : Int) + ((k % 4 : Nat) : Int) by omega, a2 (k / 4) (k % 4) (by omega) (by omega)]
        exact cm_byte _ (by omega)
end Feed
