section Chan2
variable {d c : Nat}
theorem td_nat {A b : Nat} (h : A ≤ 9000000000000000000) : w64 (Int.tdiv (A : Int) (b : Int)) = ((A / b : Nat) : Int) := by
  have e : Int.tdiv (A : Int) (b : Int) = ((A / b : Nat) : Int) := rfl
  rw [e]
  have := Nat.div_le_self A b
  generalize A / b = z at *
  unfold w64
  omega
theorem tm_nat (A b : Nat) : Int.tmod (A : Int) (b : Int) = ((A % b : Nat) : Int) := rfl
theorem cop2 {A : Nat} (h : ¬ A % 2 = 0) : Nat.gcd A 2 = 1 := by
  have h1 := Nat.gcd_dvd_right A 2
  have h2 := Nat.gcd_dvd_left A 2
  have h3 := Nat.le_of_dvd (by decide) h1
  rcases (show Nat.gcd A 2 = 0 ∨ Nat.gcd A 2 = 1 ∨ Nat.gcd A 2 = 2 by omega) with e | e | e
  · rw [e] at h1; exact absurd h1 (by decide)
  · exact e
  · rw [e] at h2; exact absurd (Nat.mod_eq_zero_of_dvd h2) h
theorem cop5 {A : Nat} (h : ¬ A % 5 = 0) : Nat.gcd A 5 = 1 := by
  have h1 := Nat.gcd_dvd_right A 5
  have h2 := Nat.gcd_dvd_left A 5
  have h3 := Nat.le_of_dvd (by decide) h1
  rcases (show Nat.gcd A 5 = 0 ∨ Nat.gcd A 5 = 1 ∨ Nat.gcd A 5 = 2 ∨ Nat.gcd A 5 = 3 ∨ Nat.gcd A 5 = 4 ∨ Nat.gcd A 5 = 5 by omega) with e | e | e | e | e | e
  · rw [e] at h1; exact absurd h1 (by decide)
  · exact e
  · rw [e] at h1; exact absurd h1 (by decide)
  · rw [e] at h1; exact absurd h1 (by decide)
  · rw [e] at h1; exact absurd h1 (by decide)
  · rw [e] at h2; exact absurd (Nat.mod_eq_zero_of_dvd h2) h
/-- what is left after i of the fifteen steps -/
def lwI (A0 B0 n i A B : Nat) : Prop := ∃ m u w, A0 = m * A ∧ B0 = m * B ∧ 0 < m ∧ B = 2 ^ u * 5 ^ w ∧ (u + i ≤ n ∨ ¬ (A % 2 = 0 ∧ B % 2 = 0)) ∧ (w + i ≤ n ∨ ¬ (A % 5 = 0 ∧ B % 5 = 0))
theorem m2 {u w : Nat} : (2 ^ (u + 1) * 5 ^ w) = 2 * (2 ^ u * 5 ^ w) := by rw [Nat.pow_succ, Nat.mul_comm (2 ^ u) 2, Nat.mul_assoc]
theorem m5 {u w : Nat} : (2 ^ u * 5 ^ (w + 1)) = 5 * (2 ^ u * 5 ^ w) := by rw [Nat.pow_succ, ← Nat.mul_assoc, Nat.mul_comm]
theorem pw5_odd (w : Nat) : 5 ^ w % 2 = 1 := by
  induction w with
  | zero => rfl
  | succ w ih => rw [Nat.pow_succ]; omega
theorem pw2_n5 (u : Nat) : 2 ^ u % 5 ≠ 0 := by
  induction u with
  | zero => decide
  | succ u ih => rw [Nat.pow_succ]; omega
/-- the step by 2 -/
theorem st2 {A0 B0 n A B : Nat} {i2 i5 : Nat} (h : ∃ m u w, A0 = m * A ∧ B0 = m * B ∧ 0 < m ∧ B = 2 ^ u * 5 ^ w ∧ (u + i2 ≤ n ∨ ¬ (A % 2 = 0 ∧ B % 2 = 0)) ∧ (w + i5 ≤ n ∨ ¬ (A % 5 = 0 ∧ B % 5 = 0))) : (A % 2 = 0 ∧ B % 2 = 0 → ∃ m u w, A0 = m * (A / 2) ∧ B0 = m * (B / 2) ∧ 0 < m ∧ B / 2 = 2 ^ u * 5 ^ w ∧ (u + (i2 + 1) ≤ n ∨ ¬ (A / 2 % 2 = 0 ∧ B / 2 % 2 = 0)) ∧ (w + i5 ≤ n ∨ ¬ (A / 2 % 5 = 0 ∧ B / 2 % 5 = 0))) ∧ (¬ (A % 2 = 0 ∧ B % 2 = 0) → ∃ m u w, A0 = m * A ∧ B0 = m * B ∧ 0 < m ∧ B = 2 ^ u * 5 ^ w ∧ (u + (i2 + 1) ≤ n ∨ ¬ (A % 2 = 0 ∧ B % 2 = 0)) ∧ (w + i5 ≤ n ∨ ¬ (A % 5 = 0 ∧ B % 5 = 0))) := by
  obtain ⟨m, u, w, h1, h2, h3, h4, h5, h6⟩ := h
  refine ⟨fun q => ?_, fun q => ⟨m, u, w, h1, h2, h3, h4, Or.inr q, h6⟩⟩
  have hA : A = 2 * (A / 2) := by omega
  have hB : B = 2 * (B / 2) := by omega
  match u, h4, h5 with
  | 0, h4, h5 =>
    have := pw5_odd w
    rw [Nat.pow_zero, Nat.one_mul] at h4
    omega
  | u + 1, h4, h5 =>
    rw [m2] at h4
    refine ⟨m * 2, u, w, ?_, ?_, by omega, by omega, ?_, ?_⟩
    · rw [Nat.mul_assoc, ← hA]; exact h1
    · rw [Nat.mul_assoc, ← hB]; exact h2
    · rcases h5 with h5 | h5
      · left; omega
      · exact absurd q h5
    · rcases h6 with h6 | h6
      · left; exact h6
      · right; intro z; apply h6; omega
theorem st5 {A0 B0 n A B : Nat} {i2 i5 : Nat} (h : ∃ m u w, A0 = m * A ∧ B0 = m * B ∧ 0 < m ∧ B = 2 ^ u * 5 ^ w ∧ (u + i2 ≤ n ∨ ¬ (A % 2 = 0 ∧ B % 2 = 0)) ∧ (w + i5 ≤ n ∨ ¬ (A % 5 = 0 ∧ B % 5 = 0))) : (A % 5 = 0 ∧ B % 5 = 0 → ∃ m u w, A0 = m * (A / 5) ∧ B0 = m * (B / 5) ∧ 0 < m ∧ B / 5 = 2 ^ u * 5 ^ w ∧ (u + i2 ≤ n ∨ ¬ (A / 5 % 2 = 0 ∧ B / 5 % 2 = 0)) ∧ (w + (i5 + 1) ≤ n ∨ ¬ (A / 5 % 5 = 0 ∧ B / 5 % 5 = 0))) ∧ (¬ (A % 5 = 0 ∧ B % 5 = 0) → ∃ m u w, A0 = m * A ∧ B0 = m * B ∧ 0 < m ∧ B = 2 ^ u * 5 ^ w ∧ (u + i2 ≤ n ∨ ¬ (A % 2 = 0 ∧ B % 2 = 0)) ∧ (w + (i5 + 1) ≤ n ∨ ¬ (A % 5 = 0 ∧ B % 5 = 0))) := by
  obtain ⟨m, u, w, h1, h2, h3, h4, h5, h6⟩ := h
  refine ⟨fun q => ?_, fun q => ⟨m, u, w, h1, h2, h3, h4, h5, Or.inr q⟩⟩
  have hA : A = 5 * (A / 5) := by omega
  have hB : B = 5 * (B / 5) := by omega
  match w, h4, h6 with
  | 0, h4, h6 =>
    have := pw2_n5 u
    rw [Nat.pow_zero, Nat.mul_one] at h4
    omega
  | w + 1, h4, h6 =>
    rw [m5] at h4
    refine ⟨m * 5, u, w, ?_, ?_, by omega, by omega, ?_, ?_⟩
    · rw [Nat.mul_assoc, ← hA]; exact h1
    · rw [Nat.mul_assoc, ← hB]; exact h2
    · rcases h5 with h5 | h5
      · left; exact h5
      · right; intro z; apply h5; omega
    · rcases h6 with h6 | h6
      · left; omega
      · exact absurd q h6
theorem lw_end {A0 B0 n A B : Nat} (hn : n ≤ 15) (h : lwI A0 B0 n 15 A B) : Nat.gcd A0 B0 ≠ 0 ∧ A = A0 / Nat.gcd A0 B0 ∧ B = B0 / Nat.gcd A0 B0 := by
  obtain ⟨m, u, w, h1, h2, h3, h4, h5, h6⟩ := h
  have c2 : Nat.Coprime A (2 ^ u) := by
    match u, h4, h5 with
    | 0, _, _ => exact Nat.gcd_one_right A
    | u + 1, h4, h5 =>
      rw [m2] at h4
      have : ¬ A % 2 = 0 := fun q => by rcases h5 with h5 | h5; omega; exact h5 ⟨q, by omega⟩
      exact Nat.Coprime.pow_right _ (cop2 this)
  have c5 : Nat.Coprime A (5 ^ w) := by
    match w, h4, h6 with
    | 0, _, _ => exact Nat.gcd_one_right A
    | w + 1, h4, h6 =>
      rw [m5] at h4
      have : ¬ A % 5 = 0 := fun q => by rcases h6 with h6 | h6; omega; exact h6 ⟨q, by omega⟩
      exact Nat.Coprime.pow_right _ (cop5 this)
  have cc : Nat.gcd A B = 1 := by rw [h4]; exact Nat.Coprime.mul_right c2 c5
  have e : Nat.gcd A0 B0 = m := by rw [h1, h2, Nat.gcd_mul_left, cc, Nat.mul_one]
  rw [e]
  refine ⟨by omega, ?_, ?_⟩
  · rw [h1, Nat.mul_div_cancel_left _ h3]
  · rw [h2, Nat.mul_div_cancel_left _ h3]
theorem z2 {A : Nat} : lcm1 (Int.tmod (A : Int) 2) 0 = 0 ↔ A % 2 = 0 := by
  have e : Int.tmod (A : Int) 2 = ((A % 2 : Nat) : Int) := rfl
  rw [lcm1_eq, e]
  omega
theorem z5 {A : Nat} : lcm1 (Int.tmod (A : Int) 5) 0 = 0 ↔ A % 5 = 0 := by
  have e : Int.tmod (A : Int) 5 = ((A % 5 : Nat) : Int) := rfl
  rw [lcm1_eq, e]
  omega
theorem lw_loop {v : sF} {w : Int} {A0 B0 n : Nat} {Q : sQ} (hn : n ≤ 15) (hA0 : A0 ≤ 1000000000000000000) (hB0 : B0 ≤ 1000000000000000000) (hQ : Q (some (1, ((if w = 0 then A0 / Nat.gcd A0 B0 else B0 / Nat.gcd A0 B0 : Nat) : Int))) (c, v)) : ∀ (m i A B : Nat), i + m = 15 → A ≤ A0 → B ≤ B0 → lwI A0 B0 n i A B → Wp (Ev d) 0 (fun _ => 0) 4 Q 16 [(9, 0), (9, 0), (0, w), (1, (A : Int)), (9, 0), (1, (B : Int)), (9, 0), (0, (i : Int))] [] c v := by
  intro m
  induction m with
  | zero =>
    intro i A B hi hA hB hI
    have hi : i = 15 := hi
    subst hi
    have he := lw_end hn hI
    refine E4_16 _ _ _ _ (brbI (fun _ => brbN (fun q => ?_) (fun q => ?_)) (fun q => absurd q (by decide)))
    · rw [if_neg q, ← he.2.2] at hQ; exact hQ
    · rw [if_pos q, ← he.2.1] at hQ; exact hQ
  | succ m ih =>
    intro i A B hi hA hB hI
    have ihk := ih (i + 1)
    have s2 := st2 hI
    have d2 : w64 (Int.tdiv (A : Int) 2) = ((A / 2 : Nat) : Int) := td_nat (b := 2) (by omega)
    have d2' : w64 (Int.tdiv (B : Int) 2) = ((B / 2 : Nat) : Int) := td_nat (b := 2) (by omega)
    have d5 : w64 (Int.tdiv (A : Int) 5) = ((A / 5 : Nat) : Int) := td_nat (b := 5) (by omega)
    have d5' : w64 (Int.tdiv (B : Int) 5) = ((B / 5 : Nat) : Int) := td_nat (b := 5) (by omega)
    have d25 : w64 (Int.tdiv ((A / 2 : Nat) : Int) 5) = ((A / 2 / 5 : Nat) : Int) := td_nat (b := 5) (by omega)
    have d25' : w64 (Int.tdiv ((B / 2 : Nat) : Int) 5) = ((B / 2 / 5 : Nat) : Int) := td_nat (b := 5) (by omega)
    refine E4_16 _ _ _ _ (brbI (fun q => absurd q (by omega)) (fun _ => ?_))
    rw [d2, d2', d5, d5', d25, d25']
    have hno2 : ¬ (A % 2 = 0 ∧ B % 2 = 0) → (¬ (A % 5 = 0 ∧ B % 5 = 0) → Wp (Ev d) 0 (fun _ => 0) 4 Q 16 [(9, 0), (9, 0), (0, w), (1, (A : Int)), (9, 0), (1, (B : Int)), (9, 0), (0, (i : Int) + 1)] [] c v) ∧ ((A % 5 = 0 ∧ B % 5 = 0) → Wp (Ev d) 0 (fun _ => 0) 4 Q 16 [(9, 0), (9, 0), (0, w), (1, ((A / 5 : Nat) : Int)), (9, 0), (1, ((B / 5 : Nat) : Int)), (9, 0), (0, (i : Int) + 1)] [] c v) := fun hq => by
      have s5 := st5 (s2.2 hq)
      exact ⟨fun z => ihk A B (by omega) hA hB (s5.2 z), fun z => ihk (A / 5) (B / 5) (by omega) (by omega) (by omega) (s5.1 z)⟩
    refine brbN (fun q => brbN (fun q5 => rngI (by omega) ?_) (fun q5 => brbN (fun q6 => rngI (by omega) ?_) (fun q6 => rngI (by omega) ?_))) (fun q => brbN (fun q2 => brbN (fun q5 => rngI (by omega) ?_) (fun q5 => brbN (fun q6 => rngI (by omega) ?_) (fun q6 => rngI (by omega) ?_))) (fun q2 => ?_))
    · rw [z2] at q; rw [z5] at q5; exact (hno2 (fun z => q z.1)).1 (fun z => q5 z.1)
    · rw [z2] at q; rw [z5] at q5 q6; exact (hno2 (fun z => q z.1)).1 (fun z => q6 z.2)
    · rw [z2] at q; rw [z5] at q5 q6; exact (hno2 (fun z => q z.1)).2 ⟨q5, q6⟩
    · rw [z2] at q2; rw [z5] at q5; exact (hno2 (fun z => q2 z.2)).1 (fun z => q5 z.1)
    · rw [z2] at q2; rw [z5] at q5 q6; exact (hno2 (fun z => q2 z.2)).1 (fun z => q6 z.2)
    · rw [z2] at q2; rw [z5] at q5 q6; exact (hno2 (fun z => q2 z.2)).2 ⟨q5, q6⟩
    · rw [z2] at q q2
      have s5 := st5 (s2.1 ⟨q, q2⟩)
      refine brbN (fun q5 => rngI (by omega) ?_) (fun q5 => brbN (fun q6 => rngI (by omega) ?_) (fun q6 => rngI (by omega) ?_))
      · rw [z5] at q5; exact ihk (A / 2) (B / 2) (by omega) (by omega) (by omega) (s5.2 (fun z => q5 z.1))
      · rw [z5] at q5 q6; exact ihk (A / 2) (B / 2) (by omega) (by omega) (by omega) (s5.2 (fun z => q6 z.2))
      · rw [z5] at q5 q6; exact ihk (A / 2 / 5) (B / 2 / 5) (by omega) (by omega) (by omega) (s5.1 ⟨q5, q6⟩)
theorem p10n (n : Nat) : ((10 ^ n : Nat) : Int) = 10 ^ n := by rw [Int.natCast_pow]; rfl
def q_low (x : Int) (n : Nat) (w : Int) : Int := ((if w = 0 then x.toNat / Nat.gcd x.toNat (10 ^ n) else 10 ^ n / Nat.gcd x.toNat (10 ^ n) : Nat) : Int)
theorem C_lowest {v : sF} {al : Int → Int} {p k w : Int} {n : Nat} (hT : okT al) (hp : 0 ≤ p ∧ p < 6) (hn : n ≤ 15) (hk : 0 ≤ k ∧ k < al 1) (hC : ChX v al p n) : Ev (d + 1) 4 [(2, 148), (0, k), (0, w)] (c, v) (some (1, q_low (lkl al p n k) n w)) (c, v) := by
  have h1 := hT.1
  have hb := p10_c hn
  have hr := lkl_rng hT hp n hk
  refine Ev_of (loc4 k w) (E4_0 k w (chkI (inbI (by omega) (by omega)) ?_))
  rw [hC.1, hC.2 k hk.1 hk.2]
  have hx : lkl al p n k = (((lkl al p n k).toNat : Nat) : Int) := by omega
  have hB : (10 ^ n : Nat) ≤ 1000000000000000 := by have := p10n n; omega
  have := lw_loop (d := d) (c := c) (v := v) (w := w) (A0 := (lkl al p n k).toNat) (B0 := 10 ^ n) (n := n) (Q := fun r2 μ2 => r2 = some (1, q_low (lkl al p n k) n w) ∧ μ2 = (c, v)) hn (by omega) (by omega) ⟨rfl, rfl⟩ 15 0 _ _ (by omega) (Nat.le_refl _) (Nat.le_refl _) ⟨1, n, n, by omega, by omega, by decide, by rw [← Nat.mul_pow], Or.inl (by omega), Or.inl (by omega)⟩
  rw [← hx, p10n] at this
  exact this
/-- the model's side -/
theorem tens_loop {v : sF} {n : Nat} {Q : sQ} (hn : n ≤ 15) (hQ : Q (some (1, 10 ^ n)) (c, v)) : ∀ (m k : Nat), k + m = n → Wp (Ev d) 0 (fun _ => 0) 284 Q 4 [(0, (n : Int)), (1, 10 ^ k), (9, 0), (0, (k : Int))] [] c v := by
  intro m
  induction m with
  | zero =>
    intro k hk
    have hk : k = n := hk
    subst hk
    exact E284_4 _ _ _ (brbI (fun _ => hQ) (fun q => absurd q (by omega)))
  | succ m ih =>
    intro k hk
    have hb := p10_b (n := k) (by omega)
    have ihk := ih (k + 1) (by omega)
    rw [p10, Int.mul_comm] at ihk
    exact E284_4 _ _ _ (brbI (fun q => absurd q (by omega)) (fun _ => rnlI (by omega) (rngI (by omega) ihk)))
theorem C_tens {v : sF} {n : Nat} (hn : n ≤ 15) : Ev (d + 1) 284 [(0, (n : Int))] (c, v) (some (1, 10 ^ n)) (c, v) := Ev_of (loc284 n) (E284_0 n (tens_loop hn ⟨rfl, rfl⟩ n 0 (by omega)))
theorem com_0b {v : sF} {a b : Nat} (hb : b = 0) : Ev (d + 1) 285 [(1, (a : Int)), (1, (b : Int))] (c, v) (some (1, ((Nat.gcd a b : Nat) : Int))) (c, v) := by
  subst hb
  refine Ev_of (loc285 a _) (E285_0 a _ (bne0 (fun q => absurd rfl q) (fun _ => ⟨?_, rfl⟩)))
  rw [Nat.gcd_zero_right]
theorem com_st {v : sF} {a b : Nat} (hb : b ≠ 0) (h : Ev d 285 [(1, (b : Int)), (1, ((a % b : Nat) : Int))] (c, v) (some (1, ((Nat.gcd b (a % b) : Nat) : Int))) (c, v)) : Ev (d + 1) 285 [(1, (a : Int)), (1, (b : Int))] (c, v) (some (1, ((Nat.gcd a b : Nat) : Int))) (c, v) := by
  refine Ev_of (loc285 a b) (E285_0 a b (bne0 (fun q => chkN (by omega) ⟨_, c, v, h, ?_, rfl⟩) (fun q => absurd q (by omega))))
  rw [Nat.gcd_comm a b, Nat.gcd_rec b a, Nat.gcd_comm (a % b) b]
theorem C_common {v : sF} : ∀ (k d a b : Nat), b < 2 ^ k → Ev (d + 2 * k + 1) 285 [(1, (a : Int)), (1, (b : Int))] (c, v) (some (1, ((Nat.gcd a b : Nat) : Int))) (c, v) := by
  intro k
  induction k with
  | zero => intro d a b hb; exact com_0b (by omega)
  | succ k ih =>
    intro d a b hb
    rw [Nat.pow_succ] at hb
    by_cases h0 : b = 0
    · exact com_0b h0
    · refine com_st h0 ?_
      by_cases h1 : a % b = 0
      · exact com_0b h1
      · refine com_st h1 (ih d b (a % b) |> fun _ => ?_)
        refine ih d (a % b) (b % (a % b)) ?_
        have q1 := Nat.mod_lt a (show 0 < b by omega)
        have q2 := Nat.mod_lt b (show 0 < a % b by omega)
        have q3 := Nat.mod_add_div b (a % b)
        have q4 : 1 ≤ b / (a % b) := (Nat.one_le_div_iff (by omega)).2 (by omega)
        have q5 := Nat.mul_le_mul_left (a % b) q4
        omega
theorem Off.m2 {v v' : sF} {S T : List Int} (h : Off S v v') (hs : ∀ x ∈ S, x ∈ T) : Off T v v' := h.wk hs
/-- what the model has laid -/
def AwM (v : sF) (al : Int → Int) (p k : Int) : Prop := v 176 k = aw al p k ∧ v 175 k = scd al p k
theorem la_loop {p : Int} {Q : sQ} (v0 : sF) (hS : Sn (v0 164)) (hi : v0 163 18 = -1) (hp : 0 ≤ p ∧ p < v0 164 2) (hQ : ∀ v, Off [168, 169, 175, 176] v0 v → (∀ k : Int, 0 ≤ k → k < v0 164 1 → AwM v (v0 164) p k) → Q none (c, v)) : ∀ (m : Nat) (k : Int) (v : sF), 0 ≤ k → k + m = v0 164 1 → Off [168, 169, 175, 176] v0 v → (∀ j : Int, 0 ≤ j → j < k → AwM v (v0 164) p j) → Wp (Ev (d + 4)) 0 (fun _ => 0) 282 Q 7 [(2, 163), (0, p), (0, k), (9, 0), (9, 0)] [] c v := by
  have h1 := hS.1.1
  have h2 := hS.1.2.1
  intro m
  induction m with
  | zero =>
    intro k v k0 hk ho hj
    refine E282_7 _ _ ?_
    rw [ho 164 (by decide)]
    exact brbI (fun _ => hQ v ho (fun j j0 j1 => hj j j0 (by omega))) (fun q => absurd q (by omega))
  | succ m ih =>
    intro k v k0 hk ho hj
    have ea : v 164 = v0 164 := ho 164 (by decide)
    have hgo : ∀ v1 a b, Off [168, 169] v v1 → a = aw (v0 164) p k → b = scd (v0 164) p k → ∀ v2, Off [168, 169] (up v1 176 k a) v2 → Wp (Ev (d + 4)) 0 (fun _ => 0) 282 Q 7 [(2, 163), (0, p), (0, k + 1), (9, 0), (9, 0)] [] c (up v2 175 k b) := fun v1 a b ho1 hea heb v2 ho2 => by
      refine ih (k + 1) _ (by omega) (by omega) ((((ho.tr (ho1.wk (by decide))).up (by decide)).tr (ho2.wk (by decide))).up (by decide)) (fun j j0 j1 => ?_)
      unfold AwM
      rw [up_off 176 (by decide), ho2 176 (by decide)]
      by_cases e : j = k
      · rw [e, up_same, up_same]; exact ⟨hea, heb⟩
      · rw [up_ne _ e, up_ne _ e, ho2 175 (by decide), up_off 175 (by decide), ho1 175 (by decide), ho1 176 (by decide)]
        exact hj j j0 (by omega)
    refine E282_7 _ _ ?_
    rw [ea]
    refine brbI (fun q => absurd q (by omega)) (fun _ => rngI (by omega) (chkI (inbI (by omega) (by omega)) (brbN (fun q => ?_) (fun q => ?_))))
    · obtain ⟨v1, hE1, hO1⟩ := C_sender (d := d) (c := c) (v := v) (to := p) (place := k) (but := -1) (by rw [ea]; exact hS.1) (by rw [ea]; exact hS.2) (by omega)
      have e1 : v1 164 = v0 164 := (hO1 164 (by decide)).trans ea
      have e13 : v1 163 = v0 163 := (hO1 163 (by decide)).trans (ho 163 (by decide))
      rw [ea, ho 163 (by decide), hi] at hE1
      refine ⟨_, c, v1, hE1, brbN (fun q2 => ?_) (fun q2 => ?_)⟩
      · have hs1 := sdA_ok h2.1 q2
        obtain ⟨v2, hE2, hO2⟩ := C_sender (d := d) (c := c) (v := v1) (to := p) (place := k) (but := sdA (v0 164) (-1) p k (-1)) (by rw [e1]; exact hS.1) (by rw [e1]; exact hS.2) (by omega)
        have e2 : v2 164 = v0 164 := (hO2 164 (by decide)).trans e1
        rw [e1, e13, hi] at hE2
        have haw : v2 164 (21 + sdA (v0 164) (-1) p k (-1)) = aw (v0 164) p k := by rw [e2]; unfold aw; rw [if_neg q, if_neg q2]
        refine ⟨_, c, v2, hE2, brbN (fun _ => rngI (by omega) (chkI (inbI (by omega) (by omega)) (chkI (inbI (by omega) (by omega)) (brbN (fun q3 => ?_) (fun q3 => chkI (inbI (by omega) (by omega)) (rngI (by omega) ?_)))))) (fun z => absurd z q2)⟩
        · have hs2 := sdA_ok h2.1 q3
          have e3 : up v2 176 k (v2 164 (21 + sdA (v0 164) (-1) p k (-1))) 164 = v0 164 := by rw [up_off 164 (by decide)]; exact e2
          obtain ⟨v3, hE3, hO3⟩ := C_wouldOf (d := d + 1) (c := c) (v := up v2 176 k (v2 164 (21 + sdA (v0 164) (-1) p k (-1)))) (p := sdA (v0 164) (-1) p k (sdA (v0 164) (-1) p k (-1))) (q := p) (by rw [e3]; exact hS.1) (by rw [e3]; exact hS.2) (by omega) (by omega)
          rw [e3] at hE3
          exact ⟨_, c, v3, hE3, chkI (inbI (by omega) (by omega)) (rngI (by omega) (hgo v2 _ _ (hO1.tr hO2) haw (by unfold scd; rw [if_neg q, if_neg q2, if_neg q3]) v3 hO3))⟩
        · exact hgo v2 _ _ (hO1.tr hO2) haw (by unfold scd; rw [if_neg q, if_neg q2, if_pos q3]) _ (Off.rf _ _)
      · exact brbN (fun z => absurd q2 z) (fun _ => chkI (inbI (by omega) (by omega)) (chkI (inbI (by omega) (by omega)) (rngI (by omega) (hgo v1 _ _ hO1 (by unfold aw; rw [if_neg q, if_pos q2]) (by unfold scd; rw [if_neg q, if_pos q2]) _ (Off.rf _ _)))))
    · exact chkI (inbI (by omega) (by omega)) (chkI (inbI (by omega) (by omega)) (rngI (by omega) (hgo v _ _ (Off.rf _ _) (by unfold aw; rw [if_pos q]) (by unfold scd; rw [if_pos q]) _ (Off.rf _ _))))
theorem C_laysAway {v : sF} {p : Int} (hS : Sn (v 164)) (hi : v 163 18 = -1) (hp : 0 ≤ p ∧ p < v 164 2) : ∃ v', Ev (d + 7) 282 [(2, 163), (0, p)] (c, v) none (c, v') ∧ Off [168, 169, 171, 175, 176] v v' ∧ MN v' (nxA (v 164) (-1) p) (v 164 1) ∧ ∀ k : Int, 0 ≤ k → k < v 164 1 → AwM v' (v 164) p k := by
  have h1 := hS.1.1
  obtain ⟨v1, hE, hO, hN⟩ := C_laysM (d := d) (c := c) (v := v) hS hp
  have e1 : v1 164 = v 164 := hO 164 (by decide)
  rw [hi] at hN
  refine CV_of (loc282 p) (E282_0 p ⟨c, v1, hE, ?_⟩)
  refine la_loop (d := d + 2) v1 (by rw [e1]; exact hS) (by rw [hO 163 (by decide)]; exact hi) (by rw [e1]; exact hp) (fun v2 ho hj => ⟨rfl, _, rfl, (hO.wk (by decide)).tr (ho.wk (by decide)), ⟨hN.1, fun x x0 x1 => by rw [ho 171 (by decide)]; exact hN.2 x x0 x1⟩, by rw [e1] at hj; exact hj⟩) (v1 164 1).toNat 0 v1 (by omega) (by rw [e1]; omega) (Off.rf _ _) (fun j j0 j1 => absurd j0 (by omega))
end Chan2
