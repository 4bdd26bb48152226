section Graph
theorem itf_succ (g : Int → Int) : ∀ (n : Nat) (x : Int), itf g (n + 1) x = g (itf g n x) := by
  intro n
  induction n with
  | zero => intro x; rfl
  | succ n ih => intro x; exact ih (g x)
theorem php : ∀ (N : Nat) (f : Nat → Int), (∀ i, i ≤ N → 0 ≤ f i ∧ f i < N) → ∃ i j, i < j ∧ j ≤ N ∧ f i = f j := by
  intro N
  induction N with
  | zero => intro f h; have := h 0 (Nat.le_refl 0); omega
  | succ N ih =>
    intro f h
    by_cases hx : ∃ i, i ≤ N ∧ f i = f (N + 1)
    · obtain ⟨i, h1, h2⟩ := hx
      exact ⟨i, N + 1, by omega, by omega, h2⟩
    · have hne : ∀ i, i ≤ N → f i ≠ f (N + 1) := fun i hi q => hx ⟨i, hi, q⟩
      have hl := h (N + 1) (by omega)
      obtain ⟨i, j, h1, h2, h3⟩ := ih (fun i => if f i = N then f (N + 1) else f i) (fun i hi => by
        have q1 := hne i hi
        have q2 := h i (by omega)

        split <;> omega)
      have q1 := hne i (by omega)
      have q2 := hne j (by omega)

      refine ⟨i, j, h1, by omega, ?_⟩
      split at h3 <;> split at h3 <;> omega
theorem least {p : Nat → Prop} (hd : ∀ n, p n ∨ ¬ p n) : ∀ n, p n → ∃ m, m ≤ n ∧ p m ∧ ∀ k, k < m → ¬ p k := by
  intro n
  induction n using Nat.strongRecOn with
  | _ n ih =>
    intro h
    by_cases hx : ∃ k, k < n ∧ p k
    · obtain ⟨k, h1, h2⟩ := hx
      obtain ⟨m, q1, q2, q3⟩ := ih k h1 h2
      exact ⟨m, by omega, q2, q3⟩
    · exact ⟨n, Nat.le_refl n, h, fun k hk q => hx ⟨k, hk, q⟩⟩
/-- the way from x: a tail of length mu, a ring of length la -/
def Rho (g : Int → Int) (x : Int) (N : Int) (mu la : Nat) : Prop := 1 ≤ la ∧ (mu + la : Int) ≤ N ∧ itf g (mu + la) x = itf g mu x ∧ ∀ i j, i < j → j < mu + la → itf g i x ≠ itf g j x
/-- g keeps within N places -/
def Gd (g : Int → Int) (N : Int) : Prop := (0 ≤ N ∧ N ≤ 6) ∧ ∀ x, 0 ≤ x → x < N → 0 ≤ g x ∧ g x < N
theorem Gd.it {g : Int → Int} {N : Int} (h : Gd g N) (n : Nat) {x : Int} (hx : 0 ≤ x ∧ x < N) : 0 ≤ itf g n x ∧ itf g n x < N := itf_rng h.2 n x hx.1 hx.2
theorem rho {g : Int → Int} {N x : Int} (h : Gd g N) (hx : 0 ≤ x ∧ x < N) : ∃ mu la, Rho g x N mu la := by
  have hN : N = (N.toNat : Int) := by omega
  obtain ⟨i, j, h1, h2, h3⟩ := php N.toNat (fun i => itf g i x) (fun i _ => by rw [← hN]; exact h.it i hx)
  obtain ⟨m, q1, ⟨k, q2, q3⟩, q4⟩ := least (p := fun j => ∃ i, i < j ∧ itf g i x = itf g j x) (fun n => Classical.em _) j ⟨i, h1, h3⟩
  refine ⟨k, m - k, by omega, by omega, ?_, fun a b hab hb q => ?_⟩
  · rw [show k + (m - k) = m by omega]; exact q3.symm
  · exact q4 b (by omega) ⟨a, hab, q⟩
section R
variable {g : Int → Int} {x N : Int} {mu la : Nat}
theorem Rho.per (h : Rho g x N mu la) : ∀ n, mu ≤ n → itf g (n + la) x = itf g n x := by
  intro n hn
  have h1 := h.2.2.1
  rw [show n + la = (mu + la) + (n - mu) by omega, itf_add, h1, ← itf_add, show mu + (n - mu) = n by omega]
theorem Rho.perk (h : Rho g x N mu la) : ∀ k n, mu ≤ n → itf g (n + la * k) x = itf g n x := by
  intro k
  induction k with
  | zero => intro n _; rfl
  | succ k ih =>
    intro n hn
    rw [Nat.mul_succ, ← Nat.add_assoc, h.per _ (by have := Nat.zero_le (la * k); omega)]
    exact ih n hn
theorem Rho.red (h : Rho g x N mu la) {n : Nat} (hn : mu ≤ n) : itf g n x = itf g (mu + (n - mu) % la) x := by
  have e := Nat.mod_add_div (n - mu) la
  rw [← h.perk ((n - mu) / la) (mu + (n - mu) % la) (by omega)]
  congr 1
  omega
theorem Rho.lo (h : Rho g x N mu la) (n : Nat) : ∃ i, i < mu + la ∧ itf g n x = itf g i x := by
  by_cases hn : mu ≤ n
  · have := Nat.mod_lt (n - mu) (show 0 < la by have := h.1; omega)
    exact ⟨_, by omega, h.red hn⟩
  · exact ⟨n, by have := h.1; omega, rfl⟩
theorem Rho.sep (h : Rho g x N mu la) {m n : Nat} (hm : m < mu) (hn : m < n) : itf g m x ≠ itf g n x := by
  by_cases hl : n < mu + la
  · exact h.2.2.2 m n hn hl
  · rw [h.red (n := n) (by have := h.1; omega)]
    have := Nat.mod_lt (n - mu) (show 0 < la by have := h.1; omega)
    exact h.2.2.2 m _ (by omega) (by omega)
theorem Rho.eqm (h : Rho g x N mu la) {m n : Nat} (hm : mu ≤ m) (hn : mu ≤ n) (he : itf g m x = itf g n x) : (m - mu) % la = (n - mu) % la := by
  have hl : 0 < la := by have := h.1; omega
  have q1 := Nat.mod_lt (m - mu) hl
  have q2 := Nat.mod_lt (n - mu) hl
  rw [h.red hm, h.red hn] at he
  rcases Nat.lt_trichotomy ((m - mu) % la) ((n - mu) % la) with q | q | q
  · exact absurd he (h.2.2.2 _ _ (by omega) (by omega))
  · exact q
  · exact absurd he.symm (h.2.2.2 _ _ (by omega) (by omega))
theorem Rho.shift (h : Rho g x N mu la) {n : Nat} (hn : mu ≤ n) : Rho g (itf g n x) N 0 la := by
  have hl : 0 < la := by have := h.1; omega
  refine ⟨h.1, by have := h.2.1; omega, ?_, fun i j hij hj q => ?_⟩
  · rw [Nat.zero_add, ← itf_add, h.per n hn]; rfl
  · rw [← itf_add, ← itf_add] at q
    have := h.eqm (by omega) (by omega) q
    have e1 : n + i - mu = (n - mu) + i := by omega
    have e2 : n + j - mu = (n - mu) + j := by omega
    rw [e1, e2] at this
    have a1 := Nat.mod_add_div (n - mu + i) la
    have a2 := Nat.mod_add_div (n - mu + j) la
    rw [this] at a1
    have a3 : la * ((n - mu + j) / la) = la * ((n - mu + i) / la) + (j - i) := by omega
    rcases Nat.lt_trichotomy ((n - mu + i) / la) ((n - mu + j) / la) with q4 | q4 | q4
    · have := Nat.mul_le_mul_left la (show (n - mu + i) / la + 1 ≤ (n - mu + j) / la by omega)
      rw [Nat.mul_add, Nat.mul_one] at this
      omega
    · rw [q4] at a3
      omega
    · have := Nat.mul_le_mul_left la (show (n - mu + j) / la + 1 ≤ (n - mu + i) / la by omega)
      rw [Nat.mul_add, Nat.mul_one] at this
      omega
end R
theorem it60 {g : Int → Int} {N x : Int} (h : Gd g N) (hx : 0 ≤ x ∧ x < N) {n : Nat} (hn : 6 ≤ n) : itf g (6 + (n - 6) % 60) x = itf g n x := by
  obtain ⟨mu, la, hr⟩ := rho h hx
  have h1 := hr.1
  have h2 := hr.2.1
  have hN := h.1
  have e := Nat.mod_add_div (n - 6) 60
  obtain ⟨k, hk⟩ : ∃ k, 60 = la * k := by
    rcases (show la = 1 ∨ la = 2 ∨ la = 3 ∨ la = 4 ∨ la = 5 ∨ la = 6 by omega) with rfl | rfl | rfl | rfl | rfl | rfl
    · exact ⟨60, rfl⟩
    · exact ⟨30, rfl⟩
    · exact ⟨20, rfl⟩
    · exact ⟨15, rfl⟩
    · exact ⟨12, rfl⟩
    · exact ⟨10, rfl⟩
  have e2 : 60 * ((n - 6) / 60) = la * (k * ((n - 6) / 60)) := by rw [← Nat.mul_assoc, ← hk]
  rw [← hr.perk (k * ((n - 6) / 60)) (6 + (n - 6) % 60) (by omega), ← e2]
  congr 1
  omega
/-- the first of n days, from day k, on which it lies at t -/
def cmo (g : Int → Int) (t : Int) : Nat → Int → Int → Int
  | 0, _, _ => -1
  | n + 1, k, x => if x = t then k else cmo g t n (k + 1) (g x)
theorem cmo_some {g : Int → Int} {t : Int} : ∀ (i n : Nat) (k x : Int), (∀ j, j < i → itf g j x ≠ t) → itf g i x = t → i < n → cmo g t n k x = k + i := by
  intro i
  induction i with
  | zero =>
    intro n k x _ h2 h3
    match n, h3 with
    | n + 1, _ =>
      have h2 : x = t := h2
      unfold cmo
      rw [if_pos h2]
      omega
  | succ i ih =>
    intro n k x h1 h2 h3
    match n, h3 with
    | n + 1, h3 =>
      have h0 : x ≠ t := h1 0 (by omega)
      unfold cmo
      rw [if_neg h0, ih n (k + 1) (g x) (fun j hj => h1 (j + 1) (by omega)) h2 (by omega)]
      omega
theorem cmo_none {g : Int → Int} {t : Int} : ∀ (n : Nat) (k x : Int), (∀ j, j < n → itf g j x ≠ t) → cmo g t n k x = -1 := by
  intro n
  induction n with
  | zero => intro _ _ _; rfl
  | succ n ih =>
    intro k x h
    have h0 : x ≠ t := h 0 (by omega)
    unfold cmo
    rw [if_neg h0]
    exact ih _ _ (fun j hj => h (j + 1) (by omega))
theorem cmo_cases (g : Int → Int) (t x : Int) (n : Nat) : (∃ i, i < n ∧ itf g i x = t ∧ ∀ j, j < i → itf g j x ≠ t) ∨ (∀ j, j < n → itf g j x ≠ t) := by
  by_cases h : ∃ i, i < n ∧ itf g i x = t
  · obtain ⟨i, h1, h2⟩ := h
    obtain ⟨m, q1, q2, q3⟩ := least (p := fun i => itf g i x = t) (fun n => Classical.em _) i h2
    exact Or.inl ⟨m, by omega, q2, q3⟩
  · exact Or.inr (fun j hj q => h ⟨j, hj, q⟩)
theorem cmo_7 {g : Int → Int} {N x : Int} (h : Gd g N) (hx : 0 ≤ x ∧ x < N) (t k : Int) : cmo g t 7 k x = cmo g t N.toNat k x := by
  obtain ⟨mu, la, hr⟩ := rho h hx
  have h2 := hr.2.1
  have hN := h.1
  rcases cmo_cases g t x N.toNat with ⟨i, q1, q2, q3⟩ | q
  · rw [cmo_some i 7 k x q3 q2 (by omega), cmo_some i _ k x q3 q2 q1]
  · rw [cmo_none N.toNat k x q, cmo_none 7 k x]
    intro j hj e
    obtain ⟨i, h3, h4⟩ := hr.lo j
    exact q i (by omega) (h4 ▸ e)
theorem cmo_congr {g f : Int → Int} {N : Int} (h : Gd g N) (he : ∀ x, 0 ≤ x → x < N → f x = g x) (t : Int) : ∀ (n : Nat) (k x : Int), 0 ≤ x ∧ x < N → cmo f t n k x = cmo g t n k x := by
  intro n
  induction n with
  | zero => intro _ _ _; rfl
  | succ n ih =>
    intro k x hx
    unfold cmo
    rw [he x hx.1 hx.2, ih _ _ (h.2 x hx.1 hx.2)]
theorem cmo_rng (g : Int → Int) (t : Int) : ∀ (n : Nat) (k x : Int), 0 ≤ k → -1 ≤ cmo g t n k x ∧ cmo g t n k x < k + n ∨ cmo g t n k x = -1 := by
  intro n
  induction n with
  | zero => intro k x _; right; rfl
  | succ n ih =>
    intro k x hk
    unfold cmo
    split
    · left; omega
    · rcases ih (k + 1) (g x) (by omega) with h | h <;> omega
end Graph
