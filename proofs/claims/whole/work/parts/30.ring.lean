section Ring
variable {d c : Nat}
theorem Rho.adv {g : Int → Int} {x N : Int} {mu la : Nat} (h : Rho g x N mu la) {n : Nat} (hn : n ≤ mu) : Rho g (itf g n x) N (mu - n) la := by
  refine ⟨h.1, by have := h.2.1; omega, ?_, fun i j hij hj => ?_⟩
  · rw [← itf_add, ← itf_add, show n + (mu - n + la) = mu + la by omega, show n + (mu - n) = mu by omega]
    exact h.2.2.1
  · rw [← itf_add, ← itf_add]
    exact h.2.2.2 _ _ (by omega) (by omega)
/-- the model's row of next places -/
def MN (v : sF) (g : Int → Int) (N : Int) : Prop := Gd g N ∧ ∀ x, 0 ≤ x → x < N → v 171 x = g x
theorem MN.rng {v : sF} {g : Int → Int} {N : Int} (h : MN v g N) : ∀ x, 0 ≤ x → x < N → 0 ≤ v 171 x ∧ v 171 x < N := fun x h0 h1 => by rw [h.2 x h0 h1]; exact h.1.2 x h0 h1
theorem C_lies {v : sF} {g : Int → Int} {N x : Int} {n : Nat} (h : MN v g N) (hx : 0 ≤ x ∧ x < N) (hn : n ≤ 100000) : Ev (d + 1) 246 [(2, 163), (0, x), (0, (n : Int))] (c, v) (some (0, itf g n x)) (c, v) := by
  have := C_liesIn (d := d) (c := c) hn h.1.1.2 h.rng hx
  rw [itf_congr h.1.2 h.2 n x hx.1 hx.2] at this
  exact this
theorem comesIn_loop {v : sF} {g : Int → Int} {N to X : Int} {Q : sQ} (h : MN v g N) (hto : 0 ≤ to ∧ to < 6) (hQ : Q (some (0, X)) (c, v)) : ∀ (m : Nat) (k y : Int), 0 ≤ k → k + m = 7 → 0 ≤ y ∧ y < N → cmo g (v 164 (30 + to)) m k y = X → Wp (Ev d) 0 (fun _ => 0) 248 Q 5 [(2, 163), (0, to), (9, 0), (0, y), (0, k)] [] c v := by
  have hN := h.1.1
  intro m
  induction m with
  | zero =>
    intro k y h0 hk hy he
    have he : -1 = X := he
    subst he
    exact E248_5 _ _ _ (brbI (fun _ => hQ) (fun q => absurd q (by omega)))
  | succ m ih =>
    intro k y h0 hk hy he
    unfold cmo at he
    refine E248_5 _ _ _ (brbI (fun q => absurd q (by omega)) (fun _ => rngI (by omega) (chkI (inbI (by omega) (by omega)) (brbN (fun q => ?_) (fun q => ?_)))))
    · rw [if_neg q] at he
      rw [h.2 y hy.1 hy.2]
      exact chkI (inbI (by omega) (by omega)) (rngI (by omega) (ih (k + 1) (g y) (by omega) (by omega) (h.1.2 y hy.1 hy.2) he))
    · rw [if_pos q] at he
      subst he
      exact hQ
theorem C_comesIn {v : sF} {g : Int → Int} {N to x : Int} (h : MN v g N) (hto : 0 ≤ to ∧ to < 6) (hx : 0 ≤ x ∧ x < N) : Ev (d + 1) 248 [(2, 163), (0, to), (0, x)] (c, v) (some (0, cmo g (v 164 (30 + to)) N.toNat 0 x)) (c, v) := by
  rw [← cmo_7 h.1 hx]
  exact Ev_of (loc248 to x) (E248_0 to x (comesIn_loop h hto ⟨rfl, rfl⟩ 7 0 x (by omega) (by omega) hx rfl))
theorem isRound_loop {v : sF} {g : Int → Int} {N x : Int} {mu la : Nat} {Q : sQ} (h : MN v g N) (hx : 0 ≤ x ∧ x < N) (hr : Rho g x N mu la) (hQ : Q (some (0, if mu = 0 then 1 else 0)) (c, v)) : ∀ (m k : Nat), k + m = 6 → (∀ j, 1 ≤ j → j ≤ k → itf g j x ≠ x) → Wp (Ev d) 0 (fun _ => 0) 251 Q 9 [(2, 163), (0, x), (0, itf g (k + 1) x), (0, (k : Int))] [] c v := by
  have hN := h.1.1
  have h1 := hr.1
  have h2 := hr.2.1
  have hyes : ∀ k, itf g (k + 1) x = x → mu = 0 := fun k q => Decidable.byContradiction fun q2 => hr.sep (m := 0) (n := k + 1) (by omega) (by omega) q.symm
  intro m
  induction m with
  | zero =>
    intro k hk hj
    refine E251_9 _ _ _ (brbI (fun _ => brbN (fun q => ?_) (fun q => ?_)) (fun q => absurd q (by omega)))
    · rw [if_neg] at hQ
      · exact hQ
      · intro q2
        subst q2
        have e := hr.2.2.1
        rw [Nat.zero_add] at e
        exact hj la h1 (by omega) e
    · rw [if_pos (hyes k q)] at hQ; exact hQ
  | succ m ih =>
    intro k hk hj
    have hy := h.1.it (k + 1) hx
    have ihk := ih (k + 1) (by omega)
    refine E251_9 _ _ _ (brbI (fun q => absurd q (by omega)) (fun _ => brbI (fun q => brbN (fun q2 => absurd q q2) (fun _ => ?_)) (fun q => ?_)))
    · rw [if_pos (hyes k q)] at hQ; exact hQ
    · rw [h.2 _ hy.1 hy.2, ← itf_succ g]
      refine chkI (inbI (by omega) (by omega)) (rngI (by omega) (ihk (fun j j1 j2 => ?_)))
      rcases Nat.lt_or_eq_of_le j2 with j3 | j3
      · exact hj j j1 (by omega)
      · rw [j3]; exact q
theorem C_isRound {v : sF} {g : Int → Int} {N x : Int} {mu la : Nat} (h : MN v g N) (hx : 0 ≤ x ∧ x < N) (hr : Rho g x N mu la) : Ev (d + 1) 251 [(2, 163), (0, x)] (c, v) (some (0, if mu = 0 then 1 else 0)) (c, v) := by
  have hN := h.1.1
  refine Ev_of (loc251 x) (E251_0 x (chkI (inbI (by omega) (by omega)) ?_))
  rw [h.2 x hx.1 hx.2]
  exact isRound_loop h hx hr ⟨rfl, rfl⟩ 6 0 (by omega) (fun j j1 j2 => absurd j1 (by omega))
theorem tailOf_loop {v : sF} {g : Int → Int} {N x : Int} {mu la : Nat} {Q : sQ} (h : MN v g N) (hx : 0 ≤ x ∧ x < N) (hr : Rho g x N mu la) (hQ : Q (some (0, (mu : Int))) (c, v)) : ∀ (m k : Nat), k + m = mu → Wp (Ev (d + 1)) 0 (fun _ => 0) 252 Q 2 [(2, 163), (0, x), (0, (k : Int))] [] c v := by
  have hN := h.1.1
  have h2 := hr.2.1
  intro m
  induction m with
  | zero =>
    intro k hk
    have hk : k = mu := hk
    subst hk
    refine E252_2 _ _ ⟨_, c, v, C_lies h hx (by omega), _, c, v, C_isRound h (h.1.it _ hx) (hr.adv (Nat.le_refl _)), brbN (fun _ => hQ) (fun q => ?_)⟩
    rw [if_pos (by omega)] at q
    exact absurd q (by decide)
  | succ m ih =>
    intro k hk
    refine E252_2 _ _ ⟨_, c, v, C_lies h hx (by omega), _, c, v, C_isRound h (h.1.it _ hx) (hr.adv (n := k) (by omega)), brbN (fun q => ?_) (fun q => rngI (by omega) (ih (k + 1) (by omega)))⟩
    rw [if_neg (by omega)] at q
    exact absurd rfl q
theorem C_tailOf {v : sF} {g : Int → Int} {N x : Int} {mu la : Nat} (h : MN v g N) (hx : 0 ≤ x ∧ x < N) (hr : Rho g x N mu la) : Ev (d + 2) 252 [(2, 163), (0, x)] (c, v) (some (0, (mu : Int))) (c, v) := Ev_of (loc252 x) (E252_0 x (tailOf_loop h hx hr ⟨rfl, rfl⟩ mu 0 (by omega)))
theorem lengthOf_loop {v : sF} {g : Int → Int} {N x : Int} {la : Nat} {Q : sQ} (h : MN v g N) (hx : 0 ≤ x ∧ x < N) (hr : Rho g x N 0 la) (hQ : Q (some (0, (la : Int))) (c, v)) : ∀ (m k : Nat), k + m = la → 1 ≤ k → Wp (Ev d) 0 (fun _ => 0) 253 Q 9 [(2, 163), (0, x), (0, (k : Int)), (0, itf g k x)] [] c v := by
  have hN := h.1.1
  have h2 := hr.2.1
  have e := hr.2.2.1
  rw [Nat.zero_add] at e
  have e : itf g la x = x := e
  intro m
  induction m with
  | zero =>
    intro k hk h1
    have hk : k = la := hk
    subst hk
    exact E253_9 _ _ _ (brbI (fun _ => hQ) (fun q => absurd e q))
  | succ m ih =>
    intro k hk h1
    have hy := h.1.it k hx
    refine E253_9 _ _ _ (brbI (fun q => absurd q.symm (hr.2.2.2 0 k (by omega) (by omega))) (fun _ => rngI (by omega) (chkI (inbI (by omega) (by omega)) ?_)))
    rw [h.2 _ hy.1 hy.2, ← itf_succ g]
    exact ih (k + 1) (by omega) (by omega)
theorem C_lengthOf {v : sF} {g : Int → Int} {N x : Int} {la : Nat} (h : MN v g N) (hx : 0 ≤ x ∧ x < N) (hr : Rho g x N 0 la) : Ev (d + 1) 253 [(2, 163), (0, x)] (c, v) (some (0, (la : Int))) (c, v) := by
  have hN := h.1.1
  have h1 := hr.1
  refine Ev_of (loc253 x) (E253_0 x (chkI (inbI (by omega) (by omega)) ?_))
  rw [h.2 x hx.1 hx.2]
  exact lengthOf_loop h hx hr ⟨rfl, rfl⟩ (la - 1) 1 (by omega) (by omega)
/-- is it in the set -/
def tb (b j : Int) : Bool := decide (iand (ishr b j) 1 = 1)
theorem tb_k : ∀ (b : Fin 64) (y j : Fin 6), tb (ior ((b.val : Nat) : Int) (ishl 1 ((y.val : Nat) : Int))) ((j.val : Nat) : Int) = (tb ((b.val : Nat) : Int) ((j.val : Nat) : Int) || decide (j = y)) ∧ (0 ≤ ior ((b.val : Nat) : Int) (ishl 1 ((y.val : Nat) : Int)) ∧ ior ((b.val : Nat) : Int) (ishl 1 ((y.val : Nat) : Int)) < 64) ∧ (bc6 (ior ((b.val : Nat) : Int) (ishl 1 ((y.val : Nat) : Int))) = bc6 ((b.val : Nat) : Int) + if tb ((b.val : Nat) : Int) ((y.val : Nat) : Int) then 0 else 1) ∧ (tb ((b.val : Nat) : Int) ((y.val : Nat) : Int) = true → ior ((b.val : Nat) : Int) (ishl 1 ((y.val : Nat) : Int)) = ((b.val : Nat) : Int)) := by decide +kernel
theorem tb_i {b y j : Int} (hb : 0 ≤ b ∧ b < 64) (hy : 0 ≤ y ∧ y < 6) (hj : 0 ≤ j ∧ j < 6) : tb (ior b (ishl 1 y)) j = (tb b j || decide (j = y)) ∧ (0 ≤ ior b (ishl 1 y) ∧ ior b (ishl 1 y) < 64) ∧ (bc6 (ior b (ishl 1 y)) = bc6 b + if tb b y then 0 else 1) ∧ (tb b y = true → ior b (ishl 1 y) = b) := by
  have h := tb_k ⟨b.toNat, by omega⟩ ⟨y.toNat, by omega⟩ ⟨j.toNat, by omega⟩
  (try dsimp only at h)
  rw [show ((b.toNat : Nat) : Int) = b by omega, show ((y.toNat : Nat) : Int) = y by omega, show ((j.toNat : Nat) : Int) = j by omega] at h
  refine ⟨?_, h.2⟩
  rw [h.1]
  congr 1
  rw [decide_eq_decide, Fin.mk.injEq]
  omega
/-- the places of n days, as bits -/
def orb (g : Int → Int) (y : Int) : Nat → Int
  | 0 => 0
  | n + 1 => ior (orb g y n) (ishl 1 (itf g n y))
theorem orb_s (g : Int → Int) (y : Int) (n : Nat) : orb g y (n + 1) = ior (orb g y n) (ishl 1 (itf g n y)) := rfl
theorem orb_rng {g : Int → Int} {N y : Int} (h : Gd g N) (hy : 0 ≤ y ∧ y < N) : ∀ n, 0 ≤ orb g y n ∧ orb g y n < 64 := by
  intro n
  induction n with
  | zero => exact ⟨by show (0 : Int) ≤ 0; decide, by show (0 : Int) < 64; decide⟩
  | succ n ih =>
    have := h.it n hy
    have hN := h.1
    rw [orb_s]
    exact (tb_i ih (y := itf g n y) (j := 0) (by omega) (by decide)).2.1
theorem orb_tb {g : Int → Int} {N y : Int} (h : Gd g N) (hy : 0 ≤ y ∧ y < N) {j : Int} (hj : 0 ≤ j ∧ j < 6) : ∀ n, tb (orb g y n) j = true ↔ ∃ i, i < n ∧ itf g i y = j := by
  intro n
  induction n with
  | zero =>
    constructor
    · intro q
      have e : ∀ j : Fin 6, tb 0 ((j.val : Nat) : Int) = false := by decide +kernel
      have := e ⟨j.toNat, by omega⟩
      (try dsimp only at this)
      rw [show ((j.toNat : Nat) : Int) = j by omega] at this
      have q : tb 0 j = true := q
      rw [this] at q
      cases q
    · intro ⟨i, q, _⟩; omega
  | succ n ih =>
    have hn := h.it n hy
    have hN := h.1
    rw [orb_s, (tb_i (orb_rng h hy n) (y := itf g n y) (by omega) hj).1, Bool.or_eq_true, ih, decide_eq_true_iff]
    constructor
    · rintro (⟨i, q1, q2⟩ | q)
      · exact ⟨i, by omega, q2⟩
      · exact ⟨n, by omega, q.symm⟩
    · rintro ⟨i, q1, q2⟩
      rcases Nat.lt_or_eq_of_le (show i ≤ n by omega) with q3 | q3
      · exact Or.inl ⟨i, q3, q2⟩
      · right; rw [← q2, q3]
theorem orb_cnt {g : Int → Int} {N y : Int} {la : Nat} (h : Gd g N) (hy : 0 ≤ y ∧ y < N) (hr : Rho g y N 0 la) : ∀ n, n ≤ la → bc6 (orb g y n) = n := by
  intro n
  induction n with
  | zero => intro _; show bc6 0 = 0; decide
  | succ n ih =>
    intro hn
    have hy2 := h.it n hy
    have hN := h.1
    have hnot : ¬ tb (orb g y n) (itf g n y) = true := fun q => by
      obtain ⟨i, q1, q2⟩ := (orb_tb h hy (by omega) n).1 q
      exact hr.2.2.2 i n q1 (by omega) q2
    rw [orb_s, (tb_i (orb_rng h hy n) (y := itf g n y) (j := 0) (by omega) (by decide)).2.2.1, ih (by omega), if_neg hnot]
    omega
theorem orb_6 {g : Int → Int} {N y : Int} {la : Nat} (h : Gd g N) (hy : 0 ≤ y ∧ y < N) (hr : Rho g y N 0 la) : ∀ m, orb g y (la + m) = orb g y la := by
  intro m
  induction m with
  | zero => rfl
  | succ m ih =>
    have hy2 := h.it (la + m) hy
    have hN := h.1
    have h1 := hr.1
    rw [show la + (m + 1) = la + m + 1 from rfl, orb_s, ih]
    refine (tb_i (orb_rng h hy la) (y := itf g (la + m) y) (j := 0) (by omega) (by decide)).2.2.2 ?_
    refine (orb_tb h hy (by omega) la).2 ⟨(la + m) % la, Nat.mod_lt _ h1, ?_⟩
    have := hr.red (n := la + m) (by omega)
    rw [Nat.sub_zero, Nat.zero_add] at this
    exact this.symm
theorem rb_loop {v : sF} {g : Int → Int} {N t y : Int} {Q : sQ} (h : WN v g N t) (hy : 0 ≤ y ∧ y < N) (hQ : Q (some (0, orb g y 6)) (c, v)) : ∀ (m k : Nat), k + m = 6 → Wp (Ev (d + 2)) 0 (fun _ => 0) 98 Q 13 [(2, 140), (9, 0), (0, itf g k y), (0, orb g y k), (0, (k : Int))] [] c v := by
  intro m
  induction m with
  | zero =>
    intro k hk
    have hk : k = 6 := hk
    subst hk
    exact E98_13 _ _ _ (brbI (fun _ => hQ) (fun q => absurd q (by decide)))
  | succ m ih =>
    intro k hk
    have ihk := ih (k + 1) (by omega)
    rw [orb_s, itf_succ] at ihk
    exact E98_13 _ _ _ (brbI (fun q => absurd q (by omega)) (fun _ => ⟨_, c, v, C_nx h (h.2.1.it k hy), rngI (by omega) ihk⟩))
/-- what a set of places is: the ring -/
def rgB (g : Int → Int) (x : Int) : Int := orb g (itf g 6 x) 6
theorem C_ringBits {v : sF} {g : Int → Int} {N t x : Int} (h : WN v g N t) (hx : 0 ≤ x ∧ x < N) : Ev (d + 4) 98 [(2, 140), (0, x)] (c, v) (some (0, rgB g x)) (c, v) :=
  Ev_of (loc98 x) (E98_0 x ⟨_, c, v, C_placeIn (n := 6) h hx (by decide), rb_loop h (h.2.1.it 6 hx) ⟨rfl, rfl⟩ 6 0 (by omega)⟩)
theorem rg_sh {g : Int → Int} {N x : Int} {mu la : Nat} (h : Gd g N) (hr : Rho g x N mu la) : Rho g (itf g 6 x) N 0 la := hr.shift (by have := hr.2.1; have := h.1; omega)
theorem rg_rng {g : Int → Int} {N x : Int} (h : Gd g N) (hx : 0 ≤ x ∧ x < N) : 0 ≤ rgB g x ∧ rgB g x < 64 := orb_rng h (h.it 6 hx) 6
theorem rg_cnt {g : Int → Int} {N x : Int} {mu la : Nat} (h : Gd g N) (hx : 0 ≤ x ∧ x < N) (hr : Rho g x N mu la) : bc6 (rgB g x) = la := by
  have hs := rg_sh h hr
  have h2 := hr.2.1
  have hN := h.1
  unfold rgB
  rw [show 6 = la + (6 - la) by omega, orb_6 h (h.it _ hx) (by rw [show la + (6 - la) = 6 by omega]; exact hs)]
  exact orb_cnt h (h.it _ hx) (by rw [show la + (6 - la) = 6 by omega]; exact hs) la (Nat.le_refl la)
theorem rg_tb {g : Int → Int} {N x : Int} {mu la : Nat} (h : Gd g N) (hx : 0 ≤ x ∧ x < N) (hr : Rho g x N mu la) {j : Int} (hj : 0 ≤ j ∧ j < 6) : tb (rgB g x) j = true ↔ ∃ n, mu ≤ n ∧ itf g n x = j := by
  have h2 := hr.2.1
  have hN := h.1
  have h1 := hr.1
  unfold rgB
  rw [orb_tb h (h.it 6 hx) hj]
  constructor
  · rintro ⟨i, q1, q2⟩
    rw [← itf_add] at q2
    exact ⟨6 + i, by omega, q2⟩
  · rintro ⟨n, q1, q2⟩
    refine ⟨(n + la * 6 - 6) % la, ?_, ?_⟩
    · have := Nat.mod_lt (n + la * 6 - 6) (show 0 < la by omega); omega
    · rw [← itf_add, ← hr.perk ((n + la * 6 - 6) / la) _ (by omega)]
      have e := Nat.mod_add_div (n + la * 6 - 6) la
      rw [show 6 + (n + la * 6 - 6) % la + la * ((n + la * 6 - 6) / la) = n + la * 6 by omega, hr.perk 6 n q1]
      exact q2
theorem dti_loop {v : sF} {g : Int → Int} {N t x : Int} {mu la : Nat} {Q : sQ} (h : WN v g N t) (hx : 0 ≤ x ∧ x < N) (hr : Rho g x N mu la) (hQ : Q (some (0, (mu : Int))) (c, v)) : ∀ (m k : Nat), k + m = mu → Wp (Ev (d + 2)) 0 (fun _ => 0) 99 Q 5 [(2, 140), (9, 0), (0, rgB g x), (0, itf g k x), (0, (k : Int))] [] c v := by
  have h2 := hr.2.1
  have hN := h.2.1.1
  have h1 := hr.1
  have hin : ∀ k, iand (ishr (rgB g x) (itf g k x)) 1 = 1 ↔ mu ≤ k := fun k => by
    have hy := h.2.1.it k hx
    have := rg_tb h.2.1 hx hr (j := itf g k x) (by omega)
    unfold tb at this
    rw [decide_eq_true_iff] at this
    rw [this]
    constructor
    · rintro ⟨n, q1, q2⟩
      refine Decidable.byContradiction fun q3 => ?_
      exact hr.sep (m := k) (n := n) (by omega) (by omega) q2.symm
    · intro q; exact ⟨k, q, rfl⟩
  intro m
  induction m with
  | zero =>
    intro k hk
    have hk : k = mu := hk
    subst hk
    exact E99_5 _ _ _ (brbI (fun q => absurd q (by omega)) (fun _ => brbN (fun q => absurd ((hin k).2 (Nat.le_refl k)) q) (fun _ => hQ)))
  | succ m ih =>
    intro k hk
    have ihk := ih (k + 1) (by omega)
    rw [itf_succ] at ihk
    exact E99_5 _ _ _ (brbI (fun q => absurd q (by omega)) (fun _ => brbN (fun q => ⟨_, c, v, C_nx h (h.2.1.it k hx), rngI (by omega) ihk⟩) (fun q => absurd ((hin k).1 q) (by omega))))
theorem C_daysTillIn {v : sF} {g : Int → Int} {N t x : Int} {mu la : Nat} (h : WN v g N t) (hx : 0 ≤ x ∧ x < N) (hr : Rho g x N mu la) : Ev (d + 3) 99 [(2, 140), (0, x), (0, rgB g x)] (c, v) (some (0, (mu : Int))) (c, v) := Ev_of (loc99 x _) (E99_0 x _ (dti_loop h hx hr ⟨rfl, rfl⟩ mu 0 (by omega)))
/-- by whom it gets on, as bits -/
def hnd (g s : Int → Int) (x : Int) : Nat → Int
  | 0 => 0
  | n + 1 => if g (itf g n x) = itf g n x then hnd g s x n else ior (hnd g s x n) (ishl 1 (s (itf g n x)))
theorem hnd_s (g s : Int → Int) (x : Int) (n : Nat) : hnd g s x (n + 1) = if g (itf g n x) = itf g n x then hnd g s x n else ior (hnd g s x n) (ishl 1 (s (itf g n x))) := rfl
theorem snb_loop {v : sF} {g s : Int → Int} {N t x : Int} {n : Nat} {Q : sQ} (h : WN v g N t) (hs : ∀ y, 0 ≤ y → y < N → sdW v y (v 140 4) = s y) (hx : 0 ≤ x ∧ x < N) (hn : n ≤ 100) (hQ : Q (some (0, hnd g s x n)) (c, v)) : ∀ (m k : Nat), k + m = n → Wp (Ev (d + 2)) 0 (fun _ => 0) 100 Q 27 [(2, 140), (9, 0), (9, 0), (0, (n : Int)), (0, hnd g s x k), (0, itf g k x), (0, (k : Int)), (9, 0)] [] c v := by
  intro m
  induction m with
  | zero =>
    intro k hk
    have hk : k = n := hk
    subst hk
    exact E100_27 _ _ _ _ (brbI (fun _ => hQ) (fun q => absurd q (by omega)))
  | succ m ih =>
    intro k hk
    have ihk := ih (k + 1) (by omega)
    have hy := h.2.1.it k hx
    rw [hnd_s, itf_succ] at ihk
    refine E100_27 _ _ _ _ (brbI (fun q => absurd q (by omega)) (fun _ => ⟨_, c, v, C_nx h hy, brbI (fun q => rngI (by omega) ?_) (fun q => ⟨_, c, v, C_bestAt h.1.1, rngI (by omega) ?_⟩)⟩))
    · rw [if_pos q] at ihk; exact ihk
    · rw [if_neg q] at ihk
      rw [hs _ hy.1 hy.2]
      exact ihk
theorem C_senderBits {v : sF} {g s : Int → Int} {N t x : Int} {mu la : Nat} (h : WN v g N t) (hs : ∀ y, 0 ≤ y → y < N → sdW v y (v 140 4) = s y) (hx : 0 ≤ x ∧ x < N) (hr : Rho g x N mu la) : Ev (d + 5) 100 [(2, 140), (0, x)] (c, v) (some (0, hnd g s x (mu + la))) (c, v) := by
  have hR := rg_rng h.2.1 hx
  have h2 := hr.2.1
  have hN := h.2.1.1
  have e : bc6 (rgB g x) = la := rg_cnt h.2.1 hx hr
  have hb := C_bitCount (d := d + 3) (c := c) (v := v) hR.1 hR.2
  rw [e] at hb
  exact Ev_of (loc100 x) (E100_0 x ⟨_, c, v, C_ringBits h hx, _, c, v, C_daysTillIn h hx hr, _, c, v, hb, rngI (by omega) (snb_loop (n := mu + la) h hs hx (by omega) ⟨rfl, rfl⟩ (mu + la) 0 (by omega))⟩)
end Ring
