section Link
variable {d c : Nat}
def ua (al : Int → Int) (k x : Int) : Int → Int := fun j => if j = k then x else al j
theorem ua_s (al : Int → Int) (k x : Int) : ua al k x k = x := by unfold ua; rw [if_pos rfl]
theorem ua_n {al : Int → Int} {k x j : Int} (h : j ≠ k) : ua al k x j = al j := by unfold ua; rw [if_neg h]
theorem up_ua (v : sF) (a k x : Int) : up v a k x a = ua (v a) k x := by
  funext j
  unfold up ua
  by_cases h : j = k
  · rw [if_pos ⟨rfl, h⟩, if_pos h]
  · rw [if_neg (fun q => h q.2), if_neg h]
theorem ua_ua (al : Int → Int) (k x y : Int) : ua (ua al k x) k y = ua al k y := by
  funext j
  unfold ua
  by_cases h : j = k
  · rw [if_pos h, if_pos h]
  · rw [if_neg h, if_neg h, if_neg h]
theorem ua_id (al : Int → Int) (k : Int) : ua al k (al k) = al := by
  funext j
  unfold ua
  by_cases h : j = k
  · rw [if_pos h, h]
  · rw [if_neg h]
/-- Ways' rows are those of a post: of those whom it has reckoned -/
def WG (v : sF) (al : Int → Int) (p idle only : Int) : Prop := v 3 0 = al 1 ∧ v 3 1 = al 2 ∧ v 140 2 = p ∧ v 140 3 = al (30 + p) ∧ v 140 4 = idle ∧ ∀ j : Int, 0 ≤ j → j < al 2 → j ≠ p → v 141 j = al (30 + j) ∧ ((only = -1 ∨ al (30 + j) = only) → v 142 j = mnA al j p ∧ v 143 (j * 6 + al (30 + j)) = wlA al j p)
theorem WR.g {v : sF} {a p only : Int} {al : Int → Int} (h : WR v a al p only) (hR : CR v a al) : WG v al p (-1) only := ⟨hR.1.1, hR.1.2.1, h.2.1, h.2.2.1, h.2.2.2.1, fun j h0 h1 hj => ⟨(h.2.2.2.2 j h0 h1).1, fun ho => (h.2.2.2.2 j h0 h1).2.1 ⟨hj, ho⟩⟩⟩
theorem sdA_ok {al : Int → Int} {idle to place but : Int} (hP : 0 ≤ al 2) (hne : sdA al idle to place but ≠ -1) : (0 ≤ sdA al idle to place but ∧ sdA al idle to place but < al 2) ∧ sdA al idle to place but ≠ to ∧ sdA al idle to place but ≠ but ∧ sdA al idle to place but ≠ idle ∧ al (30 + sdA al idle to place but) = place ∧ 0 < mnA al (sdA al idle to place but) to := by
  have h1 := sdA_rng al idle to place but hP
  have h2 := bst_2 (fun p => decide (p ≠ to) && decide (p ≠ but) && decide (p ≠ idle) && decide (al (30 + p) = place)) (fun p => mnA al p to) (al 2).toNat
  have e : sdA al idle to place but = (bst (fun p => decide (p ≠ to) && decide (p ≠ but) && decide (p ≠ idle) && decide (al (30 + p) = place)) (fun p => mnA al p to) (al 2).toNat).1 := rfl
  rw [← e] at h2
  generalize sdA al idle to place but = z at *
  rcases h2 with h2 | h2
  · exact absurd h2.1 hne
  · have h3 := h2.2.2.2
    simp at h3
    refine ⟨⟨h2.1, h1.2⟩, h3.1.1.1, h3.1.1.2, h3.1.2, h3.2, ?_⟩
    have h4 := h2.2.1
    have h5 := h2.2.2.1
    (try dsimp only at h4)
    omega
theorem sdW_e {v : sF} {al : Int → Int} {p idle only place b but : Int} (h : WG v al p idle only) (ho : only = -1 ∨ place = only) (hb : ∀ q : Int, 0 ≤ q → (q ≠ b ↔ q ≠ but ∧ q ≠ idle)) (hP : 0 ≤ al 2) : sdW v place b = sdA al idle p place but := by
  unfold sdW sdA
  rw [h.2.1, h.2.2.1]
  refine congrArg Prod.fst (bst_congr (fun k hk => ?_))
  have hk2 : (k : Int) < al 2 := by omega
  have hq := hb k (by omega)
  by_cases hkp : (k : Int) = p
  · exact ⟨by simp [hkp], fun q => absurd q (by simp [hkp])⟩
  · have hj := h.2.2.2.2.2 k (by omega) hk2 hkp
    have hd : decide ((k : Int) ≠ b) = (decide ((k : Int) ≠ but) && decide ((k : Int) ≠ idle)) := by
      rw [← Bool.decide_and]
      exact decide_eq_decide.2 hq
    refine ⟨by (try dsimp only); rw [hj.1, hd, Bool.and_assoc (decide ((k : Int) ≠ p)) (decide ((k : Int) ≠ but))], fun hok => ?_⟩
    (try dsimp only at hok)
    rw [hj.1] at hok
    simp at hok
    refine (hj.2 ?_).1
    rcases ho with ho | ho
    · exact Or.inl ho
    · right; rw [hok.2, ho]
theorem nxW_e {v : sF} {al : Int → Int} {p idle only place : Int} (h : WG v al p idle only) (ho : only = -1 ∨ place = only) (hP : 0 ≤ al 2) : nxW v place = nxA al idle p place := by
  unfold nxW nxA
  rw [h.2.2.2.1, h.2.2.2.2.1]
  by_cases h1 : place = al (30 + p)
  · rw [if_pos h1, if_pos h1]
  · rw [if_neg h1, if_neg h1, sdW_e h ho (but := -1) (fun q q0 => ⟨fun q1 => ⟨by omega, q1⟩, fun q1 => q1.2⟩) hP]
    by_cases h2 : sdA al idle p place (-1) = -1
    · rw [if_pos h2, if_pos h2]
    · rw [if_neg h2, if_neg h2]
      have hs := sdA_ok hP h2
      have hj := (h.2.2.2.2.2 _ hs.1.1 hs.1.2 hs.2.1).2 (by
        rcases ho with ho | ho
        · exact Or.inl ho
        · right; rw [hs.2.2.2.2.1, ho])
      have e := hj.2
      rw [hs.2.2.2.2.1] at e
      exact e
/-- what Ways does: where it goes from each place -/
def WN (v : sF) (g : Int → Int) (N t : Int) : Prop := ((0 ≤ v 3 1 ∧ v 3 1 ≤ 6) ∧ v 3 0 = N ∧ v 140 3 = t) ∧ Gd g N ∧ ∀ x, 0 ≤ x → x < N → nxW v x = g x
theorem nx_gd {al : Int → Int} (hT : okT al) {p : Int} (idle : Int) (hp : 0 ≤ p ∧ p < 6) : Gd (nxA al idle p) (al 1) := ⟨by have := hT.1; omega, fun _ h0 h1 => nxA_rng hT hp ⟨h0, h1⟩⟩
theorem WG.n {v : sF} {al : Int → Int} {p idle : Int} (h : WG v al p idle (-1)) (hT : okT al) (hp : 0 ≤ p ∧ p < 6) : WN v (nxA al idle p) (al 1) (al (30 + p)) :=
  ⟨⟨by rw [h.2.1]; exact hT.2.1, h.1, h.2.2.2.1⟩, nx_gd hT idle hp, fun _ _ _ => nxW_e h (Or.inl rfl) hT.2.1.1⟩
theorem C_nx {v : sF} {g : Int → Int} {N t x : Int} (h : WN v g N t) (hx : 0 ≤ x ∧ x < N) : Ev (d + 2) 95 [(2, 140), (0, x)] (c, v) (some (0, g x)) (c, v) := by
  have := C_nextOf (d := d) (c := c) (v := v) (place := x) h.1.1 (by have := h.2.1.1; omega)
  rw [h.2.2 x hx.1 hx.2] at this
  exact this
theorem placeIn_loop {v : sF} {g : Int → Int} {N t n X : Int} {Q : sQ} (h : WN v g N t) (hn : n ≤ 100000) (hQ : Q (some (0, X)) (c, v)) : ∀ (m : Nat) (k y : Int), 0 ≤ k → k + m = n → 0 ≤ y ∧ y < N → itf g m y = X → Wp (Ev (d + 2)) 0 (fun _ => 0) 96 Q 27 [(2, 140), (9, 0), (9, 0), (0, n), (0, y), (0, k)] [] c v := by
  intro m
  induction m with
  | zero =>
    intro k y h0 hk hy he
    have he : y = X := he
    subst he
    exact E96_27 _ _ _ (brbI (fun _ => hQ) (fun q => absurd q (by omega)))
  | succ m ih =>
    intro k y h0 hk hy he
    exact E96_27 _ _ _ (brbI (fun q => absurd q (by omega)) (fun _ => ⟨_, c, v, C_nx h hy, rngI (by omega) (ih (k + 1) (g y) (by omega) (by omega) (h.2.1.2 y hy.1 hy.2) he)⟩))
theorem C_placeIn {v : sF} {g : Int → Int} {N t x : Int} {n : Nat} (h : WN v g N t) (hx : 0 ≤ x ∧ x < N) (hn : n ≤ 99999) : Ev (d + 3) 96 [(2, 140), (0, x), (0, (n : Int))] (c, v) (some (0, itf g n x)) (c, v) := by
  refine Ev_of (loc96 x n) (E96_0 x n (brbI (fun h66 => ?_) (fun h66 => placeIn_loop h (by omega) ⟨rfl, rfl⟩ n 0 x (by omega) (by omega) hx rfl)))
  have e : Int.tmod ((n : Int) - 6) 60 = (((n - 6) % 60 : Nat) : Int) := by
    rw [Int.tmod_eq_emod_of_nonneg (by omega)]
    omega
  rw [e]
  refine rngI (by omega) (rngI (by omega) (placeIn_loop h (by omega) ⟨rfl, rfl⟩ (6 + (n - 6) % 60) 0 x (by omega) (by omega) hx (it60 h.2.1 hx (by omega))))
theorem dtg_loop {v : sF} {g : Int → Int} {N t X : Int} {Q : sQ} (h : WN v g N t) (hQ : Q (some (0, X)) (c, v)) : ∀ (m : Nat) (k y : Int), 0 ≤ k → k + m = N → 0 ≤ y ∧ y < N → cmo g t m k y = X → Wp (Ev (d + 2)) 0 (fun _ => 0) 97 Q 4 [(2, 140), (9, 0), (0, y), (0, k)] [] c v := by
  have hN := h.2.1.1
  intro m
  induction m with
  | zero =>
    intro k y h0 hk hy he
    have he : -1 = X := he
    subst he
    refine E97_4 _ _ ?_
    rw [h.1.2.1, h.1.2.2]
    exact brbI (fun _ => hQ) (fun q => absurd q (by omega))
  | succ m ih =>
    intro k y h0 hk hy he
    unfold cmo at he
    refine E97_4 _ _ ?_
    rw [h.1.2.1, h.1.2.2]
    refine brbI (fun q => absurd q (by omega)) (fun _ => brbN (fun q => ?_) (fun q => ?_))
    · rw [if_neg q] at he
      exact ⟨_, c, v, C_nx h hy, rngI (by omega) (ih (k + 1) (g y) (by omega) (by omega) (h.2.1.2 y hy.1 hy.2) he)⟩
    · rw [if_pos q] at he
      subst he
      exact hQ
theorem C_dtg {v : sF} {g : Int → Int} {N t x : Int} (h : WN v g N t) (hx : 0 ≤ x ∧ x < N) : Ev (d + 3) 97 [(2, 140), (0, x)] (c, v) (some (0, cmo g t N.toNat 0 x)) (c, v) := by
  have hN := h.2.1.1
  exact Ev_of (loc97 x) (E97_0 x (dtg_loop h ⟨rfl, rfl⟩ N.toNat 0 x (by omega) (by omega) hx rfl))
/-- a set, as bits: those of the first n -/
def bts (P : Int → Bool) : Nat → Int
  | 0 => 0
  | n + 1 => if P n = true then ior (bts P n) (ishl 1 n) else bts P n
theorem bts_s (P : Int → Bool) (n : Nat) : bts P (n + 1) = if P n = true then ior (bts P n) (ishl 1 n) else bts P n := rfl
theorem bts_congr {P P' : Int → Bool} : ∀ {n : Nat}, (∀ k : Nat, k < n → P k = P' k) → bts P n = bts P' n := by
  intro n
  induction n with
  | zero => intro _; rfl
  | succ n ih => intro h; rw [bts_s, bts_s, ih (fun k hk => h k (by omega)), h n (by omega)]
theorem ior_sh : ∀ (n : Fin 11) (x : Fin 1024), x.val < 2 ^ n.val → 0 ≤ ior ((x.val : Nat) : Int) (ishl 1 ((n.val : Nat) : Int)) ∧ ior ((x.val : Nat) : Int) (ishl 1 ((n.val : Nat) : Int)) = (x.val : Int) + 2 ^ n.val := by decide +kernel
theorem bts_rng (P : Int → Bool) : ∀ {n : Nat}, n ≤ 10 → 0 ≤ bts P n ∧ bts P n < 2 ^ n := by
  intro n
  induction n with
  | zero => intro _; exact ⟨(by decide : (0 : Int) ≤ 0), (by decide : (0 : Int) < 2 ^ 0)⟩
  | succ n ih =>
    intro hn
    have h := ih (by omega)
    have hp : (2 : Int) ^ n ≤ 1024 := by
      rcases (show n = 0 ∨ n = 1 ∨ n = 2 ∨ n = 3 ∨ n = 4 ∨ n = 5 ∨ n = 6 ∨ n = 7 ∨ n = 8 ∨ n = 9 by omega) with rfl | rfl | rfl | rfl | rfl | rfl | rfl | rfl | rfl | rfl <;> decide
    have hp2 : (2 : Int) ^ (n + 1) = 2 ^ n * 2 := Int.pow_succ 2 n
    rw [bts_s]
    split
    · have hc : (2 : Int) ^ n = ((2 ^ n : Nat) : Int) := by rw [Int.natCast_pow]; rfl
      have := ior_sh ⟨n, by omega⟩ ⟨(bts P n).toNat, by omega⟩ (by show (bts P n).toNat < 2 ^ n; omega)
      rw [show (((bts P n).toNat : Nat) : Int) = bts P n by omega] at this
      have t2 : ior (bts P n) (ishl 1 ((n : Nat) : Int)) = bts P n + 2 ^ n := this.2
      omega
    · omega
theorem src_loop {v : sF} {g : Int → Int} {N t : Int} {Q : sQ} (h : WN v g N t) (hQ : Q (some (0, bts (fun k => decide (cmo g t N.toNat 0 k ≠ -1)) N.toNat)) (c, v)) : ∀ (m k : Nat), (k : Int) + m = N → Wp (Ev (d + 3)) 0 (fun _ => 0) 101 Q 4 [(2, 140), (0, bts (fun k => decide (cmo g t N.toNat 0 k ≠ -1)) k), (0, (k : Int))] [] c v := by
  have hN := h.2.1.1
  intro m
  induction m with
  | zero =>
    intro k hk
    refine E101_4 _ _ ?_
    rw [h.1.2.1]
    rw [show N.toNat = k by omega] at hQ ⊢
    exact brbI (fun _ => hQ) (fun q => absurd q (by omega))
  | succ m ih =>
    intro k hk
    have ihk := ih (k + 1) (by omega)
    rw [bts_s] at ihk
    refine E101_4 _ _ ?_
    rw [h.1.2.1]
    refine brbI (fun q => absurd q (by omega)) (fun _ => ⟨_, c, v, C_dtg h ⟨by omega, by omega⟩, brbI (fun q => rngI (by omega) ?_) (fun q => rngI (by omega) ?_)⟩)
    · rw [if_neg (by simp [q])] at ihk; exact ihk
    · rw [if_pos (by simp [q])] at ihk; exact ihk
theorem C_sourceBits {v : sF} {g : Int → Int} {N t : Int} (h : WN v g N t) : Ev (d + 4) 101 [(2, 140)] (c, v) (some (0, bts (fun k => decide (cmo g t N.toNat 0 k ≠ -1)) N.toNat)) (c, v) := by
  have hN := h.2.1.1
  exact Ev_of loc101 (E101_0 (src_loop h ⟨rfl, rfl⟩ N.toNat 0 (by omega)))
end Link
