section Mod3
variable {d c : Nat}
theorem C_mindsOf {p q : Int} {v : sF} (hT : okT (v 164)) (hN : okN (v 164)) (hp : 0 ≤ p ∧ p < 6) (hq : 0 ≤ q ∧ q < 6) : ∃ v', Ev (d + 3) 207 [(2, 163), (0, p), (0, q)] (c, v) (some (0, mnA (v 164) p q)) (c, v') ∧ Off [168, 169] v v' := by
  refine CI_of (loc207 p q) (E207_0 p q (brbN (fun h => ?_) (fun h => ?_)))
  · obtain ⟨v', hE, hO⟩ := C_reckons (d := d) (c := c) (law := 0) (Or.inl rfl) hT hN h hp hq
    exact ⟨_, c, v', hE, by unfold mnA; rw [if_neg h], _, rfl, hO⟩
  · exact ⟨_, c, v, C_caresOf hp hq, by unfold mnA; rw [if_pos h], _, rfl, Off.rf _ v⟩
theorem tmod_emod {a b : Int} (hb : 0 < b) : (if 0 ≤ Int.tmod a b then Int.tmod a b else Int.tmod a b + b) = a % b := by
  have e3 := Int.emod_nonneg a (show b ≠ 0 by omega)
  have e4 := Int.emod_lt_of_pos a hb
  have e8 : Int.tmod a b % b = a % b := by
    have : Int.tmod a b = a - b * Int.tdiv a b := Int.tmod_def a b
    rw [this, Int.sub_mul_emod_self_left]
  have e9 : (Int.tmod a b).natAbs < b.natAbs := by
    rw [Int.natAbs_tmod]
    exact Nat.mod_lt _ (by omega)
  split
  · rename_i h
    rw [← e8, Int.emod_eq_of_lt h (by omega)]
  · rename_i h
    rw [← e8, ← Int.add_emod_right, Int.emod_eq_of_lt (by omega) (by omega)]
theorem wlA_rng {al : Int → Int} (hT : okT al) {p q : Int} (hq : 0 ≤ q ∧ q < 6) : 0 ≤ wlA al p q ∧ wlA al p q < al 1 := by
  have h1 := hT.1
  have h2 := (hT.2.2.1 q hq.1 hq.2).1
  unfold wlA
  split
  · exact h2
  · exact ⟨Int.emod_nonneg _ (by omega), Int.emod_lt_of_pos _ (by omega)⟩
theorem C_wouldOf {p q : Int} {v : sF} (hT : okT (v 164)) (hN : okN (v 164)) (hp : 0 ≤ p ∧ p < 6) (hq : 0 ≤ q ∧ q < 6) : ∃ v', Ev (d + 3) 208 [(2, 163), (0, p), (0, q)] (c, v) (some (0, wlA (v 164) p q)) (c, v') ∧ Off [168, 169] v v' := by
  have h1 := hT.1
  have h2 := (hT.2.2.1 q hq.1 hq.2).1
  refine CI_of (loc208 p q) (E208_0 p q (brbN (fun h => ?_) (fun h => ?_)))
  · obtain ⟨v', hE, hO⟩ := C_reckons (d := d) (c := c) (law := 1) (Or.inr rfl) hT hN h hp hq
    have hr := rkA_rng hT hN (Or.inr rfl) h hp hq
    have e1 : v' 164 = v 164 := hO 164 (by decide)
    refine ⟨_, c, v', hE, ?_⟩
    rw [e1]
    have hm := tmod_rng (b := v 164 1) hr (by decide) (by decide)
    have he := tmod_emod (a := rkA (v 164) 1 p q) (b := v 164 1) (by omega)
    refine chkN (by omega) (brbI (fun h3 => ⟨?_, _, rfl, hO⟩) (fun h3 => rngI (by omega) ⟨?_, _, rfl, hO⟩))
    · unfold wlA; rw [if_neg h, ← he, if_pos h3]
    · unfold wlA; rw [if_neg h, ← he, if_neg h3]
  · refine rngI (by omega) (chkI (inbI (by omega) (by omega)) (brbI (fun h3 => ⟨?_, _, rfl, Off.rf _ v⟩) (fun h3 => absurd h2.1 h3)))
    unfold wlA; rw [if_pos h]
def okS4 (al : Int → Int) (idle to place but : Int) : Int → Bool := fun p => decide (p ≠ to) && decide (p ≠ but) && decide (p ≠ idle) && decide (al (30 + p) = place)
set_option maxRecDepth 100000 in
theorem sender_loop {Q : sQ} {to place but : Int} (v0 : sF) (hT : okT (v0 164)) (hN : okN (v0 164)) (hto : 0 ≤ to ∧ to < 6) (hQ : ∀ v', Off [168, 169] v0 v' → Q (some (0, sdA (v0 164) (v0 163 18) to place but)) (c, v')) :
    ∀ (m k : Nat) (v : sF), (k : Int) + m = v0 164 2 → Off [168, 169] v0 v → Wp (Ev (d + 3)) 0 (fun _ => 0) 209 Q 9 [(2, 163), (0, to), (0, place), (0, but), (0, (bst (okS4 (v0 164) (v0 163 18) to place but) (fun p => mnA (v0 164) p to) k).1), (0, (bst (okS4 (v0 164) (v0 163 18) to place but) (fun p => mnA (v0 164) p to) k).2), (0, (k : Int)), (9, 0)] [] c v := by
  have hP := hT.2.1
  intro m
  induction m with
  | zero =>
    intro k v hk ho
    have e1 : v 164 = v0 164 := ho 164 (by decide)
    refine E209_9 _ _ _ _ _ _ (brbI (fun h => ?_) (fun h => absurd h (by rw [e1]; omega)))
    have hkk : (v0 164 2).toNat = k := by omega
    have := hQ v ho
    unfold sdA at this
    rw [hkk] at this
    exact this
  | succ m ih =>
    intro k v hk ho
    have e1 : v 164 = v0 164 := ho 164 (by decide)
    have e2 : v 163 = v0 163 := ho 163 (by decide)
    have ihk := ih (k + 1)
    have hstep : ∀ b : Bool, okS4 (v0 164) (v0 163 18) to place but k = b → bst (okS4 (v0 164) (v0 163 18) to place but) (fun p => mnA (v0 164) p to) (k + 1) = if b = true ∧ (bst (okS4 (v0 164) (v0 163 18) to place but) (fun p => mnA (v0 164) p to) k).2 < mnA (v0 164) k to then ((k : Int), mnA (v0 164) k to) else bst (okS4 (v0 164) (v0 163 18) to place but) (fun p => mnA (v0 164) p to) k := by
      intro b hb
      show (if _ then _ else _) = _
      rw [hb]
    have hskip : okS4 (v0 164) (v0 163 18) to place but k = false → ∀ v1, Off [168, 169] v0 v1 → Wp (Ev (d + 3)) 0 (fun _ => 0) 209 Q 9 [(2, 163), (0, to), (0, place), (0, but), (0, (bst (okS4 (v0 164) (v0 163 18) to place but) (fun p => mnA (v0 164) p to) k).1), (0, (bst (okS4 (v0 164) (v0 163 18) to place but) (fun p => mnA (v0 164) p to) k).2), (0, (k : Int) + 1), (9, 0)] [] c v1 := by
      intro hf v1 ho1
      have := ihk v1 (by omega) ho1
      rw [hstep false hf, if_neg (by simp)] at this
      exact this
    refine E209_9 _ _ _ _ _ _ ?_
    rw [e1, e2]
    refine brbI (fun h => absurd h (by omega)) (fun h => brbI (fun h1 => rngI (by omega) (hskip (by simp [okS4, h1]) v ho)) (fun h1 => brbI (fun h2 => rngI (by omega) (hskip (by simp [okS4, h2]) v ho)) (fun h2 => brbI (fun h3 => rngI (by omega) (hskip (by simp [okS4, h3]) v ho)) (fun h3 => rngI (by omega) (chkI (inbI (by omega) (by omega)) (brbI (fun h4 => ?_) (fun h4 => rngI (by omega) (hskip (by simp [okS4, h4]) v ho))))))))
    have htrue : okS4 (v0 164) (v0 163 18) to place but k = true := by simp [okS4, h1, h2, h3, h4]
    obtain ⟨v1, hE, hO⟩ := C_mindsOf (d := d) (c := c) (p := (k : Int)) (q := to) (v := v) (by rw [e1]; exact hT) (by rw [e1]; exact hN) (by omega) hto
    rw [e1] at hE
    refine ⟨_, c, v1, hE, brbI (fun h5 => rngI (by omega) ?_) (fun h5 => rngI (by omega) ?_)⟩
    · have := ihk v1 (by omega) (ho.tr hO)
      rw [hstep true htrue, if_pos ⟨rfl, h5⟩] at this
      exact this
    · have := ihk v1 (by omega) (ho.tr hO)
      rw [hstep true htrue, if_neg (fun q => h5 q.2)] at this
      exact this
theorem C_sender {to place but : Int} {v : sF} (hT : okT (v 164)) (hN : okN (v 164)) (hto : 0 ≤ to ∧ to < 6) : ∃ v', Ev (d + 4) 209 [(2, 163), (0, to), (0, place), (0, but)] (c, v) (some (0, sdA (v 164) (v 163 18) to place but)) (c, v') ∧ Off [168, 169] v v' := by
  have hP := hT.2.1
  exact CI_of (loc209 to place but) (E209_0 to place but (sender_loop v hT hN hto (fun v' ho => ⟨rfl, _, rfl, ho⟩) (v 164 2).toNat 0 v (by omega) (Off.rf _ v)))
theorem sdA_rng (al : Int → Int) (idle to place but : Int) (h : 0 ≤ al 2) : -1 ≤ sdA al idle to place but ∧ sdA al idle to place but < al 2 := by
  have := bst_rng (fun p => decide (p ≠ to) && decide (p ≠ but) && decide (p ≠ idle) && decide (al (30 + p) = place)) (fun p => mnA al p to) (al 2).toNat
  unfold sdA
  omega
theorem nxA_rng {al : Int → Int} (hT : okT al) {idle to place : Int} (hto : 0 ≤ to ∧ to < 6) (hp : 0 ≤ place ∧ place < al 1) : 0 ≤ nxA al idle to place ∧ nxA al idle to place < al 1 := by
  unfold nxA
  split
  · exact hp
  · split
    · exact hp
    · exact wlA_rng hT hto
theorem C_nextOfM {to place : Int} {v : sF} (hT : okT (v 164)) (hN : okN (v 164)) (hto : 0 ≤ to ∧ to < 6) : ∃ v', Ev (d + 5) 210 [(2, 163), (0, to), (0, place)] (c, v) (some (0, nxA (v 164) (v 163 18) to place)) (c, v') ∧ Off [168, 169] v v' := by
  refine CI_of (loc210 to place) (E210_0 to place (rngI (by omega) (chkI (inbI (by omega) (by omega)) (brbN (fun h => ?_) (fun h => ⟨?_, _, rfl, Off.rf _ v⟩)))))
  · obtain ⟨v1, hE, hO⟩ := C_sender (d := d) (c := c) (place := place) (but := -1) hT hN hto
    have e1 : v1 164 = v 164 := hO 164 (by decide)
    have hr := sdA_rng (v 164) (v 163 18) to place (-1) hT.2.1.1
    refine ⟨_, c, v1, hE, brbN (fun h2 => ?_) (fun h2 => ⟨?_, _, rfl, hO⟩)⟩
    · obtain ⟨v2, hE2, hO2⟩ := C_wouldOf (d := d + 1) (c := c) (p := sdA (v 164) (v 163 18) to place (-1)) (q := to) (v := v1) (by rw [e1]; exact hT) (by rw [e1]; exact hN) (by have := hT.2.1; omega) hto
      rw [e1] at hE2
      exact ⟨_, c, v2, hE2, by unfold nxA; rw [if_neg h, if_neg h2], _, rfl, hO.tr hO2⟩
    · unfold nxA; rw [if_neg h, if_pos h2]
  · unfold nxA; rw [if_pos h]
set_option maxRecDepth 100000 in
theorem lays_loop {Q : sQ} {to : Int} (v0 : sF) (hT : okT (v0 164)) (hN : okN (v0 164)) (hto : 0 ≤ to ∧ to < 6) (hQ : ∀ v', Off [168, 169, 171] v0 v' → (∀ k : Int, 0 ≤ k → k < v0 164 1 → v' 171 k = nxA (v0 164) (v0 163 18) to k) → Q none (c, v')) :
    ∀ (m k : Nat) (v : sF), (k : Int) + m = v0 164 1 → Off [168, 169, 171] v0 v → (∀ j : Int, 0 ≤ j → j < k → v 171 j = nxA (v0 164) (v0 163 18) to j) → Wp (Ev (d + 5)) 0 (fun _ => 0) 244 Q 2 [(2, 163), (0, to), (0, (k : Int))] [] c v := by
  have h1 := hT.1
  intro m
  induction m with
  | zero =>
    intro k v hk ho hx
    have e1 : v 164 = v0 164 := ho 164 (by decide)
    exact E244_2 _ _ (brbI (fun h => hQ v ho (fun j q0 q1 => hx j q0 (by omega))) (fun h => absurd h (by rw [e1]; omega)))
  | succ m ih =>
    intro k v hk ho hx
    have e1 : v 164 = v0 164 := ho 164 (by decide)
    have e2 : v 163 = v0 163 := ho 163 (by decide)
    obtain ⟨v1, hE, hO⟩ := C_nextOfM (d := d) (c := c) (to := to) (place := (k : Int)) (v := v) (by rw [e1]; exact hT) (by rw [e1]; exact hN) hto
    rw [e1, e2] at hE
    have hO2 : Off [168, 169, 171] v v1 := hO.wk (by decide)
    refine E244_2 _ _ (brbI (fun h => absurd h (by rw [e1]; omega)) (fun h => ⟨_, c, v1, hE, chkI (inbI (by omega) (by omega)) (rngI (by omega) (ih (k + 1) _ (by omega) ((ho.tr hO2).up (by decide)) (fun j q0 q1 => ?_)))⟩))
    by_cases hj : j = k
    · rw [hj]; exact up_same _ _ _ _
    · rw [up_ne _ hj, hO 171 (by decide)]
      exact hx j q0 (by omega)
theorem C_laysNext {to : Int} {v : sF} (hT : okT (v 164)) (hN : okN (v 164)) (hto : 0 ≤ to ∧ to < 6) : ∃ v', Ev (d + 6) 244 [(2, 163), (0, to)] (c, v) none (c, v') ∧ Off [168, 169, 171] v v' ∧ ∀ k : Int, 0 ≤ k → k < v 164 1 → v' 171 k = nxA (v 164) (v 163 18) to k := by
  have h1 := hT.1
  exact CV_of (loc244 to) (E244_0 to (lays_loop v hT hN hto (fun v' ho hx => ⟨rfl, _, rfl, ho, hx⟩) (v 164 1).toNat 0 v (by omega) (Off.rf _ v) (fun j q0 q1 => absurd q0 (by omega))))
/-- so many steps -/
def itf (f : Int → Int) : Nat → Int → Int
  | 0, x => x
  | n + 1, x => itf f n (f x)
theorem itf_rng {f : Int → Int} {N : Int} (hf : ∀ x, 0 ≤ x → x < N → 0 ≤ f x ∧ f x < N) : ∀ (n : Nat) (x : Int), 0 ≤ x → x < N → 0 ≤ itf f n x ∧ itf f n x < N := by
  intro n
  induction n with
  | zero => intro x h0 h1; exact ⟨h0, h1⟩
  | succ n ih => intro x h0 h1; exact ih _ (hf x h0 h1).1 (hf x h0 h1).2
theorem itf_congr {f g : Int → Int} {N : Int} (hf : ∀ x, 0 ≤ x → x < N → 0 ≤ f x ∧ f x < N) (hg : ∀ x, 0 ≤ x → x < N → g x = f x) : ∀ (n : Nat) (x : Int), 0 ≤ x → x < N → itf g n x = itf f n x := by
  intro n
  induction n with
  | zero => intro x _ _; rfl
  | succ n ih =>
    intro x h0 h1
    show itf g n (g x) = itf f n (f x)
    rw [hg x h0 h1]
    exact ih _ (hf x h0 h1).1 (hf x h0 h1).2
theorem itf_add (f : Int → Int) : ∀ (m n : Nat) (x : Int), itf f (m + n) x = itf f n (itf f m x) := by
  intro m
  induction m with
  | zero => intro n x; rw [Nat.zero_add]; rfl
  | succ m ih => intro n x; rw [Nat.succ_add]; exact ih n (f x)
set_option maxRecDepth 100000 in
theorem C_liesIn {v : sF} {N place : Int} {n : Nat} (hn : n ≤ 100000) (hN : N ≤ 6) (hf : ∀ x, 0 ≤ x → x < N → 0 ≤ v 171 x ∧ v 171 x < N) (hp : 0 ≤ place ∧ place < N) : Ev (d + 1) 246 [(2, 163), (0, place), (0, (n : Int))] (c, v) (some (0, itf (v 171) n place)) (c, v) := by
  refine Ev_of (loc246 place n) (E246_0 place n ?_)
  have key : ∀ (m k : Nat) (x : Int), k + m = n → 0 ≤ x → x < N → itf (v 171) m x = itf (v 171) n place → Wp (Ev d) 0 (fun _ => 0) 246 (fun r2 μ2 => r2 = some (0, itf (v 171) n place) ∧ μ2 = (c, v)) 5 [(2, 163), (9, 0), (0, (n : Int)), (0, x), (0, (k : Int))] [] c v := by
    intro m
    induction m with
    | zero =>
      intro k x hk h0 h1 he
      exact E246_5 _ _ _ (brbI (fun h => ⟨by rw [← he]; rfl, rfl⟩) (fun h => absurd h (by omega)))
    | succ m ih =>
      intro k x hk h0 h1 he
      have := hf x h0 h1
      exact E246_5 _ _ _ (brbI (fun h => absurd h (by omega)) (fun h => chkI (inbI h0 (by omega)) (rngI (by omega) (ih (k + 1) _ (by omega) this.1 this.2 he))))
  exact key n 0 place (by omega) hp.1 hp.2 rfl
end Mod3
