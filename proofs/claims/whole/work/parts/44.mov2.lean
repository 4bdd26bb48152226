section Mov2
variable {d c : Nat}
theorem C_isCount {v : sF} {x : Int} (hx : x ≤ 2147483647) : Ev (d + 2) 164 [(2, 1), (0, x)] (c, v) (some (0, if x = 0 ∨ (10 ≤ x ∧ x - 10 < v 3 1) then 1 else 0)) (c, v) := by
  refine Ev_of (loc164 x) (E164_0 x (brbI (fun h => ⟨by rw [if_pos (Or.inl h)], rfl⟩) (fun h => brbI (fun h2 => ⟨by rw [if_neg (by omega)], rfl⟩) (fun h2 => rngI (by omega) ⟨_, c, v, C_isPersonX, bfz (fun h3 => ⟨by rw [if_neg (by omega)], rfl⟩) (fun h3 => ⟨by rw [if_pos (by omega)], rfl⟩)⟩))))
/-- Ways with people at other places -/
def PX (v : sF) (al : Int → Int) (p : Int) (w : Int → Int) : Prop := (v 3 0 = al 1 ∧ v 3 1 = al 2 ∧ v 140 2 = p ∧ v 140 3 = al (30 + p) ∧ v 140 4 = -1) ∧ ∀ q : Int, 0 ≤ q → q < al 2 → v 141 q = w q ∧ (q ≠ p → v 142 q = mnA al q p ∧ ∀ y : Int, 0 ≤ y → y < al 1 → v 143 (q * 6 + y) = wlB al q p y)
theorem PX.g {v : sF} {al w : Int → Int} {p : Int} (h : PX v al p w) (hT : okT al) (hp : 0 ≤ p ∧ p < 6) (hw : okW al w) (hwp : w p = al (30 + p)) : WG v (pl al w) p (-1) (-1) := by
  have h2 := hT.2.1
  unfold WG
  rw [pl_n (show (1 : Int) < 30 ∨ (36 : Int) ≤ 1 by omega), pl_n (show (2 : Int) < 30 ∨ (36 : Int) ≤ 2 by omega), pl_at hp, hwp]
  refine ⟨h.1.1, h.1.2.1, h.1.2.2.1, h.1.2.2.2.1, h.1.2.2.2.2, fun j j0 j1 hj => ?_⟩
  have hh := h.2 j j0 j1
  have hj6 : 0 ≤ j ∧ j < 6 := by omega
  have hwj := hw j j0 (by omega)
  rw [pl_at hj6, mnA_pl hT hj6 hp, wlA_pl hT hj6 hp]
  exact ⟨hh.1, fun _ => ⟨(hh.2 hj).1, (hh.2 hj).2 _ hwj.1 hwj.2⟩⟩
theorem PX.up {v : sF} {al w : Int → Int} {p : Int} (h : PX v al p w) (q x : Int) : PX (up v 141 q x) al p (ua w q x) := by
  unfold PX at *
  rw [up_off 3 (by decide), up_off 140 (by decide), up_off 142 (by decide), up_off 143 (by decide)]
  refine ⟨h.1, fun r r0 r1 => ?_⟩
  have hh := h.2 r r0 r1
  refine ⟨?_, hh.2⟩
  by_cases e : r = q
  · rw [e, up_same, ua_s]
  · rw [up_ne _ e, ua_n e]; exact hh.1
theorem PX.cong {v v' : sF} {al w : Int → Int} {p : Int} (h : PX v al p w) {S : List Int} (ho : Off S v v') (hs : ∀ k ∈ [3, 140, 141, 142, 143], k ∉ S) : PX v' al p w := by
  unfold PX at *
  rw [ho 3 (hs 3 (by decide)), ho 140 (hs 140 (by decide)), ho 141 (hs 141 (by decide)), ho 142 (hs 142 (by decide)), ho 143 (hs 143 (by decide))]
  exact h
theorem aa2_loop {al : Int → Int} {p q : Int} {Q : sQ} (v0 : sF) (hS : Sn al) (hp : 0 ≤ p ∧ p < 6) (hq : 0 ≤ q ∧ q < al 2) (hR : CR v0 13 al) (h13 : v0 140 1 = 13) (hto : v0 140 2 = p) (hQ : ∀ v, Off [7, 11, 12, 143] v0 v → (∀ j : Int, (j < q * 6 ∨ q * 6 + 6 ≤ j) → v 143 j = v0 143 j) → (∀ y : Int, 0 ≤ y → y < al 1 → v 143 (q * 6 + y) = wlB al q p y) → Wp (Ev (d + 4)) 0 (fun _ => 0) 89 Q 2 [(2, 140), (0, q + 1), (9, 0)] [] c v) : ∀ (m : Nat) (k : Int) (v : sF), 0 ≤ k → k + m = al 1 → Off [7, 11, 12, 143] v0 v → (∀ j : Int, (j < q * 6 ∨ q * 6 + 6 ≤ j) → v 143 j = v0 143 j) → (∀ y : Int, 0 ≤ y → y < k → v 143 (q * 6 + y) = wlB al q p y) → Wp (Ev (d + 4)) 0 (fun _ => 0) 89 Q 15 [(2, 140), (0, q), (0, k)] [] c v := by
  have h1 := hS.1.1
  have h2 := hS.1.2.1
  intro m
  induction m with
  | zero =>
    intro k v k0 hk ho hj hy
    refine E89_15 _ _ ?_
    rw [ho 3 (by decide), hR.p.1]
    exact brbI (fun _ => rngI (by omega) (hQ v ho hj (fun y y0 y1 => hy y y0 (by omega)))) (fun z => absurd z (by omega))
  | succ m ih =>
    intro k v k0 hk ho hj hy
    have hRv : CR v 13 al := hR.w (Or.inl rfl) (ho.wk (by decide))
    obtain ⟨v1, hE, hO⟩ := C_goalFrom (d := d) (c := c) (v := v) (a := 13) (q := q) (p := p) (at1 := k) (Or.inl rfl) hS.1 hS.2 hRv (by rw [ho 140 (by decide)]; exact h13) (by rw [ho 140 (by decide)]; exact hto) (by omega) hp (by omega)
    refine E89_15 _ _ ?_
    rw [ho 3 (by decide), hR.p.1]
    refine brbI (fun z => absurd z (by omega)) (fun _ => rngI (by omega) (rngI (by omega) ⟨_, c, v1, hE, chkI (inbI (by omega) (by omega)) (rngI (by omega) (ih (k + 1) _ (by omega) (by omega) ((ho.tr (hO.wk (by decide))).up (by decide)) (fun j hjj => ?_) (fun y y0 y1 => ?_)))⟩))
    · rw [up_ne _ (by omega), hO 143 (by decide)]; exact hj j hjj
    · by_cases e : y = k
      · rw [e, up_same]
      · rw [up_ne _ (by omega), hO 143 (by decide)]; exact hy y y0 (by omega)
theorem aa1_loop {al : Int → Int} {p : Int} {Q : sQ} (v0 : sF) (hS : Sn al) (hp : 0 ≤ p ∧ p < 6) (hR : CR v0 13 al) (h13 : v0 140 1 = 13) (hto : v0 140 2 = p) (hQ : ∀ v, Off [7, 11, 12, 143] v0 v → (∀ q : Int, 0 ≤ q → q < al 2 → ∀ y : Int, 0 ≤ y → y < al 1 → v 143 (q * 6 + y) = wlB al q p y) → Q none (c, v)) : ∀ (m : Nat) (q : Int) (v : sF), 0 ≤ q → q + m = al 2 → Off [7, 11, 12, 143] v0 v → (∀ r : Int, 0 ≤ r → r < q → ∀ y : Int, 0 ≤ y → y < al 1 → v 143 (r * 6 + y) = wlB al r p y) → Wp (Ev (d + 4)) 0 (fun _ => 0) 89 Q 2 [(2, 140), (0, q), (9, 0)] [] c v := by
  have h1 := hS.1.1
  have h2 := hS.1.2.1
  intro m
  induction m with
  | zero =>
    intro q v q0 hq ho hj
    refine E89_2 _ ?_
    rw [ho 3 (by decide), hR.p.2]
    exact brbI (fun _ => hQ v ho (fun r r0 r1 => hj r r0 (by omega))) (fun z => absurd z (by omega))
  | succ m ih =>
    intro q v q0 hq ho hj
    refine E89_2 _ ?_
    rw [ho 3 (by decide), hR.p.2]
    refine brbI (fun z => absurd z (by omega)) (fun _ => ?_)
    refine aa2_loop v hS hp ⟨q0, by omega⟩ (hR.w (Or.inl rfl) (ho.wk (by decide))) (by rw [ho 140 (by decide)]; exact h13) (by rw [ho 140 (by decide)]; exact hto) (fun v2 ho2 hj2 hy2 => ?_) (al 1).toNat 0 v (by omega) (by omega) (Off.rf _ _) (fun _ _ => rfl) (fun y y0 y1 => absurd y0 (by omega))
    refine ih (q + 1) v2 (by omega) (by omega) (ho.tr ho2) (fun r r0 r1 y y0 y1 => ?_)
    by_cases e : r = q
    · rw [e]; exact hy2 y y0 y1
    · rw [hj2 _ (by omega)]; exact hj r r0 (by omega) y y0 y1
theorem C_aimAll {v : sF} {al : Int → Int} {p : Int} (hS : Sn al) (hp : 0 ≤ p ∧ p < 6) (hR : CR v 13 al) (h13 : v 140 1 = 13) (hto : v 140 2 = p) : ∃ v', Ev (d + 5) 89 [(2, 140)] (c, v) none (c, v') ∧ Off [7, 11, 12, 143] v v' ∧ ∀ q : Int, 0 ≤ q → q < al 2 → ∀ y : Int, 0 ≤ y → y < al 1 → v' 143 (q * 6 + y) = wlB al q p y := by
  have h2 := hS.1.2.1
  exact CV_of loc89 (E89_0 (aa1_loop v hS hp hR h13 hto (fun v2 ho hj => ⟨rfl, _, rfl, ho, hj⟩) (al 2).toNat 0 v (by omega) (by omega) (Off.rf _ _) (fun r r0 r1 => absurd r0 (by omega))))
set_option maxRecDepth 100000 in
theorem ior_k : ∀ (a b : Fin 64), (0 ≤ ior ((a.val : Nat) : Int) ((b.val : Nat) : Int) ∧ ior ((a.val : Nat) : Int) ((b.val : Nat) : Int) < 64) ∧ ∀ j : Fin 6, tb (ior ((a.val : Nat) : Int) ((b.val : Nat) : Int)) ((j.val : Nat) : Int) = (tb ((a.val : Nat) : Int) ((j.val : Nat) : Int) || tb ((b.val : Nat) : Int) ((j.val : Nat) : Int)) := by decide +kernel
theorem ior_i {a b : Int} (ha : 0 ≤ a ∧ a < 64) (hb : 0 ≤ b ∧ b < 64) : (0 ≤ ior a b ∧ ior a b < 64) ∧ ∀ j : Int, 0 ≤ j → j < 6 → tb (ior a b) j = (tb a j || tb b j) := by
  have h := ior_k ⟨a.toNat, by omega⟩ ⟨b.toNat, by omega⟩
  dsimp only at h
  rw [show ((a.toNat : Nat) : Int) = a by omega, show ((b.toNat : Nat) : Int) = b by omega] at h
  refine ⟨h.1, fun j j0 j1 => ?_⟩
  have := h.2 ⟨j.toNat, by omega⟩
  dsimp only at this
  rw [show ((j.toNat : Nat) : Int) = j by omega] at this
  exact this
theorem gb_loop {v : sF} {al w : Int → Int} {p y : Int} {Q : sQ} (hS : Sn al) (hp : 0 ≤ p ∧ p < 6) (h : PX v al p w) (hy : 0 ≤ y ∧ y < al 1) (hQ : ∀ b, (0 ≤ b ∧ b < 64) → (∀ q : Int, 0 ≤ q → q < al 2 → q ≠ p → 0 < mnA al q p → tb b (wlB al q p y) = true) → Q (some (0, b)) (c, v)) : ∀ (m : Nat) (k b : Int), 0 ≤ k → k + m = al 2 → (0 ≤ b ∧ b < 64) → (∀ q : Int, 0 ≤ q → q < k → q ≠ p → 0 < mnA al q p → tb b (wlB al q p y) = true) → Wp (Ev d) 0 (fun _ => 0) 106 Q 4 [(2, 140), (0, y), (0, b), (0, k)] [] c v := by
  have h1 := hS.1.1
  have h2 := hS.1.2.1
  intro m
  induction m with
  | zero =>
    intro k b k0 hk hb hj
    refine E106_4 _ _ _ ?_
    rw [h.1.2.1]
    exact brbI (fun _ => hQ b hb (fun q q0 q1 => hj q q0 (by omega))) (fun z => absurd z (by omega))
  | succ m ih =>
    intro k b k0 hk hb hj
    refine E106_4 _ _ _ ?_
    rw [h.1.2.1, h.1.2.2.1]
    refine brbI (fun z => absurd z (by omega)) (fun _ => brbI (fun z => rngI (by omega) (ih (k + 1) b (by omega) (by omega) hb (fun q q0 q1 hqp hqm => ?_))) (fun z => chkI (inbI (by omega) (by omega)) ?_))
    · exact hj q q0 (by omega) hqp hqm
    · have hh := (h.2 k k0 (by omega)).2 z
      have hwr := wlB_rng (p := k) (at1 := y) hS.1 hp
      rw [hh.1, hh.2 y hy.1 hy.2]
      refine brbI (fun z2 => rngI (by omega) (ih (k + 1) b (by omega) (by omega) hb (fun q q0 q1 hqp hqm => ?_))) (fun z2 => rngI (by omega) (rngI (by omega) (chkI (inbI (by omega) (by omega)) (rngI (by omega) ?_))))
      · by_cases e : q = k
        · rw [e] at hqm; omega
        · exact hj q q0 (by omega) hqp hqm
      · have ht := fun j hj => tb_i hb (y := wlB al k p y) (j := j) (by omega) hj
        refine ih (k + 1) _ (by omega) (by omega) (ht 0 (by decide)).2.1 (fun q q0 q1 hqp hqm => ?_)
        have hwq := wlB_rng (p := q) (at1 := y) hS.1 hp
        rw [(ht (wlB al q p y) (by omega)).1]
        by_cases e : q = k
        · rw [e]; simp
        · rw [hj q q0 (by omega) hqp hqm]; rfl
theorem C_goalBits {v : sF} {al w : Int → Int} {p y : Int} (hS : Sn al) (hp : 0 ≤ p ∧ p < 6) (h : PX v al p w) (hy : 0 ≤ y ∧ y < al 1) : ∃ b, Ev (d + 1) 106 [(2, 140), (0, y)] (c, v) (some (0, b)) (c, v) ∧ (0 ≤ b ∧ b < 64) ∧ ∀ q : Int, 0 ≤ q → q < al 2 → q ≠ p → 0 < mnA al q p → tb b (wlB al q p y) = true := by
  have h2 := hS.1.2.1
  obtain ⟨r, c', v', hE, b, hr, hc, hv, hb, hj⟩ := Cl_of (d := d) (y := 106) (as := [(2, 140), (0, y)]) (c := c) (v := v) (Q := fun r c' v' => ∃ b, r = some (0, b) ∧ c' = c ∧ v' = v ∧ (0 ≤ b ∧ b < 64) ∧ ∀ q : Int, 0 ≤ q → q < al 2 → q ≠ p → 0 < mnA al q p → tb b (wlB al q p y) = true) (by
    rw [loc106 y]
    exact E106_0 y (gb_loop hS hp h hy (fun b hb hj => ⟨b, rfl, rfl, rfl, hb, hj⟩) (al 2).toNat 0 0 (by omega) (by omega) (by decide) (fun q q0 q1 => absurd q0 (by omega))))
  subst hr hc hv
  exact ⟨b, hE, hb, hj⟩
/-- what a set must hold: all the ways' places of i days -/
def ccI (al : Int → Int) (p x : Int) (i : Nat) (b : Int) : Prop := ∀ w, adM al p (mMv al p) w → ∀ j, j ≤ i → tb b (itf (nxA (pl al w) (-1) p) j x) = true
theorem adM.p {al w : Int → Int} {p : Int} {mv : Int → Prop} (h : adM al p mv w) (hp : 0 ≤ p ∧ p < 6) : w p = al (30 + p) := Classical.byContradiction fun z => (h.2 p hp.1 hp.2 z).2.1 rfl
theorem nx_goal {al w : Int → Int} {p y : Int} (hS : Sn al) (hp : 0 ≤ p ∧ p < 6) (hw : adM al p (mMv al p) w) {b : Int} (hb : ∀ q : Int, 0 ≤ q → q < al 2 → q ≠ p → 0 < mnA al q p → tb b (wlB al q p y) = true) (hy : tb b y = true) : tb b (nxA (pl al w) (-1) p y) = true := by
  have h2 := hS.1.2.1
  unfold nxA
  split
  · exact hy
  · split
    · exact hy
    · rename_i h3
      have hs := sdA_ok (al := pl al w) (by rw [pl_n (show (2 : Int) < 30 ∨ (36 : Int) ≤ 2 by omega)]; exact h2.1) h3
      rw [pl_n (show (2 : Int) < 30 ∨ (36 : Int) ≤ 2 by omega)] at hs
      generalize sdA (pl al w) (-1) p y (-1) = s at *
      have hs6 : 0 ≤ s ∧ s < 6 := by omega
      have hmn := hs.2.2.2.2.2
      have hat := hs.2.2.2.2.1
      rw [mnA_pl hS.1 hs6 hp] at hmn
      rw [pl_at hs6] at hat
      rw [wlA_pl hS.1 hs6 hp, hat]
      exact hb s hs.1.1 hs.1.2 hs.2.1 hmn
theorem pl_gd {al w : Int → Int} (hS : Sn al) {p : Int} (hp : 0 ≤ p ∧ p < 6) (hw : okW al w) : Gd (nxA (pl al w) (-1) p) (al 1) := by
  have := nx_gd (Sn_pl hS hw).1 (-1) hp
  rw [pl_n (show (1 : Int) < 30 ∨ (36 : Int) ≤ 1 by omega)] at this
  exact this
theorem cc2_loop {v : sF} {al w0 : Int → Int} {p x b0 i : Int} {Q : sQ} (hS : Sn al) (hp : 0 ≤ p ∧ p < 6) (h : PX v al p w0) (hi : 0 ≤ i ∧ i ≤ 10) (hQ : ∀ b, (0 ≤ b ∧ b < 64) → (∀ j : Int, 0 ≤ j → j < 6 → tb b0 j = true → tb b j = true) → (∀ y : Int, 0 ≤ y → y < al 1 → tb b0 y = true → ∀ w, adM al p (mMv al p) w → tb b (nxA (pl al w) (-1) p y) = true) → Wp (Ev (d + 1)) 0 (fun _ => 0) 105 Q 6 [(2, 140), (9, 0), (0, b), (0, i + 1), (9, 0)] [] c v) : ∀ (m : Nat) (k b : Int), 0 ≤ k → k + m = al 1 → (0 ≤ b ∧ b < 64) → (∀ j : Int, 0 ≤ j → j < 6 → tb b0 j = true → tb b j = true) → (∀ y : Int, 0 ≤ y → y < k → tb b0 y = true → ∀ w, adM al p (mMv al p) w → tb b (nxA (pl al w) (-1) p y) = true) → Wp (Ev (d + 1)) 0 (fun _ => 0) 105 Q 20 [(2, 140), (9, 0), (0, b), (0, i), (0, k)] [] c v := by
  have h1 := hS.1.1
  intro m
  induction m with
  | zero =>
    intro k b k0 hk hb hj hy
    refine E105_20 _ _ _ ?_
    rw [h.1.1]
    exact brbI (fun _ => rngI (by omega) (hQ b hb hj (fun y y0 y1 => hy y y0 (by omega)))) (fun z => absurd z (by omega))
  | succ m ih =>
    intro k b k0 hk hb hj hy
    obtain ⟨r, hE, hr, hrj⟩ := C_goalBits (d := d) (c := c) hS hp h (y := k) ⟨k0, by omega⟩
    have ho := ior_i hb hr
    refine E105_20 _ _ _ ?_
    rw [h.1.1]
    refine brbI (fun z => absurd z (by omega)) (fun _ => brbN (fun z => rngI (by omega) (ih (k + 1) b (by omega) (by omega) hb hj (fun y y0 y1 hyb => ?_))) (fun z => ⟨_, c, v, hE, rngI (by omega) (ih (k + 1) _ (by omega) (by omega) ho.1 (fun j j0 j1 hjb => ?_) (fun y y0 y1 hyb w hw => ?_))⟩))
    · by_cases e : y = k
      · rw [e] at hyb
        have := hj k k0 (by omega) hyb
        unfold tb at this
        rw [decide_eq_true_iff] at this
        exact absurd this z
      · exact hy y y0 (by omega) hyb
    · rw [ho.2 j j0 j1, hj j j0 j1 hjb]; rfl
    · have hg := (pl_gd hS hp hw.1).2 y y0 (by omega)
      by_cases e : y = k
      · subst e
        refine nx_goal hS hp hw (fun q q0 q1 hqp hqm => ?_) ?_
        · have hwq := wlB_rng (p := q) (at1 := y) hS.1 hp
          rw [ho.2 _ hwq.1 (by omega), hrj q q0 q1 hqp hqm]; simp
        · rw [ho.2 y y0 (by omega), hj y y0 (by omega) hyb]; rfl
      · rw [ho.2 _ hg.1 (by omega), hy y y0 (by omega) hyb w hw]; rfl
theorem cc1_loop {v : sF} {al w0 : Int → Int} {p x : Int} {Q : sQ} (hS : Sn al) (hp : 0 ≤ p ∧ p < 6) (h : PX v al p w0) (hx : 0 ≤ x ∧ x < al 1) (hQ : ∀ r, (r = 0 ∨ r = 1) → (r = 0 → ∀ w, adM al p (mMv al p) w → q_com (pl al w) (-1) p x = -1) → Q (some (0, r)) (c, v)) : ∀ (m i : Nat) (b : Int), (i : Int) + m = al 1 → (0 ≤ b ∧ b < 64) → ccI al p x i b → Wp (Ev (d + 1)) 0 (fun _ => 0) 105 Q 6 [(2, 140), (9, 0), (0, b), (0, (i : Int)), (9, 0)] [] c v := by
  have h1 := hS.1.1
  intro m
  induction m with
  | zero =>
    intro i b hi hb hI
    refine E105_6 _ _ ?_
    rw [h.1.1, h.1.2.2.2.1]
    refine brbI (fun _ => brbN (fun z => hQ 0 (Or.inl rfl) (fun _ w hw => ?_)) (fun z => hQ 1 (Or.inr rfl) (fun q => absurd q (by decide)))) (fun z => absurd z (by omega))
    refine Classical.byContradiction fun q => ?_
    unfold q_com at q
    rw [pl_at hp, hw.p hp, pl_n (show (1 : Int) < 30 ∨ (36 : Int) ≤ 1 by omega)] at q
    rcases cmo_cases (nxA (pl al w) (-1) p) (al (30 + p)) x (al 1).toNat with ⟨j, j1, j2, _⟩ | hno
    · have := hI w hw j (by omega)
      rw [j2] at this
      unfold tb at this
      rw [decide_eq_true_iff] at this
      exact z this
    · exact q (cmo_none _ _ _ hno)
  | succ m ih =>
    intro i b hi hb hI
    refine E105_6 _ _ ?_
    rw [h.1.1]
    refine brbI (fun z => absurd z (by omega)) (fun _ => ?_)
    refine cc2_loop (b0 := b) (x := x) hS hp h (by omega) (fun b2 hb2 hj2 hy2 => ih (i + 1) b2 (by omega) hb2 (fun w hw j hj => ?_)) (al 1).toNat 0 b (by omega) (by omega) hb (fun _ _ _ q => q) (fun y y0 y1 => absurd y0 (by omega))
    have hgd := pl_gd hS hp hw.1
    rcases Nat.lt_or_eq_of_le hj with q | q
    · have hr := hgd.it j hx
      exact hj2 _ hr.1 (by omega) (hI w hw j (by omega))
    · rw [q, itf_succ]
      have hr := hgd.it i hx
      exact hy2 _ hr.1 hr.2 (hI w hw i (Nat.le_refl i)) w hw
theorem C_couldCome {v : sF} {al w0 : Int → Int} {p x : Int} (hS : Sn al) (hp : 0 ≤ p ∧ p < 6) (h : PX v al p w0) (hx : 0 ≤ x ∧ x < al 1) : ∃ r, Ev (d + 2) 105 [(2, 140), (0, x)] (c, v) (some (0, r)) (c, v) ∧ (r = 0 ∨ r = 1) ∧ (r = 0 → ∀ w, adM al p (mMv al p) w → q_com (pl al w) (-1) p x = -1) := by
  have h1 := hS.1.1
  obtain ⟨r, c', v', hE, b, hr, hc, hv, hb, hj⟩ := Cl_of (d := d + 1) (y := 105) (as := [(2, 140), (0, x)]) (c := c) (v := v) (Q := fun r c' v' => ∃ b, r = some (0, b) ∧ c' = c ∧ v' = v ∧ (b = 0 ∨ b = 1) ∧ (b = 0 → ∀ w, adM al p (mMv al p) w → q_com (pl al w) (-1) p x = -1)) (by
    rw [loc105 x]
    have hk : ∀ y : Fin 6, (0 ≤ ishl 1 ((y.val : Nat) : Int) ∧ ishl 1 ((y.val : Nat) : Int) < 64) ∧ tb (ishl 1 ((y.val : Nat) : Int)) ((y.val : Nat) : Int) = true := by decide +kernel
    have hk := hk ⟨x.toNat, by omega⟩
    dsimp only at hk
    rw [show ((x.toNat : Nat) : Int) = x by omega] at hk
    exact E105_0 x (cc1_loop hS hp h hx (fun b hb hj => ⟨b, rfl, rfl, rfl, hb, hj⟩) (al 1).toNat 0 _ (by omega) hk.1 (fun w hw j hj => by
      rw [show j = 0 by omega]; exact hk.2)))
  subst hr hc hv
  exact ⟨b, hE, hb, hj⟩
theorem C_isFixed {v : sF} {al w : Int → Int} {p q : Int} (h : PX v al p w) (hP : al 2 ≤ 6) (hq : 0 ≤ q ∧ q < al 2) : Ev (d + 1) 65 [(2, 145), (0, q)] (c, v) (some (0, if q ≠ p ∧ 0 < mnA al q p then 0 else 1)) (c, v) := by
  refine Ev_of (loc65 q) (E65_0 q ?_)
  rw [h.1.2.2.1]
  refine brbI (fun z => ⟨by rw [if_neg (fun z2 => z2.1 z)], rfl⟩) (fun z => chkI (inbI (by omega) (by omega)) ?_)
  rw [((h.2 q hq.1 hq.2).2 z).1]
  exact brbI (fun z2 => ⟨by rw [if_pos ⟨z, z2⟩], rfl⟩) (fun z2 => ⟨by rw [if_neg (fun z3 => z2 z3.2)], rfl⟩)
end Mov2
