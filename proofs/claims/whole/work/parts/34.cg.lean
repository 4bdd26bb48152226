section Cg
theorem tcks_cg {cd cd' : Int → Int} : ∀ {n : Nat}, (∀ k : Nat, k < n → cd' k = cd k) → tcks cd' n = tcks cd n := by
  intro n
  induction n with
  | zero => intro _; rfl
  | succ n ih =>
    intro h
    show (tcks cd' n).bind (tck (cd' n)) = (tcks cd n).bind (tck (cd n))
    rw [ih (fun k hk => h k (by omega)), h n (by omega)]
theorem rpn_cd {w cd cd' : Int → Int} : ∀ {n : Nat}, (∀ k : Nat, k < n → cd' k = cd k) → rpn w cd' n = rpn w cd n := by
  intro n
  induction n with
  | zero => intro _; rfl
  | succ n ih =>
    intro h
    show stp w (cd' n) (rpn w cd' n) = stp w (cd n) (rpn w cd n)
    rw [ih (fun k hk => h k (by omega)), h n (by omega)]
theorem okLaw_cg {cd cd' : Int → Int} {n : Nat} (h : ∀ k : Nat, k < n → cd' k = cd k) (ho : okLaw cd n) : okLaw cd' n := by
  refine ⟨(tcks_cg h).trans ho.1, fun k hk => ?_⟩
  obtain ⟨ts, h1, h2⟩ := ho.2 k hk
  exact ⟨ts, (tcks_cg (fun j hj => h j (by omega))).trans h1, h2⟩
/-- two posts told alike -/
def sameT (al al' : Int → Int) : Prop := ∀ k : Int, k < 27 ∨ (854 ≤ k ∧ k < 1754) → al' k = al k
theorem sameT.rf (al : Int → Int) : sameT al al := fun _ _ => rfl
theorem sameT_ua {al : Int → Int} {k x : Int} (h : 27 ≤ k ∧ k < 854) : sameT al (ua al k x) := fun j hj => ua_n (by omega)
theorem sameT.cd {al al' : Int → Int} (h : sameT al al') {law : Int} (hl : law = 0 ∨ law = 1) (hb : 0 ≤ al (5 + law) ∧ 1 ≤ al (7 + law) ∧ al (5 + law) + al (7 + law) ≤ 900) : lwN al' law = lwN al law ∧ ∀ k : Nat, k < lwN al law → lwC al' law k = lwC al law k := by
  have e5 : al' (5 + law) = al (5 + law) := h _ (by omega)
  have e7 : al' (7 + law) = al (7 + law) := h _ (by omega)
  refine ⟨by unfold lwN; rw [e7], fun k hk => ?_⟩
  unfold lwN at hk
  unfold lwC
  rw [e5]
  exact h _ (by omega)
theorem okT_cg {al al' : Int → Int} (h : sameT al al') (hT : okT al) : okT al' := by
  have e1 : al' 1 = al 1 := h 1 (by omega)
  refine ⟨by rw [e1]; exact hT.1, by rw [h 2 (by omega)]; exact hT.2.1, fun p h0 h1 => ?_, fun law hl ht => ?_⟩
  · rw [e1, h (9 + p) (by omega), h (15 + p) (by omega), h (21 + p) (by omega)]
    exact hT.2.2.1 p h0 h1
  · rw [h (3 + law) (by omega)] at ht
    have hb := hT.2.2.2 law hl ht
    have hc := h.cd hl hb.1
    refine ⟨?_, ?_, fun k hk => ?_⟩
    · rw [h (5 + law) (by omega), h (7 + law) (by omega)]; exact hb.1
    · rw [hc.1]; exact okLaw_cg hc.2 hb.2.1
    · rw [hc.1] at hk; rw [hc.2 k hk]; exact hb.2.2 k hk
theorem mnB_cg {al al' : Int → Int} (h : sameT al al') (hT : okT al) {p q : Int} (hp : 0 ≤ p ∧ p < 6) (hq : 0 ≤ q ∧ q < 6) (hm : al' (36 + p) = al (36 + p)) (care : Int) : mnB al' p q care = mnB al p q care := by
  unfold mnB
  rw [h 3 (by omega)]
  by_cases h3 : al 3 = 0
  · rw [if_pos h3, if_pos h3]
  · rw [if_neg h3, if_neg h3]
    have hc := h.cd (Or.inl rfl) (hT.2.2.2 0 (Or.inl rfl) h3).1
    have hw : wdB al' p q care 0 = wdB al p q care 0 := by
      unfold wdB
      rw [hm, h (15 + p) (by omega), h (15 + q) (by omega), h (9 + q) (by omega), h (9 + p) (by omega)]
    rw [hw, hc.1, rpn_cd hc.2]
theorem wlB_cg {al al' : Int → Int} (h : sameT al al') (hT : okT al) {p q : Int} (hp : 0 ≤ p ∧ p < 6) (hq : 0 ≤ q ∧ q < 6) (hm : al' (36 + p) = al (36 + p)) (at1 : Int) : wlB al' p q at1 = wlB al p q at1 := by
  unfold wlB
  rw [h 4 (by omega), h 1 (by omega), h (9 + q) (by omega)]
  by_cases h3 : al 4 = 0
  · rw [if_pos h3, if_pos h3]
  · rw [if_neg h3, if_neg h3]
    have hc := h.cd (Or.inr rfl) (hT.2.2.2 1 (Or.inr rfl) h3).1
    have hw : wdB al' p q 0 at1 = wdB al p q 0 at1 := by
      unfold wdB
      rw [hm, h (15 + p) (by omega), h (15 + q) (by omega), h (9 + q) (by omega), h (9 + p) (by omega)]
    rw [hw, hc.1, rpn_cd hc.2]
theorem mnA_cg {al al' : Int → Int} (h : sameT al al') (hT : okT al) {p q : Int} (hp : 0 ≤ p ∧ p < 6) (hq : 0 ≤ q ∧ q < 6) (hm : al' (36 + p) = al (36 + p)) (hc : al' (42 + 6 * p + q) = al (42 + 6 * p + q)) : mnA al' p q = mnA al p q := by
  rw [← mnB_e (okT_cg h hT), ← mnB_e hT, hc]
  exact mnB_cg h hT hp hq hm _
theorem wlA_cg {al al' : Int → Int} (h : sameT al al') (hT : okT al) {p q : Int} (hp : 0 ≤ p ∧ p < 6) (hq : 0 ≤ q ∧ q < 6) (hm : al' (36 + p) = al (36 + p)) (hc : al' (30 + p) = al (30 + p)) : wlA al' p q = wlA al p q := by
  rw [← wlB_e (okT_cg h hT), ← wlB_e hT, hc]
  exact wlB_cg h hT hp hq hm _
theorem Sn_at {al : Int → Int} (h : Sn al) {p x : Int} (hp : 0 ≤ p ∧ p < 6) (hx : 0 ≤ x ∧ x < al 1) : Sn (ua al (30 + p) x) := by
  refine ⟨okT_cg (sameT_ua (by omega)) h.1, fun q q0 q1 => ?_, fun i i0 i1 => ?_⟩
  · have := h.2.1 q q0 q1
    rw [ua_n (show (1 : Int) ≠ 30 + p by omega), ua_n (show 36 + q ≠ 30 + p by omega)]
    by_cases e : q = p
    · rw [e, ua_s]; rw [e] at this; exact ⟨hx, this.2⟩
    · rw [ua_n (by omega)]; exact this
  · rw [ua_n (by omega)]; exact h.2.2 i i0 i1
theorem Sn_care {al : Int → Int} (h : Sn al) {i x : Int} (hi : 0 ≤ i ∧ i < 36) (hx : 0 ≤ x ∧ x ≤ 9) : Sn (ua al (42 + i) x) := by
  refine ⟨okT_cg (sameT_ua (by omega)) h.1, fun q q0 q1 => ?_, fun j j0 j1 => ?_⟩
  · have := h.2.1 q q0 q1
    rw [ua_n (show (1 : Int) ≠ 42 + i by omega), ua_n (show 36 + q ≠ 42 + i by omega), ua_n (show 30 + q ≠ 42 + i by omega)]
    exact this
  · by_cases e : j = i
    · rw [e, ua_s]; exact hx
    · rw [ua_n (by omega)]; exact h.2.2 j j0 j1
theorem WG.tgt {v : sF} {al : Int → Int} {p idle : Int} (h : WG v al p idle (-1)) (hT : okT al) (hp : 0 ≤ p ∧ p < 6) (x : Int) : WG (up v 140 3 x) (ua al (30 + p) x) p idle (-1) := by
  have h6 := hT.2.1
  unfold WG at *
  rw [up_ne2 _ (by decide), up_ne2 _ (by decide), up_ne _ (by decide), up_same, up_ne _ (by decide), up_off 141 (by decide), up_off 142 (by decide), up_off 143 (by decide), ua_n (show (1 : Int) ≠ 30 + p by omega), ua_n (show (2 : Int) ≠ 30 + p by omega), ua_s]
  refine ⟨h.1, h.2.1, h.2.2.1, rfl, h.2.2.2.2.1, fun j h0 h1 hj => ?_⟩
  have hh := h.2.2.2.2.2 j h0 h1 hj
  rw [ua_n (show 30 + j ≠ 30 + p by omega), mnA_cg (sameT_ua (by omega)) hT (by omega) hp (ua_n (by omega)) (ua_n (by omega)), wlA_cg (sameT_ua (by omega)) hT (by omega) hp (ua_n (by omega)) (ua_n (by omega))]
  exact hh
theorem WG.cre {v : sF} {al : Int → Int} {p idle q : Int} (h : WG v al p idle (-1)) (hT : okT al) (hp : 0 ≤ p ∧ p < 6) (hq : 0 ≤ q ∧ q < 6) (hqp : q ≠ p) (x : Int) : WG (up v 142 q (mnB al q p x)) (ua al (42 + 6 * q + p) x) p idle (-1) := by
  have h6 := hT.2.1
  unfold WG at *
  rw [up_ne2 _ (by decide), up_ne2 _ (by decide), up_ne2 _ (by decide), up_ne2 _ (by decide), up_ne2 _ (by decide), up_off 141 (by decide), up_off 143 (by decide), ua_n (show (1 : Int) ≠ 42 + 6 * q + p by omega), ua_n (show (2 : Int) ≠ 42 + 6 * q + p by omega), ua_n (show 30 + p ≠ 42 + 6 * q + p by omega)]
  refine ⟨h.1, h.2.1, h.2.2.1, h.2.2.2.1, h.2.2.2.2.1, fun j h0 h1 hj => ?_⟩
  have hh := h.2.2.2.2.2 j h0 h1 hj
  have hs : sameT al (ua al (42 + 6 * q + p) x) := sameT_ua (by omega)
  rw [ua_n (show 30 + j ≠ 42 + 6 * q + p by omega), wlA_cg hs hT (by omega) hp (ua_n (by omega)) (ua_n (by omega))]
  refine ⟨hh.1, fun _ => ⟨?_, (hh.2 (Or.inl rfl)).2⟩⟩
  by_cases e : j = q
  · subst e
    rw [up_same, ← mnB_e (okT_cg hs hT), ua_s, mnB_cg hs hT (by omega) hp (ua_n (by omega))]
  · rw [up_ne _ e, mnA_cg hs hT (by omega) hp (ua_n (by omega)) (ua_n (by omega))]
    exact (hh.2 (Or.inl rfl)).1
theorem nxA_at {al : Int → Int} (hT : okT al) {p : Int} (hp : 0 ≤ p ∧ p < 6) (x : Int) (idle place : Int) : nxA (ua al (30 + p) x) idle p place = if place = x then place else if sdA al idle p place (-1) = -1 then place else wlA al (sdA al idle p place (-1)) p := by
  have h6 := hT.2.1
  have hsd : sdA (ua al (30 + p) x) idle p place (-1) = sdA al idle p place (-1) := by
    unfold sdA
    rw [ua_n (show (2 : Int) ≠ 30 + p by omega)]
    refine congrArg Prod.fst (bst_congr (fun k hk => ?_))
    by_cases e : (k : Int) = p
    · exact ⟨by simp [e], fun q => absurd q (by simp [e])⟩
    · exact ⟨by (try dsimp only); rw [ua_n (by omega)], fun _ => mnA_cg (sameT_ua (by omega)) hT (by omega) hp (ua_n (by omega)) (ua_n (by omega))⟩
  unfold nxA
  rw [ua_s, hsd]
  by_cases h1 : place = x
  · rw [if_pos h1, if_pos h1]
  · rw [if_neg h1, if_neg h1]
    by_cases h2 : sdA al idle p place (-1) = -1
    · rw [if_pos h2, if_pos h2]
    · rw [if_neg h2, if_neg h2]
      have hs := sdA_ok (al := al) (by omega) h2
      exact wlA_cg (sameT_ua (by omega)) hT (by omega) hp (ua_n (by omega)) (ua_n (by omega))
end Cg
