section Dd9
variable {d c : Nat}
theorem n59_loop {Q : sQ} (v0 : sF) (S : Int) (hS : 0 ≤ S ∧ S ≤ 9) (h102 : v0 164 102 = S) (hQ : ∀ v, Off [164] v0 v → v 164 102 = S + 1 → (∀ k : Int, k ≠ 102 → ¬ (103 + 75 * S ≤ k ∧ k < 103 + 75 * S + 75) → v 164 k = v0 164 k) → (∀ i : Int, 0 ≤ i → i < 75 → v 164 (103 + 75 * S + i) = v0 170 i) → Q none (c, v)) : ∀ (m : Nat) (x : Int) (v : sF), 0 ≤ x → x + m = 75 → Off [164] v0 v → (∀ k : Int, ¬ (103 + 75 * S ≤ k ∧ k < 103 + 75 * S + x) → v 164 k = v0 164 k) → (∀ i : Int, 0 ≤ i → i < x → v 164 (103 + 75 * S + i) = v0 170 i) → Wp (Ev d) 0 (fun _ => 0) 220 Q 59 [(2, 163), (0, x)] [] c v := by
  intro m
  induction m with
  | zero =>
    intro x v x0 hx ho h1 h2
    have e102 : v 164 102 = S := by rw [h1 102 (by omega)]; exact h102
    refine E220_59 _ (brbI (fun _ => ?_) (fun z => absurd z (by omega)))
    rw [e102]
    refine rngI (by omega) (hQ _ (ho.up (by decide)) (up_same _ _ _ _) (fun k k0 k1 => by rw [up_ne _ k0]; exact h1 k (by omega)) (fun i i0 i1 => by rw [up_ne _ (by omega)]; exact h2 i i0 (by omega)))
  | succ m ih =>
    intro x v x0 hx ho h1 h2
    have e102 : v 164 102 = S := by rw [h1 102 (by omega)]; exact h102
    have e170 : v 170 = v0 170 := ho 170 (by decide)
    refine E220_59 _ (brbI (fun z => absurd z (by omega)) (fun _ => ?_))
    rw [e102, e170]
    refine rngI (by omega) (rngI (by omega) (rngI (by omega) (chkI (inbI (by omega) (by omega)) (chkI (inbI (by omega) (by omega)) (rngI (by omega) (ih (x + 1) _ (by omega) (by omega) (ho.up (by decide)) (fun k hk => ?_) (fun i i0 i1 => ?_)))))))
    · rw [up_ne _ (by omega)]; exact h1 k (by omega)
    · by_cases e : i = x
      · rw [e, up_same]
      · rw [up_ne _ (by omega)]; exact h2 i i0 (by omega)
theorem n14_loop {Q : sQ} (v0 : sF) (hQ : ∀ v, Off [164] v0 v → (∀ k : Int, ¬ (103 ≤ k ∧ k < 778) → v 164 k = v0 164 k) → (∀ k : Int, 103 ≤ k → k < 778 → v 164 k = v0 164 (k + 75)) → rngc (v 164 102 - 1) (Wp (Ev d) 0 (fun _ => 0) 220 Q 59 [(2, 163), (0, 0)] [] c (up v 164 102 (v 164 102 - 1)))) : ∀ (m : Nat) (x : Int) (v : sF), 0 ≤ x → x + m = 675 → Off [164] v0 v → (∀ k : Int, ¬ (103 ≤ k ∧ k < 103 + x) → v 164 k = v0 164 k) → (∀ k : Int, 103 ≤ k → k < 103 + x → v 164 k = v0 164 (k + 75)) → Wp (Ev d) 0 (fun _ => 0) 220 Q 14 [(2, 163), (0, x)] [] c v := by
  intro m
  induction m with
  | zero =>
    intro x v x0 hx ho h1 h2
    exact E220_14 _ (brbI (fun _ => hQ v ho (fun k hk => h1 k (by omega)) (fun k k0 k1 => h2 k k0 (by omega))) (fun z => absurd z (by omega)))
  | succ m ih =>
    intro x v x0 hx ho h1 h2
    refine E220_14 _ (brbI (fun z => absurd z (by omega)) (fun _ => rngI (by omega) (rngI (by omega) (chkI (inbI (by omega) (by omega)) (chkI (inbI (by omega) (by omega)) (rngI (by omega) (ih (x + 1) _ (by omega) (by omega) (ho.up (by decide)) (fun k hk => ?_) (fun k k0 k1 => ?_))))))))
    · rw [up_ne _ (by omega)]; exact h1 k (by omega)
    · by_cases e : k = 103 + x
      · rw [e, up_same, h1 (178 + x) (by omega)]; congr 1; omega
      · rw [up_ne _ (by omega)]; exact h2 k k0 (by omega)
theorem C_notes {v : sF} {b : Int → Int} (h0 : 0 ≤ v 164 102 ∧ v 164 102 ≤ 10) (hb : ∀ i : Int, 0 ≤ i → i < 75 → v 170 i = b (27 + i)) : ∃ v', Ev (d + 1) 220 [(2, 163)] (c, v) none (c, v') ∧ Off [164] v v' ∧ pshR (v 164) b (v' 164) := by
  refine CV_of loc220 (E220_0 (brbN (fun z => ?_) (fun z => ?_)))
  · refine n59_loop v (v 164 102) (by omega) rfl (fun v' ho h102 h1 h2 => ⟨rfl, v', rfl, ho, fun k hk => ?_, by rw [if_neg z]; exact h102, fun j i j0 j1 i0 i1 => ?_, fun i i0 i1 => ?_⟩) 75 0 v (by omega) (by omega) (Off.rf _ v) (fun _ _ => rfl) (fun i i0 i1 => by omega)
    · rw [h102] at hk; exact h1 k (by omega) (by omega)
    · rw [h102] at j1
      rw [if_neg z, h1 _ (by omega) (by omega)]
    · rw [h102, show v 164 102 + 1 - 1 = v 164 102 by omega, h2 i i0 i1]; exact hb i i0 i1
  · refine n14_loop v (fun v1 ho1 g1 g2 => ?_) 675 0 v (by omega) (by omega) (Off.rf _ v) (fun _ _ => rfl) (fun k k0 k1 => by omega)
    have e102 : v1 164 102 = 10 := by rw [g1 102 (by omega)]; exact z
    rw [e102]
    have e170 : up v1 164 102 (10 - 1) 170 = v 170 := (up_off 170 (by decide)).trans (ho1 170 (by decide))
    refine rngI (by omega) (n59_loop (up v1 164 102 (10 - 1)) 9 (by omega) (up_same _ _ _ _) (fun v' ho h102 h1 h2 => ⟨rfl, v', rfl, ((ho1.up (by decide)).tr ho), fun k hk => ?_, by rw [if_pos z]; exact h102, fun j i j0 j1 i0 i1 => ?_, fun i i0 i1 => ?_⟩) 75 0 _ (by omega) (by omega) (Off.rf _ _) (fun _ _ => rfl) (fun i i0 i1 => by omega))
    · rw [h102] at hk
      rw [h1 k (by omega) (by omega), up_ne _ (by omega), g1 k (by omega)]
    · rw [h102] at j1
      rw [if_pos z, h1 _ (by omega) (by omega), up_ne _ (by omega), g2 _ (by omega) (by omega)]
      congr 1; omega
    · rw [h102, show (9 : Int) + 1 - 1 = 9 by omega, h2 i i0 i1, e170]; exact hb i i0 i1
theorem ia_loop {Q : sQ} (v0 : sF) (hQ : ∀ v, Off [164] v0 v → (∀ k : Int, ¬ (27 ≤ k ∧ k < 102) → v 164 k = v0 164 k) → (∀ i : Int, 0 ≤ i → i < 75 → v 164 (27 + i) = v0 170 i) → Q none (c, v)) : ∀ (m : Nat) (x : Int) (v : sF), 0 ≤ x → x + m = 75 → Off [164] v0 v → (∀ k : Int, ¬ (27 ≤ k ∧ k < 27 + x) → v 164 k = v0 164 k) → (∀ i : Int, 0 ≤ i → i < x → v 164 (27 + i) = v0 170 i) → Wp (Ev d) 0 (fun _ => 0) 219 Q 2 [(2, 163), (0, x)] [] c v := by
  intro m
  induction m with
  | zero =>
    intro x v x0 hx ho h1 h2
    exact E219_2 _ (brbI (fun _ => hQ v ho (fun k hk => h1 k (by omega)) (fun i i0 i1 => h2 i i0 (by omega))) (fun z => absurd z (by omega)))
  | succ m ih =>
    intro x v x0 hx ho h1 h2
    have e170 : v 170 = v0 170 := ho 170 (by decide)
    refine E219_2 _ (brbI (fun z => absurd z (by omega)) (fun _ => ?_))
    rw [e170]
    refine rngI (by omega) (chkI (inbI (by omega) (by omega)) (chkI (inbI (by omega) (by omega)) (rngI (by omega) (ih (x + 1) _ (by omega) (by omega) (ho.up (by decide)) (fun k hk => ?_) (fun i i0 i1 => ?_)))))
    · rw [up_ne _ (by omega)]; exact h1 k (by omega)
    · by_cases e : i = x
      · rw [e, up_same]
      · rw [up_ne _ (by omega)]; exact h2 i i0 (by omega)
theorem C_isAgain {v : sF} {al : Int → Int} (hk : kK al (v 164)) (hb : ∀ i : Int, 0 ≤ i → i < 75 → v 170 i = al (27 + i)) : ∃ v', Ev (d + 1) 219 [(2, 163)] (c, v) none (c, v') ∧ Off [164] v v' ∧ v' 164 = al := by
  refine CV_of loc219 (E219_0 (ia_loop v (fun v' ho h1 h2 => ⟨rfl, v', rfl, ho, funext (fun k => ?_)⟩) 75 0 v (by omega) (by omega) (Off.rf _ v) (fun _ _ => rfl) (fun i i0 i1 => by omega)))
  by_cases e : 27 ≤ k ∧ k < 102
  · have := h2 (k - 27) (by omega) (by omega)
    rw [hb (k - 27) (by omega) (by omega), show 27 + (k - 27) = k by omega] at this
    exact this
  · rw [h1 k e, hk k (by omega)]
theorem un_loop {Q : sQ} (v0 : sF) (S : Int) (hS : 0 ≤ S ∧ S ≤ 9) (h102 : v0 164 102 = S) (hQ : ∀ v, Off [164] v0 v → (∀ k : Int, ¬ (27 ≤ k ∧ k < 102) → v 164 k = v0 164 k) → (∀ k : Int, 27 ≤ k → k < 102 → v 164 k = v0 164 (103 + 75 * S + (k - 27))) → Q (some (0, S)) (c, v)) : ∀ (m : Nat) (x : Int) (v : sF), 0 ≤ x → x + m = 75 → Off [164] v0 v → (∀ k : Int, ¬ (27 ≤ k ∧ k < 27 + x) → v 164 k = v0 164 k) → (∀ k : Int, 27 ≤ k → k < 27 + x → v 164 k = v0 164 (103 + 75 * S + (k - 27))) → Wp (Ev d) 0 (fun _ => 0) 233 Q 44 [(2, 163), (9, 0), (0, x)] [] c v := by
  intro m
  induction m with
  | zero =>
    intro x v x0 hx ho h1 h2
    refine E233_44 _ (brbI (fun _ => ?_) (fun z => absurd z (by omega)))
    rw [h1 102 (by omega), h102]
    exact hQ v ho (fun k hk => h1 k (by omega)) (fun k k0 k1 => h2 k k0 (by omega))
  | succ m ih =>
    intro x v x0 hx ho h1 h2
    refine E233_44 _ (brbI (fun z => absurd z (by omega)) (fun _ => ?_))
    rw [h1 102 (by omega), h102]
    refine rngI (by omega) (rngI (by omega) (rngI (by omega) (rngI (by omega) (chkI (inbI (by omega) (by omega)) (chkI (inbI (by omega) (by omega)) (rngI (by omega) (ih (x + 1) _ (by omega) (by omega) (ho.up (by decide)) (fun k hk => ?_) (fun k k0 k1 => ?_))))))))
    · rw [up_ne _ (by omega)]; exact h1 k (by omega)
    · by_cases e : k = 27 + x
      · rw [e, up_same, h1 _ (by omega)]; congr 1; omega
      · rw [up_ne _ (by omega)]; exact h2 k k0 (by omega)
/-- what deeds leave of the model -/
def scD : List Int := [163, 164, 168, 169, 170]
def QD (v v' : sF) : Prop := Off scD v v' ∧ ∀ i : Int, (i = 5 ∨ i = 13 ∨ i = 14 ∨ i = 18) → v' 163 i = v 163 i
theorem M_undo {v : sF} {x : Int} (h0 : 0 ≤ v 164 102 ∧ v 164 102 ≤ 10) : ∃ v', Ev (d + 2) 233 [(2, 163), (0, x)] (c, v) (some (0, if 1 ≤ x ∧ x ≤ v 164 102 then v 164 102 - x else -3)) (c, v') ∧ QD v v' ∧ ((1 ≤ x ∧ x ≤ v 164 102 ∧ uR (v 164) x (v' 164)) ∨ (¬ (1 ≤ x ∧ x ≤ v 164 102) ∧ v' 164 = v 164)) := by
  have e164 : up v 163 0 0 164 = v 164 := up_off 164 (by decide)
  have hq0 : QD v (up v 163 0 0) := ⟨(Off.rf _ v).up (by decide), fun i hi => up_ne _ (by omega)⟩
  have hW := C_within (d := d) (c := c) (v := up v 163 0 0) x 1 10
  refine CI_of (loc233 x) (E233_0 x ⟨_, c, _, hW, bfz (fun z => ?_) (fun z => ?_)⟩)
  · rw [if_neg (by omega)]
    exact ⟨rfl, _, rfl, hq0, Or.inr ⟨by omega, e164⟩⟩
  · rw [e164]
    refine brbI (fun z2 => rngI (by omega) ?_) (fun z2 => ?_)
    · rw [if_pos (by omega)]
      refine un_loop (up (up v 163 0 0) 164 102 (v 164 102 - x)) (v 164 102 - x) (by omega) (up_same _ _ _ _) (fun v' ho h1 h2 => ⟨rfl, v', rfl, ⟨hq0.1.tr (((Off.rf _ _).up (by decide)).tr (ho.wk (by decide))), fun i hi => ?_⟩, Or.inl ⟨z.1, z2, fun k hk => ?_, ?_, fun k k0 k1 => ?_⟩⟩) 75 0 _ (by omega) (by omega) (Off.rf _ _) (fun _ _ => rfl) (fun k k0 k1 => by omega)
      · rw [ho 163 (by decide), up_ne2 _ (by decide), hq0.2 i hi]
      · rw [h1 k (by omega), up_ne _ (by omega), e164]
      · rw [h1 102 (by omega), up_same]
      · rw [h2 k k0 k1, up_ne _ (by omega), e164]
    · rw [if_neg (by omega)]
      exact ⟨rfl, _, rfl, hq0, Or.inr ⟨by omega, e164⟩⟩
/-- the answer of a deed -/
def rD (al : Int → Int) (k p x : Int) : Int := if dw al k p x = 0 then dA al k p x else -10 - dw al k p x
def dvR (al : Int → Int) (k p x : Int) (al2 : Int → Int) : Prop := (dw al k p x ≠ 0 ∧ al2 = al) ∨ (dw al k p x = 0 ∧ ∃ al1, dR al k p x al1 ∧ K96 al al1 ∧ pshR al1 al al2)
theorem keeps_at {v : sF} : ∃ v', Ev (d + 1) 218 [(2, 163)] (c, v) none (c, v') ∧ Off [170] v v' ∧ ∀ j : Int, 0 ≤ j → j < 75 → v' 170 j = v 164 (27 + j) := C_keeps
theorem M_mail {v : sF} {p x : Int} (hS : St (v 164)) (h0 : 0 ≤ v 164 102 ∧ v 164 102 ≤ 10) : ∃ v', Ev (d + 9) 228 [(2, 163), (0, p), (0, x)] (c, v) (some (0, rD (v 164) 0 p x)) (c, v') ∧ QD v v' ∧ dvR (v 164) 0 p x (v' 164) := by
  have e164 : up v 163 0 0 164 = v 164 := up_off 164 (by decide)
  have hq0 : QD v (up v 163 0 0) := ⟨(Off.rf _ v).up (by decide), fun i hi => up_ne _ (by omega)⟩
  have hW := C_whyMail (d := d + 4) (c := c) (v := up v 163 0 0) (p := p) (x := x) (by rw [e164]; exact hS.1)
  rw [e164] at hW
  have hwr := dw_r (v 164) 0 p x
  refine CI_of (loc228 p x) (E228_0 p x ⟨_, c, _, hW, brbI (fun z => ?_) (fun z => rngI (by omega) ?_)⟩)
  · obtain ⟨hp, w0, _⟩ := dw0 (by omega) z
    have w := w0 rfl
    obtain ⟨v1, hE1, hO1, hj⟩ := keeps_at (d := d + 7) (c := c) (v := up v 163 0 0)
    have a1 : v1 164 = v 164 := (hO1 164 (by decide)).trans e164
    obtain ⟨v2, hE2, hO2, hm, hK⟩ := C_mails (d := d + 4) (c := c) (v := v1) (p := p) (x := x) (by rw [a1]; exact hS) (by rw [a1]; have := hS.2.2.1; omega) (by rw [a1]; exact hp)
    rw [a1] at hm hK
    have hd : dR (v 164) 0 p x (v2 164) := ⟨fun _ => hm, fun q => absurd q (by decide), fun q => absurd q (by decide), fun q => absurd q (by decide)⟩
    have hkk := dR_kK hS (by omega) z hd
    obtain ⟨v3, hE3, hO3, hp3⟩ := C_notes (d := d + 7) (c := c) (v := v2) (b := v 164) (by rw [hkk 102 (by omega)]; exact h0) (fun i i0 i1 => by rw [hO2 170 (by decide), hj i i0 i1, e164])
    have e28 : v3 164 28 = v 164 28 + 1 := by rw [hp3.1 28 (by omega), hm.2.1]
    refine ⟨c, v1, hE1, c, v2, hE2, c, v3, hE3, ?_⟩
    rw [e28]
    have := hS.2.2.1
    refine rngI (by omega) ⟨?_, v3, rfl, ⟨hq0.1.tr ((hO1.wk (by decide)).tr ((hO2.wk (by decide)).tr (hO3.wk (by decide)))), fun i hi => ?_⟩, Or.inr ⟨z, v2 164, hd, hK, hp3⟩⟩
    · unfold rD dA; rw [if_pos z, if_pos rfl, show v 164 28 + 1 - 1 = v 164 28 by omega]
    · rw [hO3 163 (by decide), hO2 163 (by decide), hO1 163 (by decide), hq0.2 i hi]
  · exact ⟨by unfold rD; rw [if_neg z], _, rfl, hq0, Or.inl ⟨z, e164⟩⟩
theorem M_move {v : sF} {p x : Int} (hS : St (v 164)) (h0 : 0 ≤ v 164 102 ∧ v 164 102 ≤ 10) : ∃ v', Ev (d + 9) 229 [(2, 163), (0, p), (0, x)] (c, v) (some (0, rD (v 164) 1 p x)) (c, v') ∧ QD v v' ∧ dvR (v 164) 1 p x (v' 164) := by
  have e164 : up v 163 0 0 164 = v 164 := up_off 164 (by decide)
  have hq0 : QD v (up v 163 0 0) := ⟨(Off.rf _ v).up (by decide), fun i hi => up_ne _ (by omega)⟩
  have hW := C_whyMove (d := d + 4) (c := c) (v := up v 163 0 0) (p := p) (x := x) (by rw [e164]; exact hS.1)
  rw [e164] at hW
  have hwr := dw_r (v 164) 1 p x
  refine CI_of (loc229 p x) (E229_0 p x ⟨_, c, _, hW, brbI (fun z => ?_) (fun z => rngI (by omega) ?_)⟩)
  · obtain ⟨hp, _⟩ := dw0 (by omega) z
    obtain ⟨v1, hE1, hO1, hj⟩ := keeps_at (d := d + 7) (c := c) (v := up v 163 0 0)
    have a1 : v1 164 = v 164 := (hO1 164 (by decide)).trans e164
    obtain ⟨n, v2, hE2, hO2, hm, hK⟩ := C_moves1 (d := d + 4) (c := c) (v := v1) (p := p) (x := x) (by rw [a1]; exact hS) (by rw [a1]; exact hp)
    rw [a1] at hm hK
    have hd : dR (v 164) 1 p x (v2 164) := ⟨fun q => absurd q (by decide), fun q => ⟨n, hm⟩, fun q => absurd q (by decide), fun q => absurd q (by decide)⟩
    have hkk := dR_kK hS (by omega) z hd
    obtain ⟨v3, hE3, hO3, hp3⟩ := C_notes (d := d + 7) (c := c) (v := v2) (b := v 164) (by rw [hkk 102 (by omega)]; exact h0) (fun i i0 i1 => by rw [hO2 170 (by decide), hj i i0 i1, e164])
    have hn : n = mvN (v 164) p x := hm.2.2.2.2.2
    refine ⟨c, v1, hE1, n, c, v2, hE2, c, v3, hE3, ?_, v3, rfl, ⟨hq0.1.tr ((hO1.wk (by decide)).tr ((hO2.wk (by decide)).tr (hO3.wk (by decide)))), fun i hi => ?_⟩, Or.inr ⟨z, v2 164, hd, hK, hp3⟩⟩
    · unfold rD dA; rw [if_pos z, if_neg (by decide), if_pos rfl, hn]
    · rw [hO3 163 (by decide), hO2 163 (by decide), hO1 163 (by decide), hq0.2 i hi]
  · exact ⟨by unfold rD; rw [if_neg z], _, rfl, hq0, Or.inl ⟨z, e164⟩⟩
theorem M_arouse {v : sF} {p x : Int} (hS : St (v 164)) (h0 : 0 ≤ v 164 102 ∧ v 164 102 ≤ 10) : ∃ v', Ev (d + 9) 230 [(2, 163), (0, p), (0, x)] (c, v) (some (0, rD (v 164) 2 p x)) (c, v') ∧ QD v v' ∧ dvR (v 164) 2 p x (v' 164) := by
  have e164 : up v 163 0 0 164 = v 164 := up_off 164 (by decide)
  have hq0 : QD v (up v 163 0 0) := ⟨(Off.rf _ v).up (by decide), fun i hi => up_ne _ (by omega)⟩
  have hW := C_whyArouse (d := d + 4) (c := c) (v := up v 163 0 0) (p := p) (x := x) (by rw [e164]; exact hS.1)
  rw [e164] at hW
  have hwr := dw_r (v 164) 2 p x
  have h2 := hS.1.2.1
  refine CI_of (loc230 p x) (E230_0 p x ⟨_, c, _, hW, brbI (fun z => ?_) (fun z => rngI (by omega) ?_)⟩)
  · obtain ⟨hp, _, _, w2, _⟩ := dw0 (by omega) z
    have w := w2 rfl
    obtain ⟨v1, hE1, hO1, hj⟩ := keeps_at (d := d + 7) (c := c) (v := up v 163 0 0)
    have a1 : v1 164 = v 164 := (hO1 164 (by decide)).trans e164
    have hc := hS.2.1.2 (6 * p + x) (by omega) (by omega)
    rw [show 42 + (6 * p + x) = 42 + 6 * p + x by omega] at hc
    obtain ⟨v2, hv2⟩ : ∃ v2, v2 = up v1 164 (42 + 6 * p + x) (v1 164 (42 + 6 * p + x) + 1) := ⟨_, rfl⟩
    have hO2 : Off [164] v1 v2 := by rw [hv2]; exact (Off.rf _ v1).up (by decide)
    have e2 : v2 164 = ua (v 164) (42 + 6 * p + x) (v 164 (42 + 6 * p + x) + 1) := by rw [hv2, up_ua, a1]
    have hd : dR (v 164) 2 p x (v2 164) := ⟨fun q => absurd q (by decide), fun q => absurd q (by decide), fun q => e2, fun q => absurd q (by decide)⟩
    have hkk := dR_kK hS (by omega) z hd
    obtain ⟨v3, hE3, hO3, hp3⟩ := C_notes (d := d + 7) (c := c) (v := v2) (b := v 164) (by rw [hkk 102 (by omega)]; exact h0) (fun i i0 i1 => by rw [hO2 170 (by decide), hj i i0 i1, e164])
    have e3 : v3 164 (42 + 6 * p + x) = v 164 (42 + 6 * p + x) + 1 := by rw [hp3.1 _ (by omega), e2, ua_s]
    have hC := C_caresOf (d := d + 7) (c := c) (v := v3) (p := p) (q := x) (by omega) (by omega)
    rw [e3] at hC
    refine ⟨c, v1, hE1, rngI (by omega) (rngI (by omega) (rngI (by omega) (chkI (inbI (by omega) (by omega)) ?_)))⟩
    rw [← hv2, a1]
    refine rngI (by omega) (chkI (inbI (by omega) (by omega)) ⟨c, v3, hE3, _, c, v3, hC, ?_, v3, rfl, ⟨hq0.1.tr ((hO1.wk (by decide)).tr ((hO2.wk (by decide)).tr (hO3.wk (by decide)))), fun i hi => ?_⟩, Or.inr ⟨z, v2 164, hd, fun l l0 l1 _ => by rw [e2, ua_n (by omega)], hp3⟩⟩)
    · unfold rD dA; rw [if_pos z, if_neg (by decide), if_neg (by decide), if_pos rfl]
    · rw [hO3 163 (by decide), hO2 163 (by decide), hO1 163 (by decide), hq0.2 i hi]
  · exact ⟨by unfold rD; rw [if_neg z], _, rfl, hq0, Or.inl ⟨z, e164⟩⟩
theorem M_mood {v : sF} {p x : Int} (hS : St (v 164)) (h0 : 0 ≤ v 164 102 ∧ v 164 102 ≤ 10) : ∃ v', Ev (d + 9) 231 [(2, 163), (0, p), (0, x)] (c, v) (some (0, rD (v 164) 3 p x)) (c, v') ∧ QD v v' ∧ dvR (v 164) 3 p x (v' 164) := by
  have e164 : up v 163 0 0 164 = v 164 := up_off 164 (by decide)
  have hq0 : QD v (up v 163 0 0) := ⟨(Off.rf _ v).up (by decide), fun i hi => up_ne _ (by omega)⟩
  have h2 := hS.1.2.1
  have hW := C_isPersonM (d := d + 6) (c := c) (v := up v 163 0 0) (x := p) (by rw [e164]; exact h2)
  rw [e164] at hW
  have hW2 := C_within (d := d + 7) (c := c) (v := up v 163 0 0) x 0 9
  refine CI_of (loc231 p x) (E231_0 p x ⟨_, c, _, hW, bfz (fun hp => ?_) (fun hp => ⟨_, c, _, hW2, bfi (fun hx => ?_) (fun hx => ?_)⟩)⟩)
  · have e : dw (v 164) 3 p x = 1 := by unfold dw; rw [if_pos hp]
    exact ⟨by unfold rD; rw [e]; rfl, _, rfl, hq0, Or.inl ⟨by omega, e164⟩⟩
  · have z : dw (v 164) 3 p x = 0 := by unfold dw; rw [if_neg (fun q => q hp), if_neg (by decide), if_neg (by decide), if_neg (by decide), if_pos hx]
    obtain ⟨v1, hE1, hO1, hj⟩ := keeps_at (d := d + 7) (c := c) (v := up v 163 0 0)
    have a1 : v1 164 = v 164 := (hO1 164 (by decide)).trans e164
    obtain ⟨v2, hv2⟩ : ∃ v2, v2 = up v1 164 (36 + p) x := ⟨_, rfl⟩
    have hO2 : Off [164] v1 v2 := by rw [hv2]; exact (Off.rf _ v1).up (by decide)
    have e2 : v2 164 = ua (v 164) (36 + p) x := by rw [hv2, up_ua, a1]
    have hd : dR (v 164) 3 p x (v2 164) := ⟨fun q => absurd q (by decide), fun q => absurd q (by decide), fun q => absurd q (by decide), fun q => e2⟩
    have hkk := dR_kK hS (by omega) z hd
    obtain ⟨v3, hE3, hO3, hp3⟩ := C_notes (d := d + 7) (c := c) (v := v2) (b := v 164) (by rw [hkk 102 (by omega)]; exact h0) (fun i i0 i1 => by rw [hO2 170 (by decide), hj i i0 i1, e164])
    have e3 : v3 170 (9 + p) = v 164 (36 + p) := by rw [hO3 170 (by decide), hO2 170 (by decide), hj (9 + p) (by omega) (by omega), e164]; congr 1; omega
    refine ⟨c, v1, hE1, rngI (by omega) (chkI (inbI (by omega) (by omega)) ?_)⟩
    rw [← hv2]
    refine ⟨c, v3, hE3, rngI (by omega) (chkI (inbI (by omega) (by omega)) ⟨?_, v3, rfl, ⟨hq0.1.tr ((hO1.wk (by decide)).tr ((hO2.wk (by decide)).tr (hO3.wk (by decide)))), fun i hi => ?_⟩, Or.inr ⟨z, v2 164, hd, fun l l0 l1 _ => by rw [e2, ua_n (by omega)], hp3⟩⟩)⟩
    · unfold rD dA; rw [if_pos z, if_neg (by decide), if_neg (by decide), if_neg (by decide), e3]
    · rw [hO3 163 (by decide), hO2 163 (by decide), hO1 163 (by decide), hq0.2 i hi]
  · have e : dw (v 164) 3 p x = 1 := by unfold dw; rw [if_neg (fun q => q hp), if_neg (by decide), if_neg (by decide), if_neg (by decide), if_neg hx]
    exact ⟨by unfold rD; rw [e]; rfl, _, rfl, hq0, Or.inl ⟨by omega, e164⟩⟩
end Dd9
