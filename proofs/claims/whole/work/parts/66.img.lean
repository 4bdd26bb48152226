section Img
variable {d c : Nat}
/-- a Told's cells have their types -/
def TT (a : Int) : Prop := tyT a = 18 ∧ (tyT (a + 1) = 1 ∧ lnT (a + 1) = 6) ∧ (tyT (a + 2) = 1 ∧ lnT (a + 2) = 6) ∧ (tyT (a + 3) = 1 ∧ lnT (a + 3) = 6) ∧ tyT (a + 4) = 12 ∧ (tyT (a + 5) = 1 ∧ lnT (a + 5) = 900) ∧ (tyT (a + 6) = 1 ∧ lnT (a + 6) = 2) ∧ (tyT (a + 7) = 1 ∧ lnT (a + 7) = 2)
theorem TT_3 : TT 3 := by unfold TT; decide
theorem TT_38 : TT 38 := by unfold TT; decide
theorem TT_182 : TT 182 := by unfold TT; decide
theorem TT_200 : TT 200 := by unfold TT; decide
def tOf (a : Int) : List Int := [a, a + 1, a + 2, a + 3, a + 4, a + 5, a + 6, a + 7]
theorem tOf_mem {a b : Int} : b ∈ tOf a ↔ (a ≤ b ∧ b ≤ a + 7) := nOf_mem
theorem C_copyL {v : sF} {a0 a1 : Int} (h0 : TT a0) (h1 : TT a1) (hd : a1 + 9 < a0 ∨ a0 + 9 < a1) : ∃ v', Ev (d + 1) 20 [(2, a0 + 4), (2, a1 + 4)] (c, v) none (c, v') ∧ Off [a0 + 4, a0 + 5, a0 + 6, a0 + 7] v v' ∧ v' (a0 + 4) 1 = v (a1 + 4) 1 ∧ (∀ j : Int, 0 ≤ j → j < 900 → v' (a0 + 5) j = v (a1 + 5) j) ∧ (∀ j : Int, 0 ≤ j → j < 2 → v' (a0 + 6) j = v (a1 + 6) j ∧ v' (a0 + 7) j = v (a1 + 7) j) ∧ ∀ j : Int, j ≠ 1 → v' (a0 + 4) j = v (a0 + 4) j := by
  obtain ⟨_, _, _, _, p4, p5, p6, p7⟩ := h0
  obtain ⟨_, _, _, _, q4, q5, q6, q7⟩ := h1
  refine CV_of (loc20 (a0 + 4) (a1 + 4)) (E20_0 (a0 + 4) (a1 + 4) ?_)
  rw [show a0 + 4 + 1 = a0 + 5 by omega, show a0 + 4 + 2 = a0 + 6 by omega, show a0 + 4 + 3 = a0 + 7 by omega, show a1 + 4 + 1 = a1 + 5 by omega, show a1 + 4 + 2 = a1 + 6 by omega, show a1 + 4 + 3 = a1 + 7 by omega]
  refine cktI (beqI q4) (cktI (beqI p4) (cktI (beqI q4) (cktI (beqI p4) (cktI (cpk q5.1 p5.1 (by omega)) (chkI (cpl (by rw [q5.2]; decide) (by rw [p5.2]; decide)) (cktI (beqI q4) (cktI (beqI p4) (cktI (cpk q6.1 p6.1 (by omega)) (chkI (cpl (by rw [q6.2]; decide) (by rw [p6.2]; decide)) (cktI (beqI q4) (cktI (beqI p4) (cktI (cpk q7.1 p7.1 (by omega)) (chkI (cpl (by rw [q7.2]; decide) (by rw [p7.2]; decide)) ⟨rfl, _, rfl, fun b hb => ?_, ?_, fun j j0 j1 => ?_, fun j j0 j1 => ⟨?_, ?_⟩, fun j hj => ?_⟩)))))))))))))
  · simp at hb
    rw [cpy_of _ (by omega), cpy_of _ (by omega), cpy_of _ (by omega), up_off b (by omega)]
  · rw [cpy_of _ (by omega), cpy_of _ (by omega), cpy_of _ (by omega), up_same]
  · rw [cpy_of _ (by omega), cpy_of _ (by omega), cpy_in _ (by omega), up_off _ (by omega)]
    congr 1; omega
  · rw [cpy_of _ (by omega), cpy_in _ (by omega), cpy_of _ (by omega), up_off _ (by omega)]
    congr 1; omega
  · rw [cpy_in _ (by omega), cpy_of _ (by omega), cpy_of _ (by omega), up_off _ (by omega)]
    congr 1; omega
  · rw [cpy_of _ (by omega), cpy_of _ (by omega), cpy_of _ (by omega), up_ne _ hj]
theorem C_copyTo {v : sF} {a0 a1 : Int} (h0 : TT a0) (h1 : TT a1) (hd : a1 + 9 < a0 ∨ a0 + 9 < a1) : ∃ v', Ev (d + 2) 81 [(2, a0), (2, a1)] (c, v) none (c, v') ∧ Off (tOf a0) v v' ∧ (v' a0 0 = v a1 0 ∧ v' a0 1 = v a1 1 ∧ v' a0 2 = v a1 2) ∧ (∀ j : Int, 0 ≤ j → j < 6 → v' (a0 + 1) j = v (a1 + 1) j ∧ v' (a0 + 2) j = v (a1 + 2) j ∧ v' (a0 + 3) j = v (a1 + 3) j) ∧ v' (a0 + 4) 1 = v (a1 + 4) 1 ∧ (∀ j : Int, 0 ≤ j → j < 900 → v' (a0 + 5) j = v (a1 + 5) j) ∧ (∀ j : Int, 0 ≤ j → j < 2 → v' (a0 + 6) j = v (a1 + 6) j ∧ v' (a0 + 7) j = v (a1 + 7) j) ∧ (∀ j : Int, 3 ≤ j → v' a0 j = v a0 j) ∧ (∀ j : Int, j ≠ 1 → v' (a0 + 4) j = v (a0 + 4) j) := by
  have hp := h0
  have hq := h1
  obtain ⟨p0, p1, p2, p3, p4, _⟩ := hp
  obtain ⟨q0, q1, q2, q3, q4, _⟩ := hq
  refine CV_of (loc81 a0 a1) (E81_0 a0 a1 ?_)
  refine cktI (beqI q0) (cktI (beqI p0) (cktI (beqI q0) (cktI (beqI p0) (cktI (beqI q0) (cktI (beqI p0) (cktI (beqI q0) (cktI (beqI p0) (cktI (cpk q1.1 p1.1 (by omega)) (chkI (cpl (by rw [q1.2]; decide) (by rw [p1.2]; decide)) (cktI (beqI q0) (cktI (beqI p0) (cktI (cpk q2.1 p2.1 (by omega)) (chkI (cpl (by rw [q2.2]; decide) (by rw [p2.2]; decide)) (cktI (beqI q0) (cktI (beqI p0) (cktI (cpk q3.1 p3.1 (by omega)) (chkI (cpl (by rw [q3.2]; decide) (by rw [p3.2]; decide)) (cktI (beqI p0) (cktI (beqI q0) (cktI (beqI p4) ?_))))))))))))))))))))
  obtain ⟨v1, hv1⟩ : ∃ v1, v1 = (cpy (cpy (cpy (up (up (up v a0 0 (v a1 0)) a0 1 ((up v a0 0 (v a1 0)) a1 1)) a0 2 ((up (up v a0 0 (v a1 0)) a0 1 ((up v a0 0 (v a1 0)) a1 1)) a1 2)) (a1 + 1) 0 (a0 + 1) 0 6) (a1 + 2) 0 (a0 + 2) 0 6) (a1 + 3) 0 (a0 + 3) 0 6) := ⟨_, rfl⟩
  rw [← hv1]
  have o1 : ∀ b : Int, ¬ (a0 ≤ b ∧ b ≤ a0 + 3) → v1 b = v b := fun b hb => by
    rw [hv1, cpy_of _ (by omega), cpy_of _ (by omega), cpy_of _ (by omega), up_off b (by omega), up_off b (by omega), up_off b (by omega)]
  obtain ⟨v2, hE, hO, l1, l2, l3, l4⟩ := C_copyL (d := d) (c := c) (v := v1) h0 h1 hd
  have o2 : ∀ b : Int, b ≤ a0 + 3 ∨ a0 + 7 < b → v2 b = v1 b := fun b hb => hO b (by simp; omega)
  refine ⟨c, v2, hE, rfl, v2, rfl, fun b hb => ?_, ⟨?_, ?_, ?_⟩, fun j j0 j1 => ⟨?_, ?_, ?_⟩, ?_, fun j j0 j1 => ?_, fun j j0 j1 => ?_, fun j j0 => ?_, fun j hj => by rw [l4 j hj, o1 _ (by omega)]⟩
  · rw [tOf_mem] at hb
    rw [o2 b (by omega), o1 b (by omega)]
  · rw [o2 a0 (by omega), hv1, cpy_of _ (by omega), cpy_of _ (by omega), cpy_of _ (by omega), up_ne _ (by decide), up_ne _ (by decide), up_same]
  · rw [o2 a0 (by omega), hv1, cpy_of _ (by omega), cpy_of _ (by omega), cpy_of _ (by omega), up_ne _ (by decide), up_same, up_ne2 _ (by omega)]
  · rw [o2 a0 (by omega), hv1, cpy_of _ (by omega), cpy_of _ (by omega), cpy_of _ (by omega), up_same, up_ne2 _ (by omega), up_ne2 _ (by omega)]
  · rw [o2 _ (by omega), hv1, cpy_of _ (by omega), cpy_of _ (by omega), cpy_in _ (by omega), up_off _ (by omega), up_off _ (by omega), up_off _ (by omega)]
    congr 1; omega
  · rw [o2 _ (by omega), hv1, cpy_of _ (by omega), cpy_in _ (by omega), cpy_of _ (by omega), up_off _ (by omega), up_off _ (by omega), up_off _ (by omega)]
    congr 1; omega
  · rw [o2 _ (by omega), hv1, cpy_in _ (by omega), cpy_of _ (by omega), cpy_of _ (by omega), up_off _ (by omega), up_off _ (by omega), up_off _ (by omega)]
    congr 1; omega
  · rw [l1, o1 _ (by omega)]
  · rw [l2 j j0 j1, o1 _ (by omega)]
  · rw [(l3 j j0 j1).1, (l3 j j0 j1).2, o1 _ (by omega), o1 _ (by omega)]; exact ⟨rfl, rfl⟩
  · rw [o2 a0 (by omega), hv1, cpy_of _ (by omega), cpy_of _ (by omega), cpy_of _ (by omega), up_ne _ (by omega), up_ne _ (by omega), up_ne _ (by omega)]
theorem C_copyT {v : sF} {a0 a1 : Int} {al : Int → Int} (h0 : TT a0) (h1 : TT a1) (hd : a1 + 9 < a0 ∨ a0 + 9 < a1) (hT : okT al) (hR : TolR v a1 al) : ∃ v', Ev (d + 2) 81 [(2, a0), (2, a1)] (c, v) none (c, v') ∧ Off (tOf a0) v v' ∧ TolR v' a0 al ∧ (∀ j : Int, 3 ≤ j → v' a0 j = v a0 j) ∧ ∀ j : Int, j ≠ 1 → v' (a0 + 4) j = v (a0 + 4) j := by
  obtain ⟨v', hE, hO, ⟨t0, t1, t2⟩, t3, t4, t5, t6, t7, t8⟩ := C_copyTo (d := d) (c := c) (v := v) h0 h1 hd
  have hL : ∀ law : Int, (law = 0 ∨ law = 1) → LawR v (a1 + 4) al law → LawR v' (a0 + 4) al law := fun law hl h => by
    unfold LawR at h ⊢
    rw [show a0 + 4 + 1 = a0 + 5 by omega, show a0 + 4 + 2 = a0 + 6 by omega, show a0 + 4 + 3 = a0 + 7 by omega]
    rw [show a1 + 4 + 1 = a1 + 5 by omega, show a1 + 4 + 2 = a1 + 6 by omega, show a1 + 4 + 3 = a1 + 7 by omega] at h
    have h6 := t6 law (by omega) (by omega)
    rw [h6.1, h6.2]
    refine ⟨h.1, fun hz => ⟨(h.2 hz).1, (h.2 hz).2.1, fun k hk => ?_⟩⟩
    have hb := (hT.2.2.2 law hl hz).1
    have hk2 : (k : Int) < al (7 + law) := by unfold lwN at hk; omega
    rw [t5 _ (by omega) (by omega)]
    exact (h.2 hz).2.2 k hk
  refine ⟨v', hE, hO, ⟨t0.trans hR.1, t1.trans hR.2.1, t2.trans hR.2.2.1, fun p p0 p1 => ?_, hL 0 (Or.inl rfl) hR.2.2.2.2.1, hL 1 (Or.inr rfl) hR.2.2.2.2.2⟩, t7, t8⟩
  have h3 := t3 p p0 p1
  have hr := hR.2.2.2.1 p p0 p1
  exact ⟨h3.1.trans hr.1, h3.2.1.trans hr.2.1, h3.2.2.trans hr.2.2⟩
/-- an image -/
def imgA (al : Int → Int) (i k : Int) : Int := if 0 ≤ k ∧ k < 1754 then al (1754 * (i + 1) + k) else if k < 0 then al k else 0
theorem imgA_kK {al al' : Int → Int} {i : Int} (hi : 0 ≤ i) (h : ∀ k : Int, (k < 0 ∨ 1754 ≤ k) → al' k = al k) : imgA al' i = imgA al i := by
  funext k
  unfold imgA
  by_cases e : 0 ≤ k ∧ k < 1754
  · rw [if_pos e, if_pos e, h _ (by omega)]
  · rw [if_neg e, if_neg e]
    by_cases e2 : k < 0
    · rw [if_pos e2, if_pos e2, h k (by omega)]
    · rw [if_neg e2, if_neg e2]
theorem St_cgb {al al' : Int → Int} (h : ∀ k : Int, (k < 102 ∨ (854 ≤ k ∧ k < 1754)) → al' k = al k) (hS : St al) : St al' := by
  have h0 := hS.2.2.1
  have h2 := hS.1.2.1
  refine ⟨okT_cg (fun k hk => h k (by omega)) hS.1, okN_cg hS.2.1 (h 1 (by omega)) (fun p p0 p1 => by rw [h (30 + p) (by omega), h (36 + p) (by omega)]; exact hS.2.1.1 p p0 p1) (fun i i0 i1 => by rw [h (42 + i) (by omega)]; exact hS.2.1.2 i i0 i1), by rw [h 28 (by omega)]; exact h0, by rw [h 29 (by omega)]; exact hS.2.2.2.1, by rw [h 27 (by omega)]; exact hS.2.2.2.2.1, fun l l0 l1 => ?_, fun l l0 l1 => ?_⟩
  · rw [isG_e (h 29 (by omega)) l]
    exact hS.2.2.2.2.2.1 l (by rw [h 28 (by omega)] at l0; exact l0) l1
  · rw [h 28 (by omega)] at l1
    have hll := hS.2.2.2.2.2.2 l l0 l1
    rw [h (84 + l) (by omega), h (78 + l) (by omega), h (90 + l) (by omega), h (96 + l) (by omega), isG_e (h 29 (by omega)) l, h 2 (by omega), h 1 (by omega), h 27 (by omega), h (30 + al (84 + l)) (by omega)]
    exact hll
/-- restored -/
def rsR (al : Int → Int) (i : Int) (al' : Int → Int) : Prop := (∀ k : Int, k < 1754 → k ≠ 102 → al' k = imgA al i k) ∧ al' 102 = 0 ∧ ∀ k : Int, 1754 ≤ k → al' k = al k
theorem rsR_uq {al a1 a2 : Int → Int} {i : Int} (h1 : rsR al i a1) (h2 : rsR al i a2) : a2 = a1 := by
  funext k
  by_cases e : k = 102
  · rw [e, h1.2.1, h2.2.1]
  · by_cases e2 : k < 1754
    · rw [h1.1 k e2 e, h2.1 k e2 e]
    · rw [h1.2.2 k (by omega), h2.2.2 k (by omega)]
/-- imaged -/
def igR (al : Int → Int) (i : Int) (al' : Int → Int) : Prop := (∀ k : Int, 0 ≤ k → k < 1754 → al' (1754 * (i + 1) + k) = al k) ∧ ∀ k : Int, ¬ (1754 * (i + 1) ≤ k ∧ k < 1754 * (i + 1) + 1754) → al' k = al k
theorem igR_uq {al a1 a2 : Int → Int} {i : Int} (h1 : igR al i a1) (h2 : igR al i a2) : a2 = a1 := by
  funext k
  by_cases e : 1754 * (i + 1) ≤ k ∧ k < 1754 * (i + 1) + 1754
  · have q1 := h1.1 (k - 1754 * (i + 1)) (by omega) (by omega)
    have q2 := h2.1 (k - 1754 * (i + 1)) (by omega) (by omega)
    rw [show 1754 * (i + 1) + (k - 1754 * (i + 1)) = k by omega] at q1 q2
    rw [q1, q2]
  · rw [h1.2 k e, h2.2 k e]
theorem im_loop {i : Int} {Q : sQ} (v0 : sF) (hi : 0 ≤ i ∧ i ≤ 1) (hQ : ∀ v, Off [164] v0 v → igR (v0 164) i (v 164) → Q (some (0, 0)) (c, up v 165 i 1)) : ∀ (m : Nat) (x : Int) (v : sF), 0 ≤ x → x + m = 1754 → Off [164] v0 v → (∀ k : Int, 0 ≤ k → k < x → v 164 (1754 * (i + 1) + k) = v0 164 k) → (∀ k : Int, ¬ (1754 * (i + 1) ≤ k ∧ k < 1754 * (i + 1) + x) → v 164 k = v0 164 k) → Wp (Ev d) 0 (fun _ => 0) 293 Q 20 [(2, 163), (0, i), (0, x)] [] c v := by
  intro m
  induction m with
  | zero =>
    intro x v x0 hx ho h1 h2
    refine E293_20 _ _ (brbI (fun _ => chkI (inbI (by omega) (by omega)) (hQ v ho ⟨fun k k0 k1 => h1 k k0 (by omega), fun k hk => h2 k (by omega)⟩)) (fun z => absurd z (by omega)))
  | succ m ih =>
    intro x v x0 hx ho h1 h2
    refine E293_20 _ _ (brbI (fun z => absurd z (by omega)) (fun _ => rngI (by omega) (rngI (by omega) (rngI (by omega) (chkI (inbI (by omega) (by omega)) (chkI (inbI (by omega) (by omega)) (rngI (by omega) (ih (x + 1) _ (by omega) (by omega) (ho.up (by decide)) (fun k k0 k1 => ?_) (fun k hk => ?_)))))))))
    · by_cases e : k = x
      · rw [e, up_same, h2 x (by omega)]
      · rw [up_ne _ (by omega)]; exact h1 k k0 (by omega)
    · rw [up_ne _ (by omega)]; exact h2 k (by omega)
theorem M_image {v : sF} {i : Int} : ∃ v', Ev (d + 2) 293 [(2, 163), (0, i)] (c, v) (some (0, if 0 ≤ i ∧ i ≤ 1 then 0 else -2)) (c, v') ∧ Off [163, 164, 165] v v' ∧ (∀ j : Int, j ≠ 0 → v' 163 j = v 163 j) ∧ ((¬ (0 ≤ i ∧ i ≤ 1) ∧ v' 164 = v 164 ∧ v' 165 = v 165) ∨ ((0 ≤ i ∧ i ≤ 1) ∧ igR (v 164) i (v' 164) ∧ v' 165 = ua (v 165) i 1)) := by
  have hO0 : Off [163, 164, 165] v (up v 163 0 0) := (Off.rf _ v).up (by decide)
  have e164 : up v 163 0 0 164 = v 164 := up_off 164 (by decide)
  refine CI_of (loc293 i) (E293_0 i ⟨_, c, _, C_within (d := d) _ _ _, bfi (fun z => ?_) (fun z => ?_)⟩)
  · rw [if_pos z]
    refine im_loop (up v 163 0 0) z (fun v1 ho hg => ⟨rfl, _, rfl, (hO0.tr (ho.wk (by decide))).up (by decide), fun j hj => ?_, Or.inr ⟨z, ?_, ?_⟩⟩) 1754 0 _ (by omega) (by omega) (Off.rf _ _) (fun k k0 k1 => by omega) (fun _ _ => rfl)
    · rw [up_ne2 _ (by decide), ho 163 (by decide), up_ne _ hj]
    · rw [up_off 164 (by decide), ← e164]; exact hg
    · rw [up_ua, ho 165 (by decide), up_off 165 (by decide)]
  · rw [if_neg z]
    exact ⟨rfl, _, rfl, hO0, fun j hj => up_ne _ hj, Or.inl ⟨z, e164, up_off 165 (by decide)⟩⟩
theorem rs_loop {i : Int} {Q : sQ} (v0 : sF) (hi : 0 ≤ i ∧ i ≤ 1) (hQ : ∀ v, Off [164] v0 v → (∀ k : Int, 0 ≤ k → k < 1754 → v 164 k = v0 164 (1754 * (i + 1) + k)) → (∀ k : Int, ¬ (0 ≤ k ∧ k < 1754) → v 164 k = v0 164 k) → Q (some (0, 0)) (c, up v 164 102 0)) : ∀ (m : Nat) (x : Int) (v : sF), 0 ≤ x → x + m = 1754 → Off [164] v0 v → (∀ k : Int, 0 ≤ k → k < x → v 164 k = v0 164 (1754 * (i + 1) + k)) → (∀ k : Int, ¬ (0 ≤ k ∧ k < x) → v 164 k = v0 164 k) → Wp (Ev d) 0 (fun _ => 0) 294 Q 32 [(2, 163), (0, i), (0, x)] [] c v := by
  intro m
  induction m with
  | zero =>
    intro x v x0 hx ho h1 h2
    exact E294_32 _ _ (brbI (fun _ => hQ v ho (fun k k0 k1 => h1 k k0 (by omega)) (fun k hk => h2 k (by omega))) (fun z => absurd z (by omega)))
  | succ m ih =>
    intro x v x0 hx ho h1 h2
    refine E294_32 _ _ (brbI (fun z => absurd z (by omega)) (fun _ => rngI (by omega) (rngI (by omega) (rngI (by omega) (chkI (inbI (by omega) (by omega)) (chkI (inbI (by omega) (by omega)) (rngI (by omega) (ih (x + 1) _ (by omega) (by omega) (ho.up (by decide)) (fun k k0 k1 => ?_) (fun k hk => ?_)))))))))
    · by_cases e : k = x
      · rw [e, up_same, h2 _ (by omega)]
      · rw [up_ne _ (by omega)]; exact h1 k k0 (by omega)
    · rw [up_ne _ (by omega)]; exact h2 k (by omega)
def rsA (h i : Int) : Int := if 0 ≤ i ∧ i ≤ 1 then (if h = 0 then -5 else 0) else -2
theorem M_restore {v : sF} {i : Int} : ∃ v', Ev (d + 2) 294 [(2, 163), (0, i)] (c, v) (some (0, rsA (v 165 i) i)) (c, v') ∧ Off [163, 164] v v' ∧ (∀ j : Int, j ≠ 0 → v' 163 j = v 163 j) ∧ ((rsA (v 165 i) i ≠ 0 ∧ v' 164 = v 164) ∨ ((0 ≤ i ∧ i ≤ 1) ∧ v 165 i ≠ 0 ∧ rsR (v 164) i (v' 164))) := by
  have hO0 : Off [163, 164] v (up v 163 0 0) := (Off.rf _ v).up (by decide)
  have e164 : up v 163 0 0 164 = v 164 := up_off 164 (by decide)
  refine CI_of (loc294 i) (E294_0 i ⟨_, c, _, C_within (d := d) _ _ _, bfi (fun z => ?_) (fun z => ?_)⟩)
  · rw [up_off 165 (by decide)]
    refine chkI (inbI (by omega) (by omega)) (brbN (fun h => ?_) (fun h => ?_))
    · have e : rsA (v 165 i) i = 0 := by unfold rsA; rw [if_pos z, if_neg h]
      rw [e]
      refine rs_loop (up v 163 0 0) z (fun v1 ho h1 h2 => ⟨rfl, _, rfl, (hO0.tr (ho.wk (by decide))).up (by decide), fun j hj => ?_, Or.inr ⟨z, h, fun k k1 hk => ?_, ?_, fun k k1 => ?_⟩⟩) 1754 0 _ (by omega) (by omega) (Off.rf _ _) (fun k k0 k1 => by omega) (fun _ _ => rfl)
      · rw [up_ne2 _ (by decide), ho 163 (by decide), up_ne _ hj]
      · rw [up_ne _ hk]
        unfold imgA
        by_cases e1 : 0 ≤ k
        · rw [if_pos ⟨e1, k1⟩, h1 k e1 k1, e164]
        · rw [if_neg (by omega), if_pos (by omega), h2 k (by omega), e164]
      · rw [up_same]
      · rw [up_ne _ (by omega), h2 k (by omega), e164]
    · have e : rsA (v 165 i) i = -5 := by unfold rsA; rw [if_pos z, if_pos h]
      rw [e]
      exact ⟨rfl, _, rfl, hO0, fun j hj => up_ne _ hj, Or.inl ⟨by decide, e164⟩⟩
  · have e : rsA (v 165 i) i = -2 := by unfold rsA; rw [if_neg z]
    rw [e]
    exact ⟨rfl, _, rfl, hO0, fun j hj => up_ne _ hj, Or.inl ⟨by decide, e164⟩⟩
end Img
