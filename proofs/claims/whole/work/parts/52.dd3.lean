section Dd3
variable {d c : Nat}
/-- the cells of a Now -/
def nOf (a : Int) : List Int := [a, a + 1, a + 2, a + 3, a + 4, a + 5, a + 6, a + 7]
theorem nOf_mem {a b : Int} : b ∈ nOf a ↔ (a ≤ b ∧ b ≤ a + 7) := by unfold nOf; simp only [List.mem_cons, List.not_mem_nil, or_false]; omega
theorem cpk {s d : Int} (hs : tyT s = 1) (hd : tyT d = 1) (hne : s ≠ d) : ((tyT s == 1 && tyT d == 1 || tyT s == 2 && tyT d == 2) && true && !decide (s = d)) = true := by simp [hs, hd, hne]
theorem cpl {s d n : Int} (h1 : n ≤ lnT s) (h2 : n ≤ lnT d) : (decide (0 + n ≤ lnT s) && decide (0 + n ≤ lnT d)) = true := by simp [h1, h2]
theorem C_copyN {v : sF} {a0 a1 : Int} (h0 : NT a0) (h1 : NT a1) (hd : a1 + 7 < a0 ∨ a0 + 7 < a1) : ∃ v', Ev (d + 1) 33 [(2, a0), (2, a1)] (c, v) none (c, v') ∧ Off (nOf a0) v v' ∧ v' a0 3 = v a1 3 ∧ v' a0 4 = v a1 4 ∧ (∀ j : Int, 0 ≤ j → j < 6 → v' (a0 + 1) j = v (a1 + 1) j ∧ v' (a0 + 2) j = v (a1 + 2) j ∧ v' (a0 + 4) j = v (a1 + 4) j ∧ v' (a0 + 5) j = v (a1 + 5) j ∧ v' (a0 + 6) j = v (a1 + 6) j ∧ v' (a0 + 7) j = v (a1 + 7) j) ∧ ∀ j : Int, 0 ≤ j → j < 36 → v' (a0 + 3) j = v (a1 + 3) j := by
  have n0 := h0.2
  have n1 := h1.2
  refine CV_of (loc33 a0 a1) (E33_0 a0 a1 ?_)
  refine cktI (beqI h1.1) (cktI (beqI h0.1) (cktI (beqI h1.1) (cktI (beqI h0.1) (cktI (beqI h1.1) (cktI (beqI h0.1) (cktI (cpk n1.1.1 n0.1.1 (by omega)) (chkI (cpl (by rw [n1.1.2]; decide) (by rw [n0.1.2]; decide)) ?_)))))))
  refine cktI (beqI h1.1) (cktI (beqI h0.1) (cktI (cpk n1.2.1.1 n0.2.1.1 (by omega)) (chkI (cpl (by rw [n1.2.1.2]; decide) (by rw [n0.2.1.2]; decide)) ?_)))
  refine cktI (beqI h1.1) (cktI (beqI h0.1) (cktI (cpk n1.2.2.1.1 n0.2.2.1.1 (by omega)) (chkI (cpl (by rw [n1.2.2.1.2]; decide) (by rw [n0.2.2.1.2]; decide)) ?_)))
  refine cktI (beqI h1.1) (cktI (beqI h0.1) (cktI (cpk n1.2.2.2.1.1 n0.2.2.2.1.1 (by omega)) (chkI (cpl (by rw [n1.2.2.2.1.2]; decide) (by rw [n0.2.2.2.1.2]; decide)) ?_)))
  refine cktI (beqI h1.1) (cktI (beqI h0.1) (cktI (cpk n1.2.2.2.2.1.1 n0.2.2.2.2.1.1 (by omega)) (chkI (cpl (by rw [n1.2.2.2.2.1.2]; decide) (by rw [n0.2.2.2.2.1.2]; decide)) ?_)))
  refine cktI (beqI h1.1) (cktI (beqI h0.1) (cktI (cpk n1.2.2.2.2.2.1.1 n0.2.2.2.2.2.1.1 (by omega)) (chkI (cpl (by rw [n1.2.2.2.2.2.1.2]; decide) (by rw [n0.2.2.2.2.2.1.2]; decide)) ?_)))
  refine cktI (beqI h1.1) (cktI (beqI h0.1) (cktI (cpk n1.2.2.2.2.2.2.1 n0.2.2.2.2.2.2.1 (by omega)) (chkI (cpl (by rw [n1.2.2.2.2.2.2.2]; decide) (by rw [n0.2.2.2.2.2.2.2]; decide)) ?_)))
  refine ⟨rfl, _, rfl, fun b hb => ?_, ?_, ?_, fun j j0 j1 => ⟨?_, ?_, ?_, ?_, ?_, ?_⟩, fun j j0 j1 => ?_⟩
  · rw [nOf_mem] at hb
    rw [cpy_of _ (by omega), cpy_of _ (by omega), cpy_of _ (by omega), cpy_of _ (by omega), cpy_of _ (by omega), cpy_of _ (by omega), cpy_of _ (by omega), up_off b (by omega), up_off b (by omega)]
  · rw [cpy_of _ (by omega), cpy_of _ (by omega), cpy_of _ (by omega), cpy_of _ (by omega), cpy_of _ (by omega), cpy_of _ (by omega), cpy_of _ (by omega), up_ne _ (by decide), up_same]
  · rw [cpy_of _ (by omega), cpy_of _ (by omega), cpy_of _ (by omega), cpy_of _ (by omega), cpy_of _ (by omega), cpy_of _ (by omega), cpy_of _ (by omega), up_same, up_ne2 _ (by omega)]
  · rw [cpy_of _ (by omega), cpy_of _ (by omega), cpy_of _ (by omega), cpy_of _ (by omega), cpy_of _ (by omega), cpy_of _ (by omega), cpy_in _ (by omega), up_off _ (by omega), up_off _ (by omega)]
    congr 1; omega
  · rw [cpy_of _ (by omega), cpy_of _ (by omega), cpy_of _ (by omega), cpy_of _ (by omega), cpy_of _ (by omega), cpy_in _ (by omega), cpy_of _ (by omega), up_off _ (by omega), up_off _ (by omega)]
    congr 1; omega
  · rw [cpy_of _ (by omega), cpy_of _ (by omega), cpy_of _ (by omega), cpy_in _ (by omega), cpy_of _ (by omega), cpy_of _ (by omega), cpy_of _ (by omega), up_off _ (by omega), up_off _ (by omega)]
    congr 1; omega
  · rw [cpy_of _ (by omega), cpy_of _ (by omega), cpy_in _ (by omega), cpy_of _ (by omega), cpy_of _ (by omega), cpy_of _ (by omega), cpy_of _ (by omega), up_off _ (by omega), up_off _ (by omega)]
    congr 1; omega
  · rw [cpy_of _ (by omega), cpy_in _ (by omega), cpy_of _ (by omega), cpy_of _ (by omega), cpy_of _ (by omega), cpy_of _ (by omega), cpy_of _ (by omega), up_off _ (by omega), up_off _ (by omega)]
    congr 1; omega
  · rw [cpy_in _ (by omega), cpy_of _ (by omega), cpy_of _ (by omega), cpy_of _ (by omega), cpy_of _ (by omega), cpy_of _ (by omega), cpy_of _ (by omega), up_off _ (by omega), up_off _ (by omega)]
    congr 1; omega
  · rw [cpy_of _ (by omega), cpy_of _ (by omega), cpy_of _ (by omega), cpy_of _ (by omega), cpy_in _ (by omega), cpy_of _ (by omega), cpy_of _ (by omega), up_off _ (by omega), up_off _ (by omega)]
    congr 1; omega
theorem NowR_copy {v v' : sF} {a0 a1 : Int} {al : Int → Int} (hL : al 28 ≤ 6) (h : NowR v a1 al) (h3 : v' a0 3 = v a1 3) (h4 : v' a0 4 = v a1 4) (h5 : ∀ j : Int, 0 ≤ j → j < 6 → v' (a0 + 1) j = v (a1 + 1) j ∧ v' (a0 + 2) j = v (a1 + 2) j ∧ v' (a0 + 4) j = v (a1 + 4) j ∧ v' (a0 + 5) j = v (a1 + 5) j ∧ v' (a0 + 6) j = v (a1 + 6) j ∧ v' (a0 + 7) j = v (a1 + 7) j) (h6 : ∀ j : Int, 0 ≤ j → j < 36 → v' (a0 + 3) j = v (a1 + 3) j) : NowR v' a0 al := by
  refine ⟨h3.trans h.1, h4.trans h.2.1, fun p p0 p1 => ?_, fun i i0 i1 => (h6 i i0 i1).trans (h.2.2.2.1 i i0 i1), fun l l0 l1 => ?_⟩
  · have hh := h5 p p0 p1
    have hr := h.2.2.1 p p0 p1
    exact ⟨hh.1.trans hr.1, hh.2.1.trans hr.2⟩
  · have hh := h5 l l0 (by omega)
    have hr := h.2.2.2.2 l l0 l1
    exact ⟨hh.2.2.1.trans hr.1, hh.2.2.2.1.trans hr.2.1, hh.2.2.2.2.1.trans hr.2.2.1, hh.2.2.2.2.2.trans hr.2.2.2⟩
theorem C_copy {v : sF} {a0 a1 : Int} {al : Int → Int} (h0 : NT a0) (h1 : NT a1) (hd : a1 + 7 < a0 ∨ a0 + 7 < a1) (hL : al 28 ≤ 6) (hR : NowR v a1 al) : ∃ v', Ev (d + 1) 33 [(2, a0), (2, a1)] (c, v) none (c, v') ∧ Off (nOf a0) v v' ∧ NowR v' a0 al := by
  obtain ⟨v', hE, hO, h3, h4, h5, h6⟩ := C_copyN (d := d) (c := c) (v := v) h0 h1 hd
  exact ⟨v', hE, hO, NowR_copy hL hR h3 h4 h5 h6⟩
/-- posting in the class -/
theorem C_sendOut {v : sF} {a p x : Int} {al : Int → Int} (ha : aN a) (hS : St al) (hR : CR v a al) (hp : 0 ≤ p ∧ p < al 2) : ∃ r v', Ev (d + 1) 7 [(2, 144), (2, a), (0, p), (0, x)] (c, v) (some (0, r)) (c, v') ∧ Off (nOf a) v v' ∧ ((¬ (0 ≤ x ∧ x < al 1) ∧ r = -11 ∧ v' = v) ∨ ((0 ≤ x ∧ x < al 1) ∧ al 28 = 6 ∧ r = -12 ∧ v' = v) ∨ ((0 ≤ x ∧ x < al 1) ∧ al 28 < 6 ∧ r = al 28 ∧ ∀ al', PoR al p x al' → NowR v' a al')) := by
  have hn := ha.nt
  have h0 := hS.2.2.1
  have h2 := hS.1.2.1
  have n0 := hn.2
  have e4 : v a 4 = al 28 := hR.2.2.1
  have e3 : v a 3 = al 27 := hR.2.1
  have e1 : v (a + 1) p = al (30 + p) := (hR.2.2.2.1 p hp.1 (by omega)).1
  refine CB_of (loc7 a p x) (E7_0 a p x ?_)
  rw [hR.p.1]
  refine brbI (fun z => ⟨-11, v, rfl, rfl, Off.rf _ v, Or.inl ⟨by omega, rfl, rfl⟩⟩) (fun z => brbI (fun z2 => cktI (beqI hn.1) ?_) (fun z2 => ⟨-11, v, rfl, rfl, Off.rf _ v, Or.inl ⟨by omega, rfl, rfl⟩⟩))
  rw [e4]
  refine brbI (fun z3 => ?_) (fun z3 => ⟨-12, v, rfl, rfl, Off.rf _ v, Or.inr (Or.inl ⟨by omega, by omega, rfl, rfl⟩)⟩)
  rw [n0.1.2, n0.2.2.2.1.2, n0.2.2.2.2.1.2, n0.2.2.2.2.2.1.2, n0.2.2.2.2.2.2.2]
  have r3 : (up (up v (a + 4) (al 28) p) (a + 5) (al 28) x) a 3 = al 27 := by rw [up_ne2 _ (by omega), up_ne2 _ (by omega)]; exact e3
  have r3' : (up (up (up v (a + 4) (al 28) p) (a + 5) (al 28) x) (a + 6) (al 28) (al 27)) a 3 = al 27 := by rw [up_ne2 _ (by omega)]; exact r3
  have r1 : (up (up (up v (a + 4) (al 28) p) (a + 5) (al 28) x) (a + 6) (al 28) (al 27)) (a + 1) p = al (30 + p) := by rw [up_ne2 _ (by omega), up_ne2 _ (by omega), up_ne2 _ (by omega)]; exact e1
  rw [r3, r3', r1]
  have hpost : ∀ g, (∀ al', PoR al p x al' → g = if isG al' (al 28) = true then al' (96 + al 28) else -1) → Off (nOf a) v (up (up (up (up (up v (a + 4) (al 28) p) (a + 5) (al 28) x) (a + 6) (al 28) (al 27)) (a + 7) (al 28) g) a 4 (al 28 + 1)) ∧ ∀ al', PoR al p x al' → NowR (up (up (up (up (up v (a + 4) (al 28) p) (a + 5) (al 28) x) (a + 6) (al 28) (al 27)) (a + 7) (al 28) g) a 4 (al 28 + 1)) a al' := fun g hg => by
    refine ⟨(((((Off.rf _ v).up (nOf_mem.2 (by omega))).up (nOf_mem.2 (by omega))).up (nOf_mem.2 (by omega))).up (nOf_mem.2 (by omega))).up (nOf_mem.2 (by omega)), fun al' hP => ?_⟩
    have hg := hg al' hP
    refine ⟨?_, ?_, fun q q0 q1 => ⟨?_, ?_⟩, fun i i0 i1 => ?_, fun l l0 l1 => ?_⟩
    · rw [up_ne _ (by decide), up_ne2 _ (by omega), r3', hP.1 27 (by omega)]
    · rw [up_same, hP.2.1]
    · rw [up_ne2 _ (by omega), up_ne2 _ (by omega), up_ne2 _ (by omega), up_ne2 _ (by omega), up_ne2 _ (by omega), (hR.2.2.2.1 q q0 q1).1, hP.1 (30 + q) (by omega)]
    · rw [up_ne2 _ (by omega), up_ne2 _ (by omega), up_ne2 _ (by omega), up_ne2 _ (by omega), up_ne2 _ (by omega), (hR.2.2.2.1 q q0 q1).2, hP.1 (36 + q) (by omega)]
    · rw [up_ne2 _ (by omega), up_ne2 _ (by omega), up_ne2 _ (by omega), up_ne2 _ (by omega), up_ne2 _ (by omega), hR.2.2.2.2.1 i i0 i1, hP.1 (42 + i) (by omega)]
    · rw [hP.2.1] at l1
      rw [up_ne2 _ (by omega), up_ne2 _ (by omega), up_ne2 _ (by omega), up_ne2 _ (by omega), up_ne2 _ (show a + 5 ≠ a by omega), up_ne2 _ (show a + 5 ≠ a + 7 by omega), up_ne2 _ (show a + 5 ≠ a + 6 by omega), up_ne2 _ (show a + 6 ≠ a by omega), up_ne2 _ (show a + 6 ≠ a + 7 by omega), up_ne2 _ (show a + 7 ≠ a by omega)]
      by_cases e : l = al 28
      · rw [e, up_same, up_same, up_same, up_same]
        exact ⟨hP.2.2.2.1.symm, hP.2.2.1.symm, hP.2.2.2.2.1.symm, hg⟩
      · have hr := hR.2.2.2.2.2 l l0 (by omega)
        rw [up_ne _ e, up_ne _ e, up_ne _ e, up_ne _ e, up_ne2 _ (by omega), up_ne2 _ (by omega), up_ne2 _ (by omega), up_ne2 _ (by omega), up_ne2 _ (by omega), up_ne2 _ (by omega), hr.1, hr.2.1, hr.2.2.1, hr.2.2.2, hP.1 (84 + l) (by omega), hP.1 (78 + l) (by omega), hP.1 (90 + l) (by omega), hP.1 (96 + l) (by omega), hP.2.2.2.2.2.2.1 l l0 (by omega) e]
        exact ⟨rfl, rfl, rfl, rfl⟩
  refine cktI (beqI hn.1) (cktI (beqI n0.2.2.2.1.1) (chkI (inbI (by omega) (by omega)) (cktI (beqI hn.1) (cktI (beqI n0.2.2.2.2.1.1) (chkI (inbI (by omega) (by omega)) (cktI (beqI hn.1) (cktI (beqI hn.1) (cktI (beqI n0.2.2.2.2.2.1.1) (chkI (inbI (by omega) (by omega)) (cktI (beqI hn.1) (cktI (beqI hn.1) (cktI (beqI n0.1.1) (chkI (inbI (by omega) (by omega)) ?_)))))))))))))
  refine brbN (fun q => cktI (beqI n0.2.2.2.2.2.2.1) (chkI (inbI (by omega) (by omega)) (rngI (by omega) (cktI (beqI hn.1) ?_)))) (fun q => cktI (beqI hn.1) (cktI (beqI n0.2.2.2.2.2.2.1) (chkI (inbI (by omega) (by omega)) (rngI (by omega) (cktI (beqI hn.1) ?_)))))
  · have h := hpost (-1) (fun al' hP => by rw [if_neg (fun z => q (hP.2.2.2.2.2.2.2.1.1 z))])
    exact ⟨al 28, _, rfl, rfl, h.1, Or.inr (Or.inr ⟨by omega, z3, rfl, h.2⟩)⟩
  · have h := hpost (al 27) (fun al' hP => by rw [if_pos (hP.2.2.2.2.2.2.2.1.2 q), hP.2.2.2.2.2.2.2.2 (hP.2.2.2.2.2.2.2.1.2 q)])
    exact ⟨al 28, _, rfl, rfl, h.1, Or.inr (Or.inr ⟨by omega, z3, rfl, h.2⟩)⟩
/-- moving in the class -/
theorem sh_loop {a p x : Int} {al al' : Int → Int} {n : Int} {Q : sQ} (v0 : sF) (ha : aN a) (hL : okLt al) (hr3 : v0 a 3 = al 27) (hr4 : v0 a 4 = al 28) (hrl : ∀ l : Int, 0 ≤ l → l < al 28 → v0 (a + 4) l = al (84 + l) ∧ v0 (a + 5) l = al (78 + l)) (hM : MoR al p x al' n) (hQ : ∀ v', Off [a + 7] v0 v' → (∀ l : Int, 0 ≤ l → l < al 28 → v' (a + 7) l = if isG al' l = true then al' (96 + l) else -1) → Q (some (0, n)) (c, v')) : ∀ (m k : Nat) (v : sF), (k : Int) + m = al 28 → Off [a + 7] v0 v → (∀ l : Int, 0 ≤ l → l < k → v (a + 7) l = if isG al' l = true then al' (96 + l) else -1) → (∀ l : Int, (k : Int) ≤ l → l < al 28 → v (a + 7) l = if isG al l = true then al (96 + l) else -1) → Wp (Ev d) 0 (fun _ => 0) 8 Q 44 [(9, 0), (2, a), (0, p), (0, x), (0, cnt (fun l => !isG al l && (decide (al (84 + l) = p) && decide (al (78 + l) = x))) k), (0, (k : Int))] [] c v := by
  have hn := ha.nt
  have n0 := hn.2
  have h0 := hL.1
  intro m
  induction m with
  | zero =>
    intro k v hk ho h1 h2
    refine E8_44 _ _ _ _ _ (cktI (beqI hn.1) ?_)
    rw [ho a (by simp; omega), hr4]
    have hQ := hQ v ho (fun l l0 l1 => h1 l l0 (by omega))
    rw [hM.2.2.2.2.2, show (al 28).toNat = k by omega] at hQ
    exact brbI (fun _ => hQ) (fun z => absurd z (by omega))
  | succ m ih =>
    intro k v hk ho h1 h2
    have hr := hrl k (by omega) (by omega)
    have hll := hL.2.2.2.2 k (by omega) (by omega)
    have hm := hM.2.2.2.2.1 k (by omega) (by omega)
    have hg := h2 k (by omega) (by omega)
    have hcr := cnt_rng (fun l => !isG al l && (decide (al (84 + l) = p) && decide (al (78 + l) = x))) k
    have hskip : ¬ (isG al k = false ∧ al (84 + (k : Int)) = p ∧ al (78 + (k : Int)) = x) → Wp (Ev d) 0 (fun _ => 0) 8 Q 44 [(9, 0), (2, a), (0, p), (0, x), (0, cnt (fun l => !isG al l && (decide (al (84 + l) = p) && decide (al (78 + l) = x))) k), (0, (k : Int) + 1)] [] c v := fun hno => by
      have := ih (k + 1) v (by omega) ho (fun l l0 l1 => ?_) (fun l l0 l1 => h2 l (by omega) l1)
      · rw [cnt_s, if_neg (by simp; intro z1 z2 z3; exact hno ⟨z1, z2, z3⟩)] at this
        exact this
      · by_cases e : l = k
        · rw [e, hg]
          cases hgk : isG al k with
          | true => rw [if_pos rfl, if_pos (hm.1.2 (Or.inl hgk)), hm.2.1 hgk]
          | false =>
            rw [if_neg (by decide), if_neg (fun z => by
              rcases hm.1.1 z with z | z
              · rw [hgk] at z; cases z
              · exact hno ⟨hgk, z⟩)]
        · exact h1 l l0 (by omega)
    refine E8_44 _ _ _ _ _ (cktI (beqI hn.1) ?_)
    rw [ho a (by simp; omega), ho (a + 4) (by simp), ho (a + 5) (by simp), hr4, hr3, hr.1, hr.2, hg, n0.2.2.2.1.2, n0.2.2.2.2.1.2, n0.2.2.2.2.2.2.2]
    refine brbI (fun z => absurd z (by omega)) (fun _ => cktI (beqI hn.1) (cktI (beqI n0.2.2.2.1.1) (chkI (inbI (by omega) (by omega)) (brbN (fun z => rngI (by omega) (hskip (fun q => z q.2.1))) (fun z => cktI (beqI hn.1) (cktI (beqI n0.2.2.2.2.1.1) (chkI (inbI (by omega) (by omega)) (brbN (fun z2 => rngI (by omega) (hskip (fun q => z2 q.2.2))) (fun z2 => cktI (beqI hn.1) (cktI (beqI n0.2.2.2.2.2.2.1) (chkI (inbI (by omega) (by omega)) (brbN (fun z3 => rngI (by omega) (hskip (fun q => z3 (by rw [q.1]; rfl)))) (fun z3 => ?_)))))))))))))
    have hgf : isG al k = false := bf (fun q => by rw [if_pos q] at z3; have := hll.2.2.2.1 q; omega)
    refine cktI (beqI hn.1) (cktI (beqI hn.1) (cktI (beqI n0.2.2.2.2.2.2.1) (chkI (inbI (by omega) (by omega)) (rngI (by omega) (rngI (by omega) ?_)))))
    have := ih (k + 1) (up v (a + 7) k (al 27)) (by omega) (ho.up (by simp)) (fun l l0 l1 => ?_) (fun l l0 l1 => by rw [up_ne _ (by omega)]; exact h2 l (by omega) l1)
    · rw [cnt_s, if_pos (by simp [hgf, z, z2])] at this
      exact this
    · by_cases e : l = k
      · have hgt := hm.1.2 (Or.inr ⟨z, z2⟩)
        rw [e, up_same, if_pos hgt, hm.2.2 hgf hgt]
      · rw [up_ne _ e]; exact h1 l l0 (by omega)
theorem C_shift {v : sF} {a p x : Int} {al : Int → Int} (ha : aN a) (hS : St al) (hR : CR v a al) (hp : 0 ≤ p ∧ p < al 2) : (¬ (0 ≤ x ∧ x < al 1) → Ev (d + 1) 8 [(2, 144), (2, a), (0, p), (0, x)] (c, v) (some (0, -11)) (c, v)) ∧ ((0 ≤ x ∧ x < al 1) → al (30 + p) = x → Ev (d + 1) 8 [(2, 144), (2, a), (0, p), (0, x)] (c, v) (some (0, -12)) (c, v)) ∧ ((0 ≤ x ∧ x < al 1) → al (30 + p) ≠ x → ∀ al' n, MoR al p x al' n → ∃ v', Ev (d + 1) 8 [(2, 144), (2, a), (0, p), (0, x)] (c, v) (some (0, n)) (c, v') ∧ Off (nOf a) v v' ∧ NowR v' a al') := by
  have hn := ha.nt
  have n0 := hn.2
  have h0 := hS.2.2.1
  have h2 := hS.1.2.1
  have e1 : v (a + 1) p = al (30 + p) := (hR.2.2.2.1 p hp.1 (by omega)).1
  refine ⟨fun hx => ?_, fun hx he => ?_, fun hx he al' n hM => ?_⟩
  · refine Ev_of (loc8 a p x) (E8_0 a p x ?_)
    rw [hR.p.1]
    exact brbI (fun z => ⟨rfl, rfl⟩) (fun z => brbI (fun z2 => absurd ⟨by omega, z2⟩ hx) (fun z2 => ⟨rfl, rfl⟩))
  · refine Ev_of (loc8 a p x) (E8_0 a p x ?_)
    rw [hR.p.1, e1, n0.1.2]
    exact brbI (fun z => absurd z (by omega)) (fun z => brbI (fun z2 => cktI (beqI hn.1) (cktI (beqI n0.1.1) (chkI (inbI (by omega) (by omega)) (brbN (fun z3 => absurd he z3) (fun _ => ⟨rfl, rfl⟩))))) (fun z2 => absurd hx.2 z2))
  · refine CI_of (loc8 a p x) (E8_0 a p x ?_)
    rw [hR.p.1, e1, n0.1.2]
    refine brbI (fun z => absurd z (by omega)) (fun z => brbI (fun z2 => cktI (beqI hn.1) (cktI (beqI n0.1.1) (chkI (inbI (by omega) (by omega)) (brbN (fun _ => cktI (beqI hn.1) (cktI (beqI n0.1.1) (chkI (inbI (by omega) (by omega)) ?_))) (fun z3 => absurd z3 he))))) (fun z2 => absurd hx.2 z2))
    have hO1 : Off [a + 1] v (up v (a + 1) p x) := (Off.rf _ v).up (by simp)
    have hlr : ∀ l : Int, 0 ≤ l → l < al 28 → up v (a + 1) p x (a + 4) l = al (84 + l) ∧ up v (a + 1) p x (a + 5) l = al (78 + l) ∧ up v (a + 1) p x (a + 6) l = al (90 + l) ∧ up v (a + 1) p x (a + 7) l = if isG al l = true then al (96 + l) else -1 := fun l l0 l1 => by
      rw [up_ne2 _ (by omega), up_ne2 _ (by omega), up_ne2 _ (by omega), up_ne2 _ (by omega)]
      exact hR.2.2.2.2.2 l l0 l1
    have r3 : up v (a + 1) p x a 3 = al 27 := by rw [up_ne2 _ (by omega)]; exact hR.2.1
    have r4 : up v (a + 1) p x a 4 = al 28 := by rw [up_ne2 _ (by omega)]; exact hR.2.2.1
    refine sh_loop (d := d) (al := al) (al' := al') (n := n) (up v (a + 1) p x) ha hS.2.2 r3 r4 (fun l l0 l1 => ⟨(hlr l l0 l1).1, (hlr l l0 l1).2.1⟩) hM (fun v' ho h7 => ⟨rfl, _, rfl, ?_, ?_⟩) (al 28).toNat 0 _ (by omega) (Off.rf _ _) (fun l l0 l1 => absurd l0 (by omega)) (fun l l0 l1 => (hlr l (by omega) l1).2.2.2)
    · exact (hO1.wk (fun b hb => by simp at hb; rw [hb]; exact nOf_mem.2 (by omega))).tr (ho.wk (fun b hb => by simp at hb; rw [hb]; exact nOf_mem.2 (by omega)))
    · have e28 : al' 28 = al 28 := hM.1 28 (by omega)
      refine ⟨?_, ?_, fun q q0 q1 => ⟨?_, ?_⟩, fun i i0 i1 => ?_, fun l l0 l1 => ?_⟩
      · rw [ho a (by simp; omega), r3, hM.1 27 (by omega)]
      · rw [ho a (by simp; omega), r4, e28]
      · rw [ho (a + 1) (by simp)]
        by_cases e : q = p
        · rw [e, up_same, hM.2.1]
        · rw [up_ne _ e, (hR.2.2.2.1 q q0 q1).1, hM.1 (30 + q) (by omega)]
      · rw [ho (a + 2) (by simp), up_ne2 _ (by omega), (hR.2.2.2.1 q q0 q1).2, hM.1 (36 + q) (by omega)]
      · rw [ho (a + 3) (by simp), up_ne2 _ (by omega), hR.2.2.2.2.1 i i0 i1, hM.1 (42 + i) (by omega)]
      · rw [e28] at l1
        have hh := hlr l l0 l1
        rw [ho (a + 4) (by simp), ho (a + 5) (by simp), ho (a + 6) (by simp), hh.1, hh.2.1, hh.2.2.1, h7 l l0 l1, hM.1 (84 + l) (by omega), hM.1 (78 + l) (by omega), hM.1 (90 + l) (by omega)]
        exact ⟨rfl, rfl, rfl, rfl⟩
/-- arousing, a mood -/
theorem NowR_ca {v : sF} {a i x : Int} {al : Int → Int} (hi : 0 ≤ i ∧ i < 36) (hR : NowR v a al) : NowR (up v (a + 3) i x) a (ua al (42 + i) x) := by
  refine ⟨?_, ?_, fun q q0 q1 => ⟨?_, ?_⟩, fun j j0 j1 => ?_, fun l l0 l1 => ?_⟩
  · rw [up_ne2 _ (by omega), ua_n (by omega)]; exact hR.1
  · rw [up_ne2 _ (by omega), ua_n (by omega)]; exact hR.2.1
  · rw [up_ne2 _ (by omega), ua_n (by omega)]; exact (hR.2.2.1 q q0 q1).1
  · rw [up_ne2 _ (by omega), ua_n (by omega)]; exact (hR.2.2.1 q q0 q1).2
  · by_cases e : j = i
    · rw [e, up_same, ua_s]
    · rw [up_ne _ e, ua_n (by omega)]; exact hR.2.2.2.1 j j0 j1
  · have hl := hR.2.2.2.2 l l0 (by rw [ua_n (by omega)] at l1; exact l1)
    rw [up_ne2 _ (by omega), up_ne2 _ (by omega), up_ne2 _ (by omega), up_ne2 _ (by omega), isG_e (ua_n (by omega)) l]
    refine ⟨?_, ?_, ?_, ?_⟩
    · rw [ua_n (by omega)]; exact hl.1
    · rw [ua_n (by omega)]; exact hl.2.1
    · rw [ua_n (by omega)]; exact hl.2.2.1
    · rw [ua_n (by omega)]; exact hl.2.2.2
theorem NowR_mo {v : sF} {a p x : Int} {al : Int → Int} (hp : 0 ≤ p ∧ p < 6) (hR : NowR v a al) : NowR (up v (a + 2) p x) a (ua al (36 + p) x) := by
  refine ⟨?_, ?_, fun q q0 q1 => ⟨?_, ?_⟩, fun j j0 j1 => ?_, fun l l0 l1 => ?_⟩
  · rw [up_ne2 _ (by omega), ua_n (by omega)]; exact hR.1
  · rw [up_ne2 _ (by omega), ua_n (by omega)]; exact hR.2.1
  · rw [up_ne2 _ (by omega), ua_n (by omega)]; exact (hR.2.2.1 q q0 q1).1
  · by_cases e : q = p
    · rw [e, up_same, ua_s]
    · rw [up_ne _ e, ua_n (by omega)]; exact (hR.2.2.1 q q0 q1).2
  · rw [up_ne2 _ (by omega), ua_n (by omega)]; exact hR.2.2.2.1 j j0 j1
  · have hl := hR.2.2.2.2 l l0 (by rw [ua_n (by omega)] at l1; exact l1)
    rw [up_ne2 _ (by omega), up_ne2 _ (by omega), up_ne2 _ (by omega), up_ne2 _ (by omega), isG_e (ua_n (by omega)) l]
    refine ⟨?_, ?_, ?_, ?_⟩
    · rw [ua_n (by omega)]; exact hl.1
    · rw [ua_n (by omega)]; exact hl.2.1
    · rw [ua_n (by omega)]; exact hl.2.2.1
    · rw [ua_n (by omega)]; exact hl.2.2.2
theorem C_stir {v : sF} {a p q : Int} {al : Int → Int} (ha : aN a) (hS : St al) (hR : CR v a al) (hp : 0 ≤ p ∧ p < al 2) : ∃ r v', Ev (d + 1) 9 [(2, 144), (2, a), (0, p), (0, q)] (c, v) (some (0, r)) (c, v') ∧ Off (nOf a) v v' ∧ ((¬ ((0 ≤ q ∧ q < al 2) ∧ p ≠ q) ∧ r = -11 ∧ v' = v) ∨ (((0 ≤ q ∧ q < al 2) ∧ p ≠ q) ∧ al (42 + 6 * p + q) = 9 ∧ r = -12 ∧ v' = v) ∨ (((0 ≤ q ∧ q < al 2) ∧ p ≠ q) ∧ al (42 + 6 * p + q) ≠ 9 ∧ r = al (42 + 6 * p + q) + 1 ∧ NowR v' a (ua al (42 + 6 * p + q) (al (42 + 6 * p + q) + 1)))) := by
  have hn := ha.nt
  have n0 := hn.2
  have h2 := hS.1.2.1
  refine CB_of (loc9 a p q) (E9_0 a p q ?_)
  rw [hR.p.2]
  refine brbI (fun z => ⟨-11, v, rfl, rfl, Off.rf _ v, Or.inl ⟨by omega, rfl, rfl⟩⟩) (fun z => brbI (fun z2 => ⟨-11, v, rfl, rfl, Off.rf _ v, Or.inl ⟨by omega, rfl, rfl⟩⟩) (fun z2 => brbN (fun z3 => rngI (by omega) (rngI (by omega) (cktI (beqI hn.1) (cktI (beqI n0.2.2.1.1) ?_)))) (fun z3 => ⟨-11, v, rfl, rfl, Off.rf _ v, Or.inl ⟨by omega, rfl, rfl⟩⟩)))
  have hc := hS.2.1.2 (p * 6 + q) (by omega) (by omega)
  have e3 : v (a + 3) (p * 6 + q) = al (42 + (p * 6 + q)) := hR.2.2.2.2.1 _ (by omega) (by omega)
  have ei : 42 + (p * 6 + q) = 42 + 6 * p + q := by omega
  rw [n0.2.2.1.2, e3]
  have hR1 := NowR_ca (x := al (42 + (p * 6 + q)) + 1) (show 0 ≤ p * 6 + q ∧ p * 6 + q < 36 by omega) hR.2
  rw [ei] at hR1 hc ⊢
  refine chkI (inbI (by omega) (by omega)) (brbI (fun z4 => ?_) (fun z4 => ⟨-12, v, rfl, rfl, Off.rf _ v, Or.inr (Or.inl ⟨by omega, by omega, rfl, rfl⟩)⟩))
  refine cktI (beqI hn.1) (cktI (beqI n0.2.2.1.1) (chkI (inbI (by omega) (by omega)) (rngI (by omega) (cktI (beqI n0.2.2.1.1) (chkI (inbI (by omega) (by omega)) (cktI (beqI hn.1) (cktI (beqI n0.2.2.1.1) (chkI (inbI (by omega) (by omega)) ?_))))))))
  exact ⟨_, _, rfl, rfl, (Off.rf _ v).up (nOf_mem.2 (by omega)), Or.inr (Or.inr ⟨by omega, by omega, up_same _ _ _ _, hR1⟩)⟩
theorem C_turn {v : sF} {a p n : Int} {al : Int → Int} (ha : aN a) (hS : St al) (hR : CR v a al) (hp : 0 ≤ p ∧ p < al 2) : ∃ r v', Ev (d + 1) 10 [(2, 144), (2, a), (0, p), (0, n)] (c, v) (some (0, r)) (c, v') ∧ Off (nOf a) v v' ∧ ((¬ (0 ≤ n ∧ n ≤ 9) ∧ r = -11 ∧ v' = v) ∨ ((0 ≤ n ∧ n ≤ 9) ∧ r = al (36 + p) ∧ NowR v' a (ua al (36 + p) n))) := by
  have hn := ha.nt
  have n0 := hn.2
  have h2 := hS.1.2.1
  have e2 : v (a + 2) p = al (36 + p) := (hR.2.2.2.1 p hp.1 (by omega)).2
  refine CB_of (loc10 a p n) (E10_0 a p n ?_)
  rw [e2, n0.2.1.2]
  refine brbI (fun z => ⟨-11, v, rfl, rfl, Off.rf _ v, Or.inl ⟨by omega, rfl, rfl⟩⟩) (fun z => brbI (fun z2 => cktI (beqI hn.1) (cktI (beqI n0.2.1.1) (chkI (inbI (by omega) (by omega)) (cktI (beqI hn.1) (cktI (beqI n0.2.1.1) (chkI (inbI (by omega) (by omega)) ?_)))))) (fun z2 => ⟨-11, v, rfl, rfl, Off.rf _ v, Or.inl ⟨by omega, rfl, rfl⟩⟩))
  exact ⟨_, _, rfl, rfl, (Off.rf _ v).up (nOf_mem.2 (by omega)), Or.inr ⟨by omega, rfl, NowR_mo (by omega) hR.2⟩⟩
/-- a Now with any letters is the Now of some post -/
theorem tb_bts {P : Int → Bool} : ∀ {n : Nat}, n ≤ 6 → ∀ l : Int, 0 ≤ l → l < n → tb (bts P n) l = P l := by
  intro n
  induction n with
  | zero => intro _ l l0 l1; omega
  | succ n ih =>
    intro hn l l0 l1
    have hr := bts_rng P (n := n) (by omega)
    have hp : (2 : Int) ^ n ≤ 64 := by
      rcases (show n = 0 ∨ n = 1 ∨ n = 2 ∨ n = 3 ∨ n = 4 ∨ n = 5 by omega) with rfl | rfl | rfl | rfl | rfl | rfl <;> decide
    rw [bts_s]
    by_cases e : l = n
    · subst e
      by_cases hP : P (n : Int) = true
      · rw [if_pos hP, (tb_i (b := bts P n) (y := (n : Int)) (j := (n : Int)) (by omega) (by omega) (by omega)).1, hP]; simp
      · rw [if_neg hP]
        have hk : ∀ (n : Fin 6) (b : Fin 64), b.val < 2 ^ n.val → tb ((b.val : Nat) : Int) ((n.val : Nat) : Int) = false := by decide +kernel
        have hc : (2 : Int) ^ n = ((2 ^ n : Nat) : Int) := by rw [Int.natCast_pow]; rfl
        have := hk ⟨n, by omega⟩ ⟨(bts P n).toNat, by omega⟩ (by show (bts P n).toNat < 2 ^ n; omega)
        dsimp only at this
        rw [show (((bts P n).toNat : Nat) : Int) = bts P n by omega] at this
        rw [this, bf hP]
    · have ihl := ih (by omega) l l0 (by omega)
      split
      · rw [(tb_i (b := bts P n) (y := (n : Int)) (j := l) (by omega) (by omega) (by omega)).1, ihl]; simp [e]
      · exact ihl
def nbA (v : sF) (a : Int) (al : Int → Int) (k : Int) : Int := if k = 27 then v a 3 else if k = 28 then v a 4 else if k = 29 then bts (fun l => decide (v (a + 7) l ≠ -1)) 6 else if 78 ≤ k ∧ k < 84 then v (a + 5) (k - 78) else if 84 ≤ k ∧ k < 90 then v (a + 4) (k - 84) else if 90 ≤ k ∧ k < 96 then v (a + 6) (k - 90) else if 96 ≤ k ∧ k < 102 then v (a + 7) (k - 96) else al k
theorem NowR_ex {v : sF} {a : Int} {al : Int → Int} (h4 : 0 ≤ v a 4 ∧ v a 4 ≤ 6) (hp : ∀ p : Int, 0 ≤ p → p < 6 → v (a + 1) p = al (30 + p) ∧ v (a + 2) p = al (36 + p)) (hc : ∀ i : Int, 0 ≤ i → i < 36 → v (a + 3) i = al (42 + i)) : ∃ b, NowR v a b ∧ ∀ k : Int, (k < 27 ∨ (30 ≤ k ∧ k < 78) ∨ 102 ≤ k) → b k = al k := by
  have e27 : nbA v a al 27 = v a 3 := by unfold nbA; rw [if_pos rfl]
  have e28 : nbA v a al 28 = v a 4 := by unfold nbA; rw [if_neg (by decide), if_pos rfl]
  have e29 : nbA v a al 29 = bts (fun l => decide (v (a + 7) l ≠ -1)) 6 := by unfold nbA; rw [if_neg (by decide), if_neg (by decide), if_pos rfl]
  have es : ∀ k : Int, (k < 27 ∨ (30 ≤ k ∧ k < 78) ∨ 102 ≤ k) → nbA v a al k = al k := fun k hk => by
    unfold nbA
    rw [if_neg (by omega), if_neg (by omega), if_neg (by omega), if_neg (by omega), if_neg (by omega), if_neg (by omega), if_neg (by omega)]
  have e78 : ∀ l : Int, 0 ≤ l → l < 6 → nbA v a al (78 + l) = v (a + 5) l := fun l l0 l1 => by
    unfold nbA
    rw [if_neg (by omega), if_neg (by omega), if_neg (by omega), if_pos (by omega), show 78 + l - 78 = l by omega]
  have e84 : ∀ l : Int, 0 ≤ l → l < 6 → nbA v a al (84 + l) = v (a + 4) l := fun l l0 l1 => by
    unfold nbA
    rw [if_neg (by omega), if_neg (by omega), if_neg (by omega), if_neg (by omega), if_pos (by omega), show 84 + l - 84 = l by omega]
  have e90 : ∀ l : Int, 0 ≤ l → l < 6 → nbA v a al (90 + l) = v (a + 6) l := fun l l0 l1 => by
    unfold nbA
    rw [if_neg (by omega), if_neg (by omega), if_neg (by omega), if_neg (by omega), if_neg (by omega), if_pos (by omega), show 90 + l - 90 = l by omega]
  have e96 : ∀ l : Int, 0 ≤ l → l < 6 → nbA v a al (96 + l) = v (a + 7) l := fun l l0 l1 => by
    unfold nbA
    rw [if_neg (by omega), if_neg (by omega), if_neg (by omega), if_neg (by omega), if_neg (by omega), if_neg (by omega), if_pos (by omega), show 96 + l - 96 = l by omega]
  refine ⟨nbA v a al, ⟨e27.symm, e28.symm, fun p p0 p1 => ⟨?_, ?_⟩, fun i i0 i1 => ?_, fun l l0 l1 => ?_⟩, es⟩
  · rw [es _ (by omega)]; exact (hp p p0 p1).1
  · rw [es _ (by omega)]; exact (hp p p0 p1).2
  · rw [es _ (by omega)]; exact hc i i0 i1
  · rw [e28] at l1
    have hr := bts_rng (fun l => decide (v (a + 7) l ≠ -1)) (n := 6) (by omega)
    rw [e78 l l0 (by omega), e84 l l0 (by omega), e90 l l0 (by omega), e96 l l0 (by omega)]
    refine ⟨rfl, rfl, rfl, ?_⟩
    have hg : isG (nbA v a al) l = decide (v (a + 7) l ≠ -1) := by
      rw [isG_tb (by rw [e29]; exact hr) (by omega), e29, tb_bts (by decide) l l0 (by omega)]
    rw [hg]
    by_cases e : v (a + 7) l = -1
    · rw [if_neg (by simp [e]), e]
    · rw [if_pos (by simp [e])]
end Dd3
