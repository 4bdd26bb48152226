section Dd1
/-- a letter that comes now -/
def nwl (al : Int → Int) (l : Int) : Bool := !isG al l && decide (al (78 + l) = al (30 + al (84 + l)))
/-- what gives leaves, behind k letters -/
def gvR (al al' : Int → Int) (k n : Int) : Prop := (∀ j : Int, ¬ (j = 29 ∨ (96 ≤ j ∧ j < 102)) → al' j = al j) ∧ (0 ≤ al' 29 ∧ al' 29 < 64) ∧ (∀ l : Int, 0 ≤ l → l < 6 → (isG al' l = true ↔ (isG al l = true ∨ (l < k ∧ nwl al l = true))) ∧ ((l < k ∧ nwl al l = true) → al' (96 + l) = al 27) ∧ (¬ (l < k ∧ nwl al l = true) → al' (96 + l) = al (96 + l))) ∧ n = cnt (nwl al) k.toNat
theorem isG_e {al al' : Int → Int} (h : al' 29 = al 29) (l : Int) : isG al' l = isG al l := by unfold isG; rw [h]
theorem isG_or {al : Int → Int} {k l : Int} (h : 0 ≤ al 29 ∧ al 29 < 64) (hk : 0 ≤ k ∧ k < 6) (hl : 0 ≤ l ∧ l < 6) {al' : Int → Int} (e : al' 29 = ior (al 29) (ishl 1 k)) : isG al' l = (isG al l || decide (l = k)) ∧ (0 ≤ al' 29 ∧ al' 29 < 64) := by
  have ht := tb_i h hk hl
  have hr : 0 ≤ al' 29 ∧ al' 29 < 64 := by rw [e]; exact ht.2.1
  refine ⟨?_, hr⟩
  rw [isG_tb hr hl, isG_tb h hl, e]
  exact ht.1
theorem gvR_0 (al : Int → Int) (h : 0 ≤ al 29 ∧ al 29 < 64) : gvR al al 0 0 := by
  refine ⟨fun _ _ => rfl, h, fun l l0 l1 => ⟨⟨fun z => Or.inl z, fun z => ?_⟩, fun z => ?_, fun _ => rfl⟩, rfl⟩
  · rcases z with z | z
    · exact z
    · omega
  · omega
theorem gvR_n {al b : Int → Int} {k n : Int} (hk : 0 ≤ k ∧ k < 6) (h : gvR al b k n) (hn : ¬ nwl al k = true) : gvR al b (k + 1) n := by
  refine ⟨h.1, h.2.1, fun l l0 l1 => ?_, ?_⟩
  · have hl := h.2.2.1 l l0 l1
    have hi : (l < k + 1 ∧ nwl al l = true) ↔ (l < k ∧ nwl al l = true) := ⟨fun z => ⟨by
      by_cases e : l = k
      · rw [e] at z; exact absurd z.2 hn
      · omega, z.2⟩, fun z => ⟨by omega, z.2⟩⟩
    rw [hi]
    exact hl
  · rw [h.2.2.2, show (k + 1).toNat = k.toNat + 1 by omega, cnt_s, show ((k.toNat : Nat) : Int) = k by omega, if_neg hn]
theorem gvR_y {al b : Int → Int} {k n : Int} (hk : 0 ≤ k ∧ k < 6) (h : gvR al b k n) (hn : nwl al k = true) : gvR al (ua (ua b 29 (ior (b 29) (ishl 1 k))) (96 + k) (b 27)) (k + 1) (n + 1) := by
  have e29 : ua (ua b 29 (ior (b 29) (ishl 1 k))) (96 + k) (b 27) 29 = ior (b 29) (ishl 1 k) := by rw [ua_n (by omega), ua_s]
  have e27 : b 27 = al 27 := h.1 27 (by omega)
  refine ⟨fun j hj => ?_, (isG_or h.2.1 hk hk e29).2, fun l l0 l1 => ?_, ?_⟩
  · rw [ua_n (by omega), ua_n (by omega)]; exact h.1 j hj
  · have hl := h.2.2.1 l l0 l1
    have hg := (isG_or h.2.1 hk ⟨l0, l1⟩ e29).1
    rw [hg, Bool.or_eq_true, hl.1, decide_eq_true_iff]
    by_cases e : l = k
    · subst e
      refine ⟨⟨fun _ => Or.inr ⟨by omega, hn⟩, fun _ => Or.inr rfl⟩, fun _ => by rw [ua_s]; exact e27, fun z => absurd ⟨by omega, hn⟩ z⟩
    · have hi : (l < k + 1 ∧ nwl al l = true) ↔ (l < k ∧ nwl al l = true) := ⟨fun z => ⟨by omega, z.2⟩, fun z => ⟨by omega, z.2⟩⟩
      rw [hi, ua_n (by omega), ua_n (by omega)]
      refine ⟨⟨fun z => z.elim id (fun q => absurd q e), fun z => Or.inl z⟩, hl.2.1, hl.2.2⟩
  · rw [h.2.2.2, show (k + 1).toNat = k.toNat + 1 by omega, cnt_s, show ((k.toNat : Nat) : Int) = k by omega, if_pos hn]
/-- posted -/
def PoR (al : Int → Int) (p x : Int) (al' : Int → Int) : Prop := (∀ k : Int, ¬ (k = 28 ∨ k = 29 ∨ k = 78 + al 28 ∨ k = 84 + al 28 ∨ k = 90 + al 28 ∨ k = 96 + al 28) → al' k = al k) ∧ al' 28 = al 28 + 1 ∧ al' (78 + al 28) = x ∧ al' (84 + al 28) = p ∧ al' (90 + al 28) = al 27 ∧ (0 ≤ al' 29 ∧ al' 29 < 64) ∧ (∀ l : Int, 0 ≤ l → l < 6 → l ≠ al 28 → isG al' l = isG al l) ∧ (isG al' (al 28) = true ↔ al (30 + p) = x) ∧ (isG al' (al 28) = true → al' (96 + al 28) = al 27)
/-- moved -/
def MoR (al : Int → Int) (p x : Int) (al' : Int → Int) (n : Int) : Prop := (∀ k : Int, ¬ (k = 29 ∨ k = 30 + p ∨ (96 ≤ k ∧ k < 102)) → al' k = al k) ∧ al' (30 + p) = x ∧ (0 ≤ al' 29 ∧ al' 29 < 64) ∧ (∀ l : Int, al 28 ≤ l → l < 6 → isG al' l = false) ∧ (∀ l : Int, 0 ≤ l → l < al 28 → (isG al' l = true ↔ (isG al l = true ∨ (al (84 + l) = p ∧ al (78 + l) = x))) ∧ (isG al l = true → al' (96 + l) = al (96 + l)) ∧ (isG al l = false → isG al' l = true → al' (96 + l) = al 27)) ∧ n = cnt (fun l => !isG al l && (decide (al (84 + l) = p) && decide (al (78 + l) = x))) (al 28).toNat
theorem bf {b : Bool} (h : ¬ b = true) : b = false := by cases b; rfl; exact absurd rfl h
theorem cnt_congr {P P' : Int → Bool} : ∀ {n : Nat}, (∀ k : Nat, k < n → P k = P' k) → cnt P n = cnt P' n := by
  intro n
  induction n with
  | zero => intro _; rfl
  | succ n ih => intro h; rw [cnt_s, cnt_s, ih (fun k hk => h k (by omega)), h n (by omega)]
/-- posting, by gives -/
theorem PoR_of {al al2 : Int → Int} {p x n : Int} (hL : okLt al) (h28 : al 28 < 6) (hp : 0 ≤ p ∧ p < 6) (h2 : al 2 ≤ 6) (h : gvR (ua (ua (ua (ua al 28 (al 28 + 1)) (78 + al 28) x) (84 + al 28) p) (90 + al 28) (al 27)) al2 (al 28 + 1) n) : PoR al p x al2 := by
  have h0 := hL.1
  obtain ⟨b, hb⟩ : ∃ b, b = ua (ua (ua (ua al 28 (al 28 + 1)) (78 + al 28) x) (84 + al 28) p) (90 + al 28) (al 27) := ⟨_, rfl⟩
  rw [← hb] at h
  have e1 : ∀ k : Int, ¬ (k = 28 ∨ k = 78 + al 28 ∨ k = 84 + al 28 ∨ k = 90 + al 28) → b k = al k := fun k hk => by rw [hb, ua_n (by omega), ua_n (by omega), ua_n (by omega), ua_n (by omega)]
  have b28 : b 28 = al 28 + 1 := by rw [hb, ua_n (by omega), ua_n (by omega), ua_n (by omega), ua_s]
  have b78 : b (78 + al 28) = x := by rw [hb, ua_n (by omega), ua_n (by omega), ua_s]
  have b84 : b (84 + al 28) = p := by rw [hb, ua_n (by omega), ua_s]
  have b90 : b (90 + al 28) = al 27 := by rw [hb, ua_s]
  have bG : ∀ l, isG b l = isG al l := fun l => isG_e (e1 29 (by omega)) l
  have hnw : ∀ l : Int, 0 ≤ l → l < al 28 → ¬ nwl b l = true := fun l l0 l1 z => by
    unfold nwl at z
    have hll := hL.2.2.2.2 l l0 l1
    rw [bG, e1 (78 + l) (by omega), e1 (84 + l) (by omega), e1 (30 + al (84 + l)) (by omega)] at z
    simp at z
    exact hll.2.2.2.2 z.1 z.2
  have hnwL : nwl b (al 28) = true ↔ al (30 + p) = x := by
    unfold nwl
    rw [bG, hL.2.2.2.1 (al 28) (Int.le_refl _) h28, b78, b84, e1 (30 + p) (by omega)]
    simp
    exact ⟨fun z => z.symm, fun z => z.symm⟩
  have hgL := h.2.2.1 (al 28) h0.1 h28
  refine ⟨fun k hk => ?_, ?_, ?_, ?_, ?_, h.2.1, fun l l0 l1 hne => ?_, ?_, fun z => ?_⟩
  · by_cases e : 96 ≤ k ∧ k < 102
    · have hl := h.2.2.1 (k - 96) (by omega) (by omega)
      rw [show 96 + (k - 96) = k by omega] at hl
      rw [hl.2.2 (fun z => hnw (k - 96) (by omega) (by omega) z.2), e1 k (by omega)]
    · rw [h.1 k (by omega)]; exact e1 k (by omega)
  · rw [h.1 28 (by omega)]; exact b28
  · rw [h.1 (78 + al 28) (by omega)]; exact b78
  · rw [h.1 (84 + al 28) (by omega)]; exact b84
  · rw [h.1 (90 + al 28) (by omega)]; exact b90
  · have hl := h.2.2.1 l l0 l1
    rw [Bool.eq_iff_iff, hl.1, bG]
    exact ⟨fun z => z.elim id (fun q => absurd q.2 (hnw l l0 (by omega))), fun z => Or.inl z⟩
  · rw [hgL.1, bG, hL.2.2.2.1 (al 28) (Int.le_refl _) h28, ← hnwL]
    exact ⟨fun z => z.elim (fun q => by cases q) (fun q => q.2), fun z => Or.inr ⟨by omega, z⟩⟩
  · rw [hgL.1, bG, hL.2.2.2.1 (al 28) (Int.le_refl _) h28] at z
    rcases z with z | z
    · cases z
    · rw [hgL.2.1 z]; exact e1 27 (by omega)
/-- moving, by gives -/
theorem MoR_of {al al2 : Int → Int} {p x n : Int} (hL : okLt al) (hp : 0 ≤ p ∧ p < 6) (h2 : al 2 ≤ 6) (h : gvR (ua al (30 + p) x) al2 (al 28) n) : MoR al p x al2 n := by
  have h0 := hL.1
  have e1 : ∀ k : Int, k ≠ 30 + p → ua al (30 + p) x k = al k := fun k hk => ua_n hk
  have bG : ∀ l, isG (ua al (30 + p) x) l = isG al l := fun l => isG_e (e1 29 (by omega)) l
  have hnw : ∀ l : Int, 0 ≤ l → l < al 28 → nwl (ua al (30 + p) x) l = (!isG al l && (decide (al (84 + l) = p) && decide (al (78 + l) = x))) := fun l l0 l1 => by
    have hll := hL.2.2.2.2 l l0 l1
    unfold nwl
    rw [bG, e1 (78 + l) (by omega), e1 (84 + l) (by omega)]
    by_cases hg : isG al l = true
    · rw [hg]; rfl
    · have hg := bf hg
      rw [hg]
      by_cases e : al (84 + l) = p
      · rw [e, ua_s]; simp
      · rw [e1 _ (by omega)]
        have := hll.2.2.2.2 hg
        simp [e, this]
  refine ⟨fun k hk => by rw [h.1 k (by omega)]; exact e1 k (by omega), by rw [h.1 (30 + p) (by omega), ua_s], h.2.1, fun l l0 l1 => ?_, fun l l0 l1 => ?_, ?_⟩
  · have hl := h.2.2.1 l (by omega) l1
    refine bf (fun z => ?_)
    rw [hl.1, bG, hL.2.2.2.1 l l0 l1] at z
    rcases z with z | z
    · cases z
    · omega
  · have hl := h.2.2.1 l l0 (by omega)
    have hw := hnw l l0 l1
    refine ⟨?_, fun hg => ?_, fun hg z => ?_⟩
    · rw [hl.1, bG, hw]
      constructor
      · rintro (z | z)
        · exact Or.inl z
        · have := z.2; simp at this; exact Or.inr this.2
      · rintro (z | z)
        · exact Or.inl z
        · by_cases hg : isG al l = true
          · exact Or.inl hg
          · right; simp [bf hg, z]; exact l1
    · rw [hl.2.2 (fun z => by rw [hw, hg] at z; exact absurd z.2 (by simp)), e1 _ (by omega)]
    · rw [hl.1, bG, hg] at z
      rcases z with z | z
      · cases z
      · rw [hl.2.1 z]; exact e1 27 (by omega)
  · rw [h.2.2.2]
    exact cnt_congr (fun k hk => hnw k (by omega) (by omega))
/-- when a letter came stays, unless it comes now -/
def K96 (al al' : Int → Int) : Prop := ∀ l : Int, 0 ≤ l → l < 6 → isG al' l = isG al l → al' (96 + l) = al (96 + l)
theorem gvR_K {al al' : Int → Int} {k n : Int} (h : gvR al al' k n) : K96 al al' := fun l l0 l1 e => by
  have hl := h.2.2.1 l l0 l1
  refine hl.2.2 (fun z => ?_)
  have h1 := hl.1.2 (Or.inr z)
  have h2 : isG al l = false := by
    have := z.2
    unfold nwl at this
    simp at this
    exact this.1
  rw [e, h2] at h1
  cases h1
theorem K96_rf (al : Int → Int) : K96 al al := fun _ _ _ _ => rfl
theorem K96_e {al b al' : Int → Int} (h : K96 b al') (h29 : b 29 = al 29) (h96 : ∀ l : Int, 0 ≤ l → l < 6 → b (96 + l) = al (96 + l)) : K96 al al' := fun l l0 l1 e => (h l l0 l1 (e.trans (isG_e h29 l).symm)).trans (h96 l l0 l1)
theorem K96_tr {al b al' : Int → Int} (h : K96 al b) (h' : K96 b al') (m1 : ∀ l : Int, 0 ≤ l → l < 6 → isG al l = true → isG b l = true) (m2 : ∀ l : Int, 0 ≤ l → l < 6 → isG b l = true → isG al' l = true) : K96 al al' := fun l l0 l1 e => by
  have hb : isG b l = isG al l := by
    cases ha : isG al l with
    | true => exact m1 l l0 l1 ha
    | false => exact bf (fun q => by rw [m2 l l0 l1 q, ha] at e; cases e)
  rw [h' l l0 l1 (e.trans hb.symm), h l l0 l1 hb]
theorem bits_eq {al al' : Int → Int} (h : 0 ≤ al 29 ∧ al 29 < 64) (h' : 0 ≤ al' 29 ∧ al' 29 < 64) (hb : ∀ l : Int, 0 ≤ l → l < 6 → isG al' l = isG al l) : al' 29 = al 29 := by
  have e : ∀ l : Nat, l < 6 → al' 29 / 2 ^ l % 2 = al 29 / 2 ^ l % 2 := fun l hl => by
    have := hb l (by omega) (by omega)
    unfold isG at this
    rw [show ((l : Int)).toNat = l by omega] at this
    have := decide_eq_decide.1 this
    generalize al' 29 / 2 ^ l = x at *
    generalize al 29 / 2 ^ l = y at *
    omega
  have e0 := e 0 (by decide)
  have e1 := e 1 (by decide)
  have e2 := e 2 (by decide)
  have e3 := e 3 (by decide)
  have e4 := e 4 (by decide)
  have e5 := e 5 (by decide)
  simp only [Int.reducePow] at e0 e1 e2 e3 e4 e5
  generalize al' 29 = x at *
  generalize al 29 = y at *
  have q : ∀ z : Int, 0 ≤ z ∧ z < 64 → z = z / 1 % 2 + 2 * (z / 2 % 2) + 4 * (z / 4 % 2) + 8 * (z / 8 % 2) + 16 * (z / 16 % 2) + 32 * (z / 32 % 2) := fun z hz => by omega
  rw [q x h', q y h, e0, e1, e2, e3, e4, e5]
theorem PoR_uq {al a1 a2 : Int → Int} {p x : Int} (hL : okLt al) (h28 : al 28 < 6) (h1 : PoR al p x a1) (h2 : PoR al p x a2) (k1 : K96 al a1) (k2 : K96 al a2) : a2 = a1 := by
  have h0 := hL.1
  have hg : ∀ l : Int, 0 ≤ l → l < 6 → isG a2 l = isG a1 l := fun l l0 l1 => by
    by_cases e : l = al 28
    · rw [e, Bool.eq_iff_iff, h1.2.2.2.2.2.2.2.1, h2.2.2.2.2.2.2.2.1]
    · rw [h1.2.2.2.2.2.2.1 l l0 l1 e, h2.2.2.2.2.2.2.1 l l0 l1 e]
  have hf := hL.2.2.2.1 (al 28) (Int.le_refl _) h28
  funext k
  by_cases e28 : k = 28
  · rw [e28, h1.2.1, h2.2.1]
  by_cases e29 : k = 29
  · rw [e29]; exact bits_eq h1.2.2.2.2.2.1 h2.2.2.2.2.2.1 hg
  by_cases e78 : k = 78 + al 28
  · rw [e78, h1.2.2.1, h2.2.2.1]
  by_cases e84 : k = 84 + al 28
  · rw [e84, h1.2.2.2.1, h2.2.2.2.1]
  by_cases e90 : k = 90 + al 28
  · rw [e90, h1.2.2.2.2.1, h2.2.2.2.2.1]
  by_cases e96 : k = 96 + al 28
  · rw [e96]
    cases hz : isG a1 (al 28) with
    | true =>
      have hz2 := (hg (al 28) h0.1 h28).trans hz
      rw [h1.2.2.2.2.2.2.2.2 hz, h2.2.2.2.2.2.2.2.2 hz2]
    | false =>
      have hz2 := (hg (al 28) h0.1 h28).trans hz
      rw [k1 (al 28) h0.1 h28 (hz.trans hf.symm), k2 (al 28) h0.1 h28 (hz2.trans hf.symm)]
  · rw [h1.1 k (by omega), h2.1 k (by omega)]
theorem MoR_uq {al a1 a2 : Int → Int} {p x n1 n2 : Int} (hL : okLt al) (h1 : MoR al p x a1 n1) (h2 : MoR al p x a2 n2) (k1 : K96 al a1) (k2 : K96 al a2) : a2 = a1 ∧ n2 = n1 := by
  have h0 := hL.1
  have hg : ∀ l : Int, 0 ≤ l → l < 6 → isG a2 l = isG a1 l := fun l l0 l1 => by
    by_cases e : al 28 ≤ l
    · rw [h1.2.2.2.1 l e l1, h2.2.2.2.1 l e l1]
    · rw [Bool.eq_iff_iff, (h1.2.2.2.2.1 l l0 (by omega)).1, (h2.2.2.2.2.1 l l0 (by omega)).1]
  refine ⟨funext (fun k => ?_), by rw [h1.2.2.2.2.2, h2.2.2.2.2.2]⟩
  by_cases e29 : k = 29
  · rw [e29]; exact bits_eq h1.2.2.1 h2.2.2.1 hg
  by_cases e30 : k = 30 + p
  · rw [e30, h1.2.1, h2.2.1]
  by_cases e96 : 96 ≤ k ∧ k < 102
  · obtain ⟨l, rfl⟩ : ∃ l, k = 96 + l := ⟨k - 96, by omega⟩
    have hgl := hg l (by omega) (by omega)
    by_cases hs : isG a1 l = isG al l
    · rw [k1 l (by omega) (by omega) hs, k2 l (by omega) (by omega) (hgl.trans hs)]
    · by_cases e : al 28 ≤ l
      · exact absurd ((h1.2.2.2.1 l e (by omega)).trans (hL.2.2.2.1 l e (by omega)).symm) hs
      · have m1 := h1.2.2.2.2.1 l (by omega) (by omega)
        have m2 := h2.2.2.2.2.1 l (by omega) (by omega)
        have ha : isG al l = false := bf (fun q => hs ((m1.1.2 (Or.inl q)).trans q.symm))
        have hz : isG a1 l = true := Classical.byContradiction fun q => hs ((bf q).trans ha.symm)
        rw [m1.2.2 ha hz, m2.2.2 ha (hgl.trans hz)]
  · rw [h1.1 k (by omega), h2.1 k (by omega)]
/-- what a day does to the post's letters, ahead of gives; so many days -/
def gLt (al : Int → Int) (l : Int) : Int → Int := nxA al (-1) (al (84 + l))
def tL (al : Int → Int) (l : Int) : Int := al (30 + al (84 + l))
def DyR (al : Int → Int) (n : Nat) (al' : Int → Int) : Prop := (∀ k : Int, ¬ (k = 27 ∨ k = 29 ∨ (78 ≤ k ∧ k < 78 + al 28) ∨ (96 ≤ k ∧ k < 102)) → al' k = al k) ∧ al' 27 = al 27 + n ∧ (0 ≤ al' 29 ∧ al' 29 < 64) ∧ (∀ l : Int, al 28 ≤ l → l < 6 → isG al' l = false) ∧ ∀ l : Int, 0 ≤ l → l < al 28 → (isG al l = true → al' (78 + l) = al (78 + l) ∧ isG al' l = true ∧ al' (96 + l) = al (96 + l)) ∧ (isG al l = false → al' (78 + l) = itf (gLt al l) n (al (78 + l)) ∧ (isG al' l = true ↔ itf (gLt al l) n (al (78 + l)) = tL al l) ∧ (isG al' l = true → ∃ i : Nat, 1 ≤ i ∧ i ≤ n ∧ itf (gLt al l) i (al (78 + l)) = tL al l ∧ (∀ j, j < i → itf (gLt al l) j (al (78 + l)) ≠ tL al l) ∧ al' (96 + l) = al 27 + i))
def cmN (al al' : Int → Int) : Int := cnt (fun l => !isG al l && isG al' l) (al 28).toNat
theorem DyR_0 {al : Int → Int} (hL : okLt al) : DyR al 0 al := by
  refine ⟨fun _ _ => rfl, by omega, hL.2.1, hL.2.2.2.1, fun l l0 l1 => ⟨fun hg => ⟨rfl, hg, rfl⟩, fun hg => ⟨rfl, ⟨fun z => ?_, fun z => ?_⟩, fun z => ?_⟩⟩⟩
  · rw [hg] at z; cases z
  · exact absurd z ((hL.2.2.2.2 l l0 l1).2.2.2.2 hg)
  · rw [hg] at z; cases z
/-- told and people are as they were -/
theorem DyR.same {al al' : Int → Int} {n : Nat} (h : DyR al n al') (h28 : 0 ≤ al 28 ∧ al 28 ≤ 6) : ∀ k : Int, (k < 27 ∨ k = 28 ∨ (30 ≤ k ∧ k < 78) ∨ (84 ≤ k ∧ k < 96) ∨ 102 ≤ k) → al' k = al k := fun k hk => h.1 k (by omega)
theorem nxA_cg {al al' : Int → Int} (hT : okT al) {p : Int} (hp : 0 ≤ p ∧ p < 6) (h : ∀ k : Int, (k < 27 ∨ (30 ≤ k ∧ k < 78) ∨ (854 ≤ k ∧ k < 1754)) → al' k = al k) (idle y : Int) : nxA al' idle p y = nxA al idle p y := by
  have h2 := hT.2.1
  have hs : sameT al al' := fun k hk => h k (by omega)
  have hsd : sdA al' idle p y (-1) = sdA al idle p y (-1) := by
    unfold sdA
    rw [h 2 (by omega)]
    refine congrArg Prod.fst (bst_congr (fun k hk => ?_))
    refine ⟨by (try dsimp only); rw [h (30 + k) (by omega)], fun _ => mnA_cg hs hT (by omega) hp (h _ (by omega)) (h _ (by omega))⟩
  unfold nxA
  rw [h (30 + p) (by omega), hsd]
  by_cases h1 : y = al (30 + p)
  · rw [if_pos h1, if_pos h1]
  · rw [if_neg h1, if_neg h1]
    by_cases h3 : sdA al idle p y (-1) = -1
    · rw [if_pos h3, if_pos h3]
    · rw [if_neg h3, if_neg h3]
      have hs2 := sdA_ok (al := al) h2.1 h3
      exact wlA_cg hs hT (by omega) hp (h _ (by omega)) (h _ (by omega))
theorem gLt_t {al : Int → Int} (l : Int) : gLt al l (tL al l) = tL al l := by unfold gLt tL nxA; rw [if_pos rfl]
theorem gLt_tn {al : Int → Int} (l : Int) : ∀ n, itf (gLt al l) n (tL al l) = tL al l := fun n => by
  induction n with
  | zero => rfl
  | succ n ih => rw [itf_succ, ih, gLt_t]
theorem DyR_uq {al a1 a2 : Int → Int} {n : Nat} (hL : okLt al) (h1 : DyR al n a1) (h2 : DyR al n a2) (k1 : K96 al a1) (k2 : K96 al a2) : a2 = a1 := by
  have h0 := hL.1
  have hg : ∀ l : Int, 0 ≤ l → l < 6 → isG a2 l = isG a1 l := fun l l0 l1 => by
    by_cases e : al 28 ≤ l
    · rw [h1.2.2.2.1 l e l1, h2.2.2.2.1 l e l1]
    · have d1 := h1.2.2.2.2 l l0 (by omega)
      have d2 := h2.2.2.2.2 l l0 (by omega)
      cases ha : isG al l with
      | true => rw [(d1.1 ha).2.1, (d2.1 ha).2.1]
      | false => rw [Bool.eq_iff_iff, (d1.2 ha).2.1, (d2.2 ha).2.1]
  refine funext (fun k => ?_)
  by_cases e27 : k = 27
  · rw [e27, h1.2.1, h2.2.1]
  by_cases e29 : k = 29
  · rw [e29]; exact bits_eq h1.2.2.1 h2.2.2.1 hg
  by_cases e78 : 78 ≤ k ∧ k < 78 + al 28
  · obtain ⟨l, rfl⟩ : ∃ l, k = 78 + l := ⟨k - 78, by omega⟩
    have d1 := h1.2.2.2.2 l (by omega) (by omega)
    have d2 := h2.2.2.2.2 l (by omega) (by omega)
    cases ha : isG al l with
    | true => rw [(d1.1 ha).1, (d2.1 ha).1]
    | false => rw [(d1.2 ha).1, (d2.2 ha).1]
  by_cases e96 : 96 ≤ k ∧ k < 102
  · obtain ⟨l, rfl⟩ : ∃ l, k = 96 + l := ⟨k - 96, by omega⟩
    have hgl := hg l (by omega) (by omega)
    by_cases hs : isG a1 l = isG al l
    · rw [k1 l (by omega) (by omega) hs, k2 l (by omega) (by omega) (hgl.trans hs)]
    · by_cases e : al 28 ≤ l
      · exact absurd ((h1.2.2.2.1 l e (by omega)).trans (hL.2.2.2.1 l e (by omega)).symm) hs
      · have d1 := h1.2.2.2.2 l (by omega) (by omega)
        have d2 := h2.2.2.2.2 l (by omega) (by omega)
        have ha : isG al l = false := bf (fun q => hs (((d1.1 q).2.1).trans q.symm))
        have hz : isG a1 l = true := Classical.byContradiction fun q => hs ((bf q).trans ha.symm)
        obtain ⟨i, i1, i2, i3, i4, i5⟩ := (d1.2 ha).2.2 hz
        obtain ⟨j, j1, j2, j3, j4, j5⟩ := (d2.2 ha).2.2 (hgl.trans hz)
        have hij : i = j := by
          rcases Nat.lt_trichotomy i j with z | z | z
          · exact absurd i3 (j4 i z)
          · exact z
          · exact absurd j3 (i4 j z)
        rw [i5, j5, hij]
  · rw [h1.1 k (by omega), h2.1 k (by omega)]
theorem DyR.mono {al a : Int → Int} {n : Nat} (hL : okLt al) (h : DyR al n a) : ∀ l : Int, 0 ≤ l → l < 6 → isG al l = true → isG a l = true := fun l l0 l1 hg => by
  by_cases e : al 28 ≤ l
  · rw [hL.2.2.2.1 l e l1] at hg; cases hg
  · exact ((h.2.2.2.2 l l0 (by omega)).1 hg).2.1
end Dd1
