section Dd4
variable {d c : Nat}
theorem LawR_cg {v : sF} {t : Int} {al al' : Int → Int} (hT : okT al) (h : sameT al al') {law : Int} (hl : law = 0 ∨ law = 1) (hR : LawR v t al law) : LawR v t al' law := by
  unfold LawR
  rw [h (3 + law) (by omega), h (5 + law) (by omega), h (7 + law) (by omega)]
  refine ⟨hR.1, fun ht => ?_⟩
  have hb := hT.2.2.2 law hl ht
  have hc := h.cd hl hb.1
  have h2 := hR.2 ht
  rw [hc.1]
  exact ⟨h2.1, h2.2.1, fun k hk => by rw [h2.2.2 k hk, hc.2 k hk]⟩
theorem TolR_cg {v : sF} {t : Int} {al al' : Int → Int} (hT : okT al) (h : sameT al al') (hR : TolR v t al) : TolR v t al' := by
  refine ⟨by rw [h 1 (by omega)]; exact hR.1, by rw [h 2 (by omega)]; exact hR.2.1, by rw [h 0 (by omega)]; exact hR.2.2.1, fun p p0 p1 => ?_, LawR_cg hT h (Or.inl rfl) hR.2.2.2.2.1, LawR_cg hT h (Or.inr rfl) hR.2.2.2.2.2⟩
  rw [h (9 + p) (by omega), h (15 + p) (by omega), h (21 + p) (by omega)]
  exact hR.2.2.2.1 p p0 p1
/-- what carry leaves -/
def cyR (a l : Int) (n : Nat) (g : Int → Int) (x t D r : Int) (v v' : sF) : Prop := (∀ j : Int, j ≠ l → v' (a + 5) j = v (a + 5) j ∧ v' (a + 7) j = v (a + 7) j) ∧ v' (a + 5) l = itf g n x ∧ (itf g n x = t → r = 1 ∧ ∃ i : Nat, 1 ≤ i ∧ i ≤ n ∧ itf g i x = t ∧ (∀ j, j < i → itf g j x ≠ t) ∧ v' (a + 7) l = D + i) ∧ (itf g n x ≠ t → r = 0 ∧ v' (a + 7) l = v (a + 7) l)
theorem cy_loop {a l N x t D : Int} {n : Nat} {g : Int → Int} {Q : sQ} (v0 : sF) (ha : aN a) (hl : 0 ≤ l ∧ l < 6) (hg : Gd g N) (hx : 0 ≤ x ∧ x < N) (hgt : g t = t) (hP : 0 ≤ v0 3 1 ∧ v0 3 1 ≤ 6) (h3 : v0 140 3 = t) (hD : v0 a 3 = D) (hDr : 0 ≤ D ∧ D ≤ 1000000) (hn : n ≤ 100) (hnx : ∀ i, i < n → nxW v0 (itf g i x) = g (itf g i x)) (hQ : ∀ r v', Off [a + 5, a + 7] v0 v' → cyR a l n g x t D r v0 v' → Q (some (0, r)) (c, v')) : ∀ (m i : Nat) (v : sF), i + m = n → Off [a + 5] v0 v → (∀ j : Int, j ≠ l → v (a + 5) j = v0 (a + 5) j) → v (a + 5) l = itf g i x → (∀ j, j ≤ i → itf g j x ≠ t) → Wp (Ev (d + 2)) 0 (fun _ => 0) 12 Q 3 [(2, 144), (2, a), (0, l), (0, (n : Int)), (0, (i : Int) + 1), (9, 0)] [] c v := by
  have hnt := ha.nt
  have n0 := hnt.2
  have hN := hg.1
  have ha2 : a = 13 ∨ a = 29 := ha
  intro m
  induction m with
  | zero =>
    intro i v hi ho hj h5 hno
    have hi : i = n := hi
    subst hi
    refine E12_3 _ _ _ _ (brbI (fun _ => hQ 0 v (ho.wk (by simp)) ⟨fun j hjl => ⟨hj j hjl, by rw [ho (a + 7) (by simp)]⟩, h5, fun z => absurd z (hno i (Nat.le_refl i)), fun _ => ⟨rfl, by rw [ho (a + 7) (by simp)]⟩⟩) (fun z => absurd z (by omega)))
  | succ m ih =>
    intro i v hi ho hj h5 hno
    have hy := hg.it i hx
    have hnw : nxW v (itf g i x) = g (itf g i x) := by
      rw [← hnx i (by omega)]
      unfold nxW sdW
      rw [ho 3 (by simp; omega), ho 140 (by simp; omega), ho 141 (by simp; omega), ho 142 (by simp; omega), ho 143 (by simp; omega)]
    have hE := C_nextOf (d := d) (c := c) (v := v) (place := itf g i x) (by rw [ho 3 (by simp; omega)]; exact hP) (by omega)
    rw [hnw, ← itf_succ g i x] at hE
    refine E12_3 _ _ _ _ (brbI (fun z => absurd z (by omega)) (fun _ => cktI (beqI hnt.1) (cktI (beqI n0.2.2.2.2.1.1) ?_)))
    rw [n0.2.2.2.2.1.2, n0.2.2.2.2.2.2.2, h5]
    refine chkI (inbI (by omega) (by omega)) ⟨_, c, v, hE, cktI (beqI hnt.1) (cktI (beqI n0.2.2.2.2.1.1) (chkI (inbI (by omega) (by omega)) ?_))⟩
    rw [h5]
    refine brbN (fun z => cktI (beqI hnt.1) (cktI (beqI n0.2.2.2.2.1.1) (chkI (inbI (by omega) (by omega)) ?_))) (fun z => ?_)
    · have e140 : up v (a + 5) l (itf g (i + 1) x) 140 3 = t := by rw [up_ne2 _ (by omega), ho 140 (by simp; omega)]; exact h3
      have ea3 : up v (a + 5) l (itf g (i + 1) x) a 3 = D := by rw [up_ne2 _ (by omega), ho a (by simp; omega)]; exact hD
      rw [e140, ea3]
      have ho2 : Off [a + 5] v0 (up v (a + 5) l (itf g (i + 1) x)) := ho.up (by simp)
      refine brbN (fun z2 => rngI (by omega) ?_) (fun z2 => cktI (beqI hnt.1) (cktI (beqI hnt.1) (rngI (by omega) (cktI (beqI n0.2.2.2.2.2.2.1) (chkI (inbI (by omega) (by omega)) ?_)))))
      · refine ih (i + 1) _ (by omega) ho2 (fun j hjl => by rw [up_ne _ hjl]; exact hj j hjl) (up_same _ _ _ _) (fun j hj1 => ?_)
        rcases Nat.lt_or_eq_of_le hj1 with q | q
        · exact hno j (by omega)
        · rw [q]; exact z2
      · have hfin : itf g n x = t := by
          rw [show n = (i + 1) + (n - (i + 1)) by omega, itf_add, z2]
          have : ∀ k, itf g k t = t := fun k => by
            induction k with
            | zero => rfl
            | succ k ihk => rw [itf_succ, ihk, hgt]
          exact this _
        refine hQ 1 _ ((ho2.wk (by simp)).up (by simp)) ⟨fun j hjl => ⟨?_, ?_⟩, ?_, fun _ => ⟨rfl, i + 1, by omega, by omega, z2, fun j hj1 => hno j (by omega), ?_⟩, fun q => absurd hfin q⟩
        · rw [up_ne2 _ (by omega), up_ne _ hjl]; exact hj j hjl
        · rw [up_ne _ hjl, up_ne2 _ (by omega), ho (a + 7) (by simp)]
        · rw [up_ne2 _ (by omega), up_same, z2, hfin]
        · rw [up_same]; omega
    · have hfix : ∀ k, itf g k (itf g i x) = itf g i x := fun k => by
        induction k with
        | zero => rfl
        | succ k ihk => rw [itf_succ, ihk, ← itf_succ g i x]; exact z
      have hfin : itf g n x = itf g i x := by rw [show n = i + (n - i) by omega, itf_add, hfix]
      refine hQ 0 v (ho.wk (by simp)) ⟨fun j hjl => ⟨hj j hjl, by rw [ho (a + 7) (by simp)]⟩, by rw [hfin]; exact h5, fun q => absurd (hfin ▸ q) (hno i (Nat.le_refl i)), fun _ => ⟨rfl, by rw [ho (a + 7) (by simp)]⟩⟩
theorem C_carry {v : sF} {a l N x t D : Int} {n : Nat} {g : Int → Int} (ha : aN a) (hl : 0 ≤ l ∧ l < 6) (hg : Gd g N) (hx : 0 ≤ x ∧ x < N) (hgt : g t = t) (hxt : x ≠ t) (hP : 0 ≤ v 3 1 ∧ v 3 1 ≤ 6) (h3 : v 140 3 = t) (hD : v a 3 = D) (hDr : 0 ≤ D ∧ D ≤ 1000000) (hn : n ≤ 100) (h5 : v (a + 5) l = x) (hnx : ∀ i, i < n → nxW v (itf g i x) = g (itf g i x)) : ∃ r v', Ev (d + 3) 12 [(2, 144), (2, a), (0, l), (0, (n : Int))] (c, v) (some (0, r)) (c, v') ∧ Off [a + 5, a + 7] v v' ∧ cyR a l n g x t D r v v' := CB_of (loc12 a l n) (E12_0 a l n (cy_loop v ha hl hg hx hgt hP h3 hD hDr hn hnx (fun r v' ho hr => ⟨r, v', rfl, rfl, ho, hr⟩) n 0 v (by omega) (Off.rf _ _) (fun _ _ => rfl) h5 (fun j hj => by rw [show j = 0 by omega]; exact hxt)))
/-- the cells that pass writes -/
def cPs (a : Int) : List Int := [7, 11, 12, 140, 141, 142, 143, a, a + 5, a + 7]
theorem cPs_mem {a b : Int} : b ∈ cPs a ↔ (b = 7 ∨ b = 11 ∨ b = 12 ∨ (140 ≤ b ∧ b ≤ 143) ∨ b = a ∨ b = a + 5 ∨ b = a + 7) := by unfold cPs; simp only [List.mem_cons, List.not_mem_nil, or_false]; omega
theorem cW_mem {b : Int} : b ∈ cW ↔ (b = 7 ∨ b = 11 ∨ b = 12 ∨ (140 ≤ b ∧ b ≤ 143)) := by unfold cW; simp only [List.mem_cons, List.not_mem_nil, or_false]; omega
/-- a Now while pass goes through its letters -/
def psR (v : sF) (a : Int) (al al' : Int → Int) (k : Int) : Prop := v a 3 = al 27 ∧ v a 4 = al 28 ∧ (∀ p : Int, 0 ≤ p → p < 6 → v (a + 1) p = al (30 + p) ∧ v (a + 2) p = al (36 + p)) ∧ (∀ i : Int, 0 ≤ i → i < 36 → v (a + 3) i = al (42 + i)) ∧ (∀ l : Int, 0 ≤ l → l < al 28 → v (a + 4) l = al (84 + l) ∧ v (a + 6) l = al (90 + l)) ∧ (∀ l : Int, 0 ≤ l → l < k → v (a + 5) l = al' (78 + l) ∧ v (a + 7) l = if isG al' l = true then al' (96 + l) else -1) ∧ ∀ l : Int, k ≤ l → l < al 28 → v (a + 5) l = al (78 + l) ∧ v (a + 7) l = if isG al l = true then al (96 + l) else -1
theorem psR.w {v v' : sF} {a k : Int} {al al' : Int → Int} (ha : aN a) (h : psR v a al al' k) (ho : Off cW v v') : psR v' a al al' k := by
  have ha2 : a = 13 ∨ a = 29 := ha
  have e : ∀ j : Int, 0 ≤ j → j ≤ 7 → v' (a + j) = v (a + j) := fun j j0 j1 => ho _ (fun z => by rw [cW_mem] at z; omega)
  have e0 : v' a = v a := by have := e 0 (by omega) (by omega); rwa [show a + 0 = a by omega] at this
  unfold psR at *
  rw [e0, e 1 (by omega) (by omega), e 2 (by omega) (by omega), e 3 (by omega) (by omega), e 4 (by omega) (by omega), e 5 (by omega) (by omega), e 6 (by omega) (by omega), e 7 (by omega) (by omega)]
  exact h
/-- aiming at a letter's PERSON while pass goes -/
theorem ps_aim {v : sF} {a k only : Int} {al al' : Int → Int} (ha : aN a) (hS : St al) (hT3 : TolR v 3 al) (h : psR v a al al' k) (hk : 0 ≤ k ∧ k < al 28) : ∃ v', Ev (d + 5) 88 [(2, 140), (2, a), (0, al (84 + k)), (0, only)] (c, v) none (c, v') ∧ Off cW v v' ∧ v' 140 3 = tL al k ∧ ∀ y, (only = -1 ∨ y = only) → nxW v' y = gLt al k y := by
  have h0 := hS.2.2.1
  have h2 := hS.1.2.1
  have hll := hS.2.2.2.2.2.2 k hk.1 hk.2
  obtain ⟨b, hb, hbe⟩ := NowR_ex (v := v) (a := a) (al := al) (by rw [h.2.1]; exact h0) h.2.2.1 h.2.2.2.1
  have hsT : sameT al b := fun j hj => hbe j (by omega)
  have hTb := okT_cg hsT hS.1
  have hNb : okN b := by
    unfold okN okMn
    rw [hbe 1 (by omega)]
    exact ⟨fun p p0 p1 => by rw [hbe (30 + p) (by omega), hbe (36 + p) (by omega)]; exact hS.2.1.1 p p0 p1, fun i i0 i1 => by rw [hbe (42 + i) (by omega)]; exact hS.2.1.2 i i0 i1⟩
  have hRb : CR v a b := ⟨TolR_cg hS.1 hsT hT3, hb⟩
  obtain ⟨v1, hE, hO, hW⟩ := C_aimAt (d := d) (c := c) (v := v) (a := a) (p := al (84 + k)) (only := only) ha hTb hNb hRb (by omega)
  have hG := hW.g (hRb.w ha hO)
  refine ⟨v1, hE, hO, ?_, fun y hy => ?_⟩
  · rw [hG.2.2.2.1, hbe (30 + al (84 + k)) (by omega)]; rfl
  · rw [nxW_e hG hy (by rw [hbe 2 (by omega)]; exact h2.1), nxA_cg hS.1 (by omega) (fun j hj => hbe j (by omega))]; rfl
theorem ps_step {v v' : sF} {a k r : Int} {n : Nat} {al al' : Int → Int} (ha : aN a) (hS : St al) (hd : DyR al n al') (h : psR v a al al' k) (hk : 0 ≤ k ∧ k < al 28) (hg : isG al k = false) (ho : Off [a + 5, a + 7] v v') (hc : cyR a k n (gLt al k) (al (78 + k)) (tL al k) (al 27) r v v') : psR v' a al al' (k + 1) ∧ r = if isG al' k = true then 1 else 0 := by
  have hdk := (hd.2.2.2.2 k hk.1 hk.2).2 hg
  have hkk := h.2.2.2.2.2.2 k (Int.le_refl k) hk.2
  rw [hg, if_neg (by decide)] at hkk
  refine ⟨⟨by rw [ho a (by simp; omega)]; exact h.1, by rw [ho a (by simp; omega)]; exact h.2.1, fun p p0 p1 => by rw [ho (a + 1) (by simp), ho (a + 2) (by simp)]; exact h.2.2.1 p p0 p1, fun i i0 i1 => by rw [ho (a + 3) (by simp)]; exact h.2.2.2.1 i i0 i1, fun l l0 l1 => by rw [ho (a + 4) (by simp), ho (a + 6) (by simp)]; exact h.2.2.2.2.1 l l0 l1, fun l l0 l1 => ?_, fun l l0 l1 => ?_⟩, ?_⟩
  · by_cases e : l = k
    · rw [e]
      refine ⟨by rw [hc.2.1, hdk.1], ?_⟩
      by_cases hf : itf (gLt al k) n (al (78 + k)) = tL al k
      · have hgt := hdk.2.1.2 hf
        obtain ⟨_, i, i1, i2, i3, i4, i5⟩ := hc.2.2.1 hf
        obtain ⟨j, j1, j2, j3, j4, j5⟩ := hdk.2.2 hgt
        have hij : i = j := by
          rcases Nat.lt_trichotomy i j with z | z | z
          · exact absurd i3 (j4 i z)
          · exact z
          · exact absurd j3 (i4 j z)
        rw [if_pos hgt, i5, j5, hij]
      · rw [if_neg (fun z => hf (hdk.2.1.1 z)), (hc.2.2.2 hf).2]; exact hkk.2
    · rw [(hc.1 l e).1, (hc.1 l e).2]; exact h.2.2.2.2.2.1 l l0 (by omega)
  · rw [(hc.1 l (by omega)).1, (hc.1 l (by omega)).2]; exact h.2.2.2.2.2.2 l (by omega) l1
  · by_cases hf : itf (gLt al k) n (al (78 + k)) = tL al k
    · rw [if_pos (hdk.2.1.2 hf)]; exact (hc.2.2.1 hf).1
    · rw [if_neg (fun z => hf (hdk.2.1.1 z))]; exact (hc.2.2.2 hf).1
theorem ps_loop {a : Int} {n : Nat} {al al' : Int → Int} {Q : sQ} (v0 : sF) (ha : aN a) (hS : St al) (hT3 : TolR v0 3 al) (hd : DyR al n al') (hn : 1 ≤ n ∧ n ≤ 99) (hD : al 27 ≤ 900000) (hQ : ∀ v', Off (cPs a) v0 v' → NowR v' a al' → Q (some (0, cmN al al')) (c, v')) : ∀ (m k : Nat) (v : sF), (k : Int) + m = al 28 → Off (cPs a) v0 v → psR v a al al' k → Wp (Ev (d + 5)) 0 (fun _ => 0) 11 Q 5 [(2, 144), (2, a), (0, (n : Int)), (0, cnt (fun l => !isG al l && isG al' l) k), (0, (k : Int))] [] c v := by
  have hnt := ha.nt
  have n0 := hnt.2
  have h0 := hS.2.2.1
  have h1 := hS.1.1
  have h2 := hS.1.2.1
  have h27 := hS.2.2.2.2.1
  have ha2 : a = 13 ∨ a = 29 := ha
  intro m
  induction m with
  | zero =>
    intro k v hk ho h
    have hkk : (k : Int) = al 28 := by omega
    rw [hkk] at h
    refine E11_5 _ _ _ _ (cktI (beqI hnt.1) ?_)
    rw [h.2.1, h.1]
    refine brbI (fun _ => cktI (beqI hnt.1) (rngI (by omega) (cktI (beqI hnt.1) ?_))) (fun z => absurd z (by omega))
    have hQ := hQ (up v a 3 (al 27 + n)) (ho.up (cPs_mem.2 (by omega))) ?_
    · unfold cmN at hQ
      rw [show (al 28).toNat = k by omega] at hQ
      exact hQ
    · have hsame := hd.same h0
      refine ⟨?_, ?_, fun p p0 p1 => ?_, fun i i0 i1 => ?_, fun l l0 l1 => ?_⟩
      · rw [up_same, hd.2.1]
      · rw [up_ne _ (by decide), h.2.1, hsame 28 (by omega)]
      · rw [up_ne2 _ (by omega), up_ne2 _ (by omega), hsame (30 + p) (by omega), hsame (36 + p) (by omega)]; exact h.2.2.1 p p0 p1
      · rw [up_ne2 _ (by omega), hsame (42 + i) (by omega)]; exact h.2.2.2.1 i i0 i1
      · rw [hsame 28 (by omega)] at l1
        have hl4 := h.2.2.2.2.1 l l0 l1
        have hl5 := h.2.2.2.2.2.1 l l0 l1
        rw [up_ne2 _ (by omega), up_ne2 _ (by omega), up_ne2 _ (by omega), up_ne2 _ (by omega), hsame (84 + l) (by omega), hsame (90 + l) (by omega)]
        exact ⟨hl4.1, hl5.1, hl4.2, hl5.2⟩
  | succ m ih =>
    intro k v hk ho h
    have hk2 : 0 ≤ (k : Int) ∧ (k : Int) < al 28 := by omega
    have hll := hS.2.2.2.2.2.2 k hk2.1 hk2.2
    have h4 := h.2.2.2.2.1 k hk2.1 hk2.2
    have h5 := h.2.2.2.2.2.2 k (Int.le_refl _) hk2.2
    have hcr := cnt_rng (fun l => !isG al l && isG al' l) k
    have hT3v : TolR v 3 al := hT3.off ho (fun j hj z => by rw [cPs_mem] at z; omega)
    have hgd : Gd (gLt al k) (al 1) := nx_gd hS.1 (-1) (by omega)
    have hP3 : v 3 = v0 3 := ho 3 (fun z => by rw [cPs_mem] at z; omega)
    have hgo : ∀ only v1, (∀ y, (only = -1 ∨ y = only) → nxW v1 y = gLt al k y) → v1 140 3 = tL al k → Off cW v v1 → (only = -1 ∨ (n = 1 ∧ only = al (78 + (k : Int)))) → isG al k = false → ∃ r5 c3 v4, Ev (d + 5) 12 [(2, 144), (2, a), (0, (k : Int)), (0, (n : Int))] (c, v1) (some (0, r5)) (c3, v4) ∧ (rngc (cnt (fun l => !isG al l && isG al' l) k + r5) (rngc ((k : Int) + 1) (Wp (Ev (d + 5)) 0 (fun _ => 0) 11 Q 5 [(2, 144), (2, a), (0, (n : Int)), (0, cnt (fun l => !isG al l && isG al' l) k + r5), (0, (k : Int) + 1)] [] c3 v4))) := fun only v1 hnx h3 hO hon hgf => by
      have h1 := h.w ha hO
      have h15 := h1.2.2.2.2.2.2 k (Int.le_refl _) hk2.2
      obtain ⟨r, v2, hE, hO2, hcy⟩ := C_carry (d := d + 2) (c := c) (v := v1) (a := a) (l := (k : Int)) (n := n) ha (by omega) hgd hll.2.1 (gLt_t _) (hll.2.2.2.2 hgf) (by rw [hO 3 (by decide), hT3v.2.1]; exact h2) h3 h1.1 (by omega) (by omega) h15.1 (fun i hi => by
        refine hnx _ ?_
        rcases hon with z | ⟨z, z2⟩
        · exact Or.inl z
        · right; rw [show i = 0 by omega, z2]; rfl)
      have hst := ps_step ha hS hd h1 hk2 hgf hO2 hcy
      refine ⟨r, c, v2, hE, ?_⟩
      have := ih (k + 1) v2 (by omega) (ho.tr ((hO.wk (fun b hb => cPs_mem.2 (by rw [cW_mem] at hb; omega))).tr (hO2.wk (fun b hb => cPs_mem.2 (by simp at hb; omega))))) hst.1
      rw [cnt_s] at this
      rw [hst.2]
      by_cases hga : isG al' k = true
      · rw [if_pos (by simp [hgf, hga])] at this
        rw [if_pos hga]
        exact rngI (by omega) (rngI (by omega) this)
      · rw [if_neg (by simp [hga])] at this
        rw [if_neg hga, Int.add_zero]
        exact rngI (by omega) (rngI (by omega) this)
    refine E11_5 _ _ _ _ (cktI (beqI hnt.1) ?_)
    rw [h.2.1, h4.1, h5.1, h5.2, n0.2.2.2.1.2, n0.2.2.2.2.1.2, n0.2.2.2.2.2.2.2]
    refine brbI (fun z => absurd z (by omega)) (fun _ => cktI (beqI hnt.1) (cktI (beqI n0.2.2.2.2.2.2.1) (chkI (inbI (by omega) (by omega)) (brbN (fun z => rngI (by omega) ?_) (fun z => ?_)))))
    · have hgt : isG al k = true := Classical.byContradiction fun q => z (if_neg q)
      have hdk := (hd.2.2.2.2 k hk2.1 hk2.2).1 hgt
      have := ih (k + 1) v (by omega) ho ⟨h.1, h.2.1, h.2.2.1, h.2.2.2.1, h.2.2.2.2.1, fun l l0 l1 => ?_, fun l l0 l1 => h.2.2.2.2.2.2 l (by omega) l1⟩
      · rw [cnt_s, if_neg (by simp [hgt])] at this
        exact this
      · by_cases e : l = k
        · rw [e, h5.1, h5.2, if_pos hgt, if_pos hdk.2.1, hdk.1, hdk.2.2]; exact ⟨rfl, rfl⟩
        · exact h.2.2.2.2.2.1 l l0 (by omega)
    · have hgf : isG al k = false := bf (fun q => by rw [if_pos q] at z; have := hll.2.2.2.1 q; omega)
      refine cktI (beqI hnt.1) (cktI (beqI n0.2.2.2.1.1) (chkI (inbI (by omega) (by omega)) (brbN (fun z2 => ?_) (fun z2 => ?_))))
      · obtain ⟨v1, hE, hO, h3, hnx⟩ := ps_aim (d := d) (c := c) (only := -1) ha hS hT3v h hk2
        exact ⟨c, v1, hE, hgo (-1) v1 hnx h3 hO (Or.inl rfl) hgf⟩
      · obtain ⟨v1, hE, hO, h3, hnx⟩ := ps_aim (d := d) (c := c) (only := al (78 + (k : Int))) ha hS hT3v h hk2
        exact cktI (beqI hnt.1) (cktI (beqI n0.2.2.2.2.1.1) (chkI (inbI (by omega) (by omega)) ⟨c, v1, hE, hgo _ v1 hnx h3 hO (Or.inr ⟨by omega, rfl⟩) hgf⟩))
theorem C_pass {v : sF} {a : Int} {n : Nat} {al al' : Int → Int} (ha : aN a) (hS : St al) (hR : CR v a al) (hd : DyR al n al') (hn : 1 ≤ n ∧ n ≤ 99) (hD : al 27 ≤ 900000) : ∃ v', Ev (d + 6) 11 [(2, 144), (2, a), (0, (n : Int))] (c, v) (some (0, cmN al al')) (c, v') ∧ Off (cPs a) v v' ∧ NowR v' a al' := by
  have h0 := hS.2.2.1
  refine CI_of (loc11 a n) (E11_0 a n (ps_loop v ha hS hR.1 hd hn hD (fun v' ho hr => ⟨rfl, _, rfl, ho, hr⟩) (al 28).toNat 0 v (by omega) (Off.rf _ _) ⟨hR.2.1, hR.2.2.1, hR.2.2.2.1, hR.2.2.2.2.1, fun l l0 l1 => ⟨(hR.2.2.2.2.2 l l0 l1).1, (hR.2.2.2.2.2 l l0 l1).2.2.1⟩, fun l l0 l1 => absurd l0 (by omega), fun l l0 l1 => ⟨(hR.2.2.2.2.2 l (by omega) l1).2.1, (hR.2.2.2.2.2 l (by omega) l1).2.2.2⟩⟩))
end Dd4
