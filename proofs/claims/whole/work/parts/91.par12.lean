section Par12
variable {c : Nat}
theorem cl_L {Q : sQ} {d : Nat} (v0 : sF) (hQ : ∀ v, Off [42, 44, 45] v0 v → v 42 1 = 0 → (∀ l : Int, 0 ≤ l → l < 2 → v 44 l = 0 ∧ v 45 l = 0) → Q none (c, v)) : ∀ (m : Nat) (k : Int) (v : sF), k + m = 2 → 0 ≤ k → Off [42, 44, 45] v0 v → v 42 1 = 0 → (∀ l : Int, 0 ≤ l → l < k → v 44 l = 0 ∧ v 45 l = 0) → Wp (Ev d) 0 (fun _ => 0) 19 Q 7 [(2, 42), (0, k)] [] c v := by
  intro m
  induction m with
  | zero => intro k v hk h0 ho h1 h2; exact E19_7 _ (brbI (fun _ => hQ v ho h1 (fun l l0 l1 => h2 l l0 (by omega))) (fun z => absurd z (by omega)))
  | succ m ih =>
    intro k v hk h0 ho h1 h2
    refine E19_7 _ (brbI (fun z => absurd z (by omega)) (fun _ => chkI (inbI h0 (by omega)) (chkI (inbI h0 (by omega)) (rngI (by omega) (ih (k + 1) _ (by omega) (by omega) ((ho.up (by decide)).up (by decide)) ?_ (fun l l0 l1 => ?_))))))
    · rw [up_off 42 (by decide), up_off 42 (by decide)]; exact h1
    · rcases Decidable.em (l = k) with e | e
      · rw [e, up_off 44 (by decide), up_same, up_same]; exact ⟨rfl, rfl⟩
      · rw [up_off 44 (by decide), up_ne _ e, up_ne _ e, up_off 45 (by decide)]; exact h2 l l0 (by omega)
theorem C_clearL {d : Nat} {v : sF} : ∃ v', Ev (d + 1) 19 [(2, 42)] (c, v) none (c, v') ∧ (Off [42, 44, 45] v v' ∧ v' 42 1 = 0 ∧ ∀ l : Int, 0 ≤ l → l < 2 → v' 44 l = 0 ∧ v' 45 l = 0) :=
  CV_of loc19 (E19_0 (cl_L v (fun v1 a b e => ⟨rfl, _, rfl, a, b, e⟩) 2 0 _ (by omega) (by omega) ((Off.rf _ v).up (by decide)) (up_same _ _ _ _) (fun l l0 l1 => absurd l1 (by omega))))
theorem cl_T {Q : sQ} {d : Nat} (v0 : sF) (hQ : ∀ v, Off [38, 39, 40, 41, 42, 44, 45] v0 v → (v 38 0 = 2 ∧ v 38 1 = 0 ∧ v 38 2 = 0) → (∀ p : Int, 0 ≤ p → p < 6 → v 39 p = 0 ∧ v 40 p = 0 ∧ v 41 p = 0) → v 42 1 = 0 → (∀ l : Int, 0 ≤ l → l < 2 → v 44 l = 0 ∧ v 45 l = 0) → Q none (c, v)) : ∀ (m : Nat) (k : Int) (v : sF), k + m = 6 → 0 ≤ k → Off [38, 39, 40, 41] v0 v → (v 38 0 = 2 ∧ v 38 1 = 0 ∧ v 38 2 = 0) → (∀ p : Int, 0 ≤ p → p < k → v 39 p = 0 ∧ v 40 p = 0 ∧ v 41 p = 0) → Wp (Ev (d + 1)) 0 (fun _ => 0) 80 Q 17 [(2, 38), (0, k)] [] c v := by
  intro m
  induction m with
  | zero =>
    intro k v hk h0 ho h1 h2
    refine E80_17 _ (brbI (fun _ => kN (C_clearL (d := d)) (fun v1 hv => hQ v1 ((ho.wk (by decide)).tr (hv.1.wk (by decide))) ?_ (fun p p0 p1 => ?_) hv.2.1 hv.2.2)) (fun z => absurd z (by omega)))
    · rw [hv.1 38 (by decide)]; exact h1
    · rw [hv.1 39 (by decide), hv.1 40 (by decide), hv.1 41 (by decide)]; exact h2 p p0 (by omega)
  | succ m ih =>
    intro k v hk h0 ho h1 h2
    refine E80_17 _ (brbI (fun z => absurd z (by omega)) (fun _ => chkI (inbI h0 (by omega)) (chkI (inbI h0 (by omega)) (chkI (inbI h0 (by omega)) (rngI (by omega) (ih (k + 1) _ (by omega) (by omega) (((ho.up (by decide)).up (by decide)).up (by decide)) ?_ (fun l l0 l1 => ?_)))))))
    · rw [up_off 38 (by decide), up_off 38 (by decide), up_off 38 (by decide)]; exact h1
    · rw [up_off 39 (show (39 : Int) ≠ 41 by decide), up_off 39 (show (39 : Int) ≠ 40 by decide), up_off 40 (show (40 : Int) ≠ 41 by decide)]
      rcases Decidable.em (l = k) with e | e
      · rw [e, up_same, up_same, up_same]; exact ⟨rfl, rfl, rfl⟩
      · rw [up_ne _ e, up_ne _ e, up_ne _ e, up_off 40 (show (40 : Int) ≠ 39 by decide), up_off 41 (show (41 : Int) ≠ 40 by decide), up_off 41 (show (41 : Int) ≠ 39 by decide)]; exact h2 l l0 (by omega)
theorem C_clearT {d : Nat} {v : sF} : ∃ v', Ev (d + 2) 80 [(2, 38)] (c, v) none (c, v') ∧ (Off [38, 39, 40, 41, 42, 44, 45] v v' ∧ (v' 38 0 = 2 ∧ v' 38 1 = 0 ∧ v' 38 2 = 0) ∧ (∀ p : Int, 0 ≤ p → p < 6 → v' 39 p = 0 ∧ v' 40 p = 0 ∧ v' 41 p = 0) ∧ v' 42 1 = 0 ∧ ∀ l : Int, 0 ≤ l → l < 2 → v' 44 l = 0 ∧ v' 45 l = 0) :=
  CV_of loc80 (E80_0 (cl_T v (fun v1 a b e f g => ⟨rfl, _, rfl, a, b, e, f, g⟩) 6 0 _ (by omega) (by omega) ((((Off.rf _ v).up (by decide)).up (by decide)).up (by decide)) ⟨by rw [up_ne _ (by decide), up_ne _ (by decide), up_same], by rw [up_ne _ (by decide), up_same], up_same _ _ _ _⟩ (fun l l0 l1 => absurd l1 (by omega))))
theorem cl_N2 {Q : sQ} {d : Nat} (v0 : sF) (hQ : ∀ v, Off [51] v0 v → (∀ p : Int, 0 ≤ p → p < 36 → v 51 p = 0) → Q none (c, v)) : ∀ (m : Nat) (k : Int) (v : sF), k + m = 36 → 0 ≤ k → Off [51] v0 v → (∀ p : Int, 0 ≤ p → p < k → v 51 p = 0) → Wp (Ev d) 0 (fun _ => 0) 32 Q 40 [(2, 48), (0, k)] [] c v := by
  intro m
  induction m with
  | zero => intro k v hk h0 ho h2; exact E32_40 _ (brbI (fun _ => hQ v ho (fun l l0 l1 => h2 l l0 (by omega))) (fun z => absurd z (by omega)))
  | succ m ih =>
    intro k v hk h0 ho h2
    refine E32_40 _ (brbI (fun z => absurd z (by omega)) (fun _ => chkI (inbI h0 (by omega)) (rngI (by omega) (ih (k + 1) _ (by omega) (by omega) (ho.up (by decide)) (fun l l0 l1 => ?_)))))
    rcases Decidable.em (l = k) with e | e
    · rw [e, up_same]
    · rw [up_ne _ e]; exact h2 l l0 (by omega)
theorem cl_N {Q : sQ} {d : Nat} (v0 : sF) (hQ : ∀ v, Off [48, 49, 50, 51] v0 v → (v 48 3 = 0 ∧ v 48 4 = 0) → (∀ p : Int, 0 ≤ p → p < 6 → v 49 p = 0 ∧ v 50 p = 0) → (∀ p : Int, 0 ≤ p → p < 36 → v 51 p = 0) → Q none (c, v)) : ∀ (m : Nat) (k : Int) (v : sF), k + m = 6 → 0 ≤ k → Off [48, 49, 50] v0 v → (v 48 3 = 0 ∧ v 48 4 = 0) → (∀ p : Int, 0 ≤ p → p < k → v 49 p = 0 ∧ v 50 p = 0) → Wp (Ev d) 0 (fun _ => 0) 32 Q 12 [(2, 48), (0, k)] [] c v := by
  intro m
  induction m with
  | zero =>
    intro k v hk h0 ho h1 h2
    refine E32_12 _ (brbI (fun _ => cl_N2 v (fun v1 a b => hQ v1 ((ho.wk (by decide)).tr (a.wk (by decide))) (by rw [a 48 (by decide)]; exact h1) (fun p p0 p1 => by rw [a 49 (by decide), a 50 (by decide)]; exact h2 p p0 (by omega)) b) 36 0 v (by omega) (by omega) (Off.rf _ v) (fun l l0 l1 => absurd l1 (by omega))) (fun z => absurd z (by omega)))
  | succ m ih =>
    intro k v hk h0 ho h1 h2
    refine E32_12 _ (brbI (fun z => absurd z (by omega)) (fun _ => chkI (inbI h0 (by omega)) (chkI (inbI h0 (by omega)) (rngI (by omega) (ih (k + 1) _ (by omega) (by omega) ((ho.up (by decide)).up (by decide)) ?_ (fun l l0 l1 => ?_))))))
    · rw [up_off 48 (by decide), up_off 48 (by decide)]; exact h1
    · rcases Decidable.em (l = k) with e | e
      · rw [e, up_off 49 (by decide), up_same, up_same]; exact ⟨rfl, rfl⟩
      · rw [up_off 49 (by decide), up_ne _ e, up_ne _ e, up_off 50 (by decide)]; exact h2 l l0 (by omega)
theorem C_clearN {d : Nat} {v : sF} : ∃ v', Ev (d + 1) 32 [(2, 48)] (c, v) none (c, v') ∧ (Off [48, 49, 50, 51] v v' ∧ (v' 48 3 = 0 ∧ v' 48 4 = 0) ∧ (∀ p : Int, 0 ≤ p → p < 6 → v' 49 p = 0 ∧ v' 50 p = 0) ∧ (∀ p : Int, 0 ≤ p → p < 36 → v' 51 p = 0)) :=
  CV_of loc32 (E32_0 (cl_N v (fun v1 a b e f => ⟨rfl, _, rfl, a, b, e, f⟩) 6 0 _ (by omega) (by omega) (((Off.rf _ v).up (by decide)).up (by decide)) ⟨by rw [up_ne _ (by decide), up_same], up_same _ _ _ _⟩ (fun l l0 l1 => absurd l1 (by omega))))
/-- an array made plain -/
def plA (A : Int → Int) : Int → Int := fun j => if j = 1 then 2 else if 0 ≤ j ∧ j < 1754 then 0 else A j
theorem pl_loop {Q : sQ} {d : Nat} {a : Int} (ht : (tyT a == 1) = true) (hl : ∀ x : Int, 0 ≤ x → x < 1754 → inb x (lnT a) = true) (v0 : sF) (hQ : ∀ v, Off [a] v0 v → v a = plA (v0 a) → Q none (c, v)) : ∀ (m : Nat) (k : Int) (v : sF), k + m = 1754 → 0 ≤ k → Off [a] v0 v → (∀ j : Int, v a j = if 0 ≤ j ∧ j < k then 0 else v0 a j) → Wp (Ev d) 0 (fun _ => 0) 170 Q 2 [(2, a), (0, k)] [] c v := by
  intro m
  induction m with
  | zero =>
    intro k v hk h0 ho h2
    refine E170_2 _ _ (brbI (fun _ => cktI ht (chkI (hl 1 (by omega) (by omega)) (hQ _ (ho.up List.mem_cons_self) ?_))) (fun z => absurd z (by omega)))
    rw [up_ua]
    funext j
    unfold ua plA
    rw [h2 j, show k = 1754 by omega]
  | succ m ih =>
    intro k v hk h0 ho h2
    refine E170_2 _ _ (brbI (fun z => absurd z (by omega)) (fun _ => cktI ht (chkI (hl k h0 (by omega)) (rngI (by omega) (ih (k + 1) _ (by omega) (by omega) (ho.up List.mem_cons_self) (fun j => ?_))))))
    rw [up_ua]
    unfold ua
    rw [h2 j]
    rcases Decidable.em (j = k) with e | e
    · rw [if_pos e, if_pos (by omega)]
    · rw [if_neg e]
      rcases Decidable.em (0 ≤ j ∧ j < k) with e2 | e2
      · rw [if_pos e2, if_pos (by omega)]
      · rw [if_neg e2, if_neg (by omega)]
theorem C_plain {d : Nat} {a : Int} {v : sF} (ht : (tyT a == 1) = true) (hl : ∀ x : Int, 0 ≤ x → x < 1754 → inb x (lnT a) = true) : ∃ v', Ev (d + 1) 170 [(2, a)] (c, v) none (c, v') ∧ (Off [a] v v' ∧ v' a = plA (v a)) :=
  CV_of (loc170 a) (E170_0 a (pl_loop ht hl v (fun v1 x y => ⟨rfl, _, rfl, x, y⟩) 1754 0 v (by omega) (by omega) (Off.rf _ v) (fun j => by rw [if_neg (by omega)])))
theorem pl_WF (A : Int → Int) {x : Int} (hx : 2 ≤ x ∧ x ≤ 6) : WF (ua (plA A) 1 x) := by
  have e : ∀ k : Int, k ≠ 1 → 0 ≤ k → k < 1754 → ua (plA A) 1 x k = 0 := fun k h1 h2 h3 => by rw [ua_n h1]; unfold plA; rw [if_neg h1, if_pos ⟨h2, h3⟩]
  have e1 : ua (plA A) 1 x 1 = x := ua_s _ _ _
  refine ⟨by rw [e1]; exact hx, by rw [e 2 (by omega) (by omega) (by omega)]; omega, fun p p0 p1 => ?_, fun p p0 p1 => ?_, fun i i0 i1 => ?_, ?_, by rw [e 853 (by omega) (by omega) (by omega)]; omega, fun z => absurd (e (3 + 0) (by omega) (by omega) (by omega)) z, fun z => absurd (e (3 + 1) (by omega) (by omega) (by omega)) z⟩
  · rw [e (9 + p) (by omega) (by omega) (by omega), e (15 + p) (by omega) (by omega) (by omega), e (21 + p) (by omega) (by omega) (by omega), e1]; omega
  · rw [e (30 + p) (by omega) (by omega) (by omega), e (36 + p) (by omega) (by omega) (by omega), e1]; omega
  · rw [e (42 + i) (by omega) (by omega) (by omega)]; omega
  · rw [e 27 (by omega) (by omega) (by omega), e 28 (by omega) (by omega) (by omega), e 29 (by omega) (by omega) (by omega), e 102 (by omega) (by omega) (by omega)]; omega
theorem pl_e (A : Int → Int) {k : Int} (h1 : k ≠ 1) (h2 : 0 ≤ k) (h3 : k < 1754) : plA A k = 0 := by unfold plA; rw [if_neg h1, if_pos ⟨h2, h3⟩]
def sRd : List Int := [37, 38, 39, 40, 41, 42, 43, 44, 45, 48, 49, 50, 51, 56, 57]
set_option maxHeartbeats 4000000 in
theorem text_ok {T : Int → Int} {n a : Int} {A : Int → Int} (hn : 0 ≤ n ∧ n ≤ 900) (hTb : ∀ i : Int, 0 ≤ i → i < n → 0 ≤ T i ∧ T i ≤ 255) : ∃ s', LX n s' ∧ (∀ (D c : Nat) (v : sF), 75 ≤ D → (∀ i : Int, 0 ≤ i → i < n → iand (v 2 i) 255 = T i) → ∃ v', Ev D 42 [(2, 37), (0, n)] (c, v) none (c, v') ∧ (CX T n v' s' ∧ Off sRd v v')) ∧ (∀ (D c : Nat) (v : sF) (Q : sQ), 75 ≤ D → v 163 10 = a → v 167 = A → n ≤ v 163 5 → (∀ i : Int, 0 ≤ i → i < n → v 166 i = T i) → (∀ v', MS T n v' s' → Off [163, 167] v v' → v' 163 5 = 0 → (∀ i : Int, 15 < i → v' 163 i = v 163 i) → (s'.ft ≠ 0 → Q (some (0, -30 - s'.ft)) (c, up (up v' 163 13 s'.ft) 163 14 s'.fp)) ∧ (s'.ft = 0 → Wp (Ev D) 0 (fun _ => 0) 198 Q 154 [(2, 163), (9, 0), (0, 0)] [] c (up (up v' 163 13 0) 163 14 (-1)))) → Wp (Ev D) 0 (fun _ => 0) 198 Q 0 [(2, 163), (0, n), (9, 0)] [] c v) := by
  obtain ⟨s1, hs1⟩ : ∃ s1 : PS, s1 = (te T n 0, tkd T n 0, ts T n 0, tvl T n 0, tnum T n 0 a, 0, 0, -1, plA A) := ⟨_, rfl⟩
  have es1 : ∀ x y z : Int, stS T n ((0, x, y, z, a, 0, 0, -1, plA A) : PS) = s1 := fun x y z => hs1.symm
  have f1 : s1.ft = 0 := by rw [hs1]; rfl
  have al1 : s1.al = plA A := by rw [hs1]; rfl
  have ho1 : Ok0 n s1 := by rw [← es1 0 0 0]; exact (Ok0_st0 (T := T) hn (by show 0 ≤ (0 : Int) ∧ (0 : Int) ≤ n; omega) (by show 0 ≤ (0 : Int) ∧ (0 : Int) ≤ 4; omega)).1
  obtain ⟨s2, hs2⟩ : ∃ s2, s2 = tkS T n 0 s1 := ⟨_, rfl⟩
  have ho2 : Ok0 n s2 := by rw [hs2]; exact Ok0_tk ho1
  have al2 : s2.al = plA A := by rw [hs2, tkS_al.1]; exact al1
  obtain ⟨s3, hs3⟩ : ∃ s3, s3 = tnS T n 2 6 s2 := ⟨_, rfl⟩
  have ho3 : Ok0 n s3 := by rw [hs3]; exact Ok0_tn ho2
  have al3 : s3.al = plA A := by rw [hs3, tnS_al.1]; exact al2
  obtain ⟨s4, hs4⟩ : ∃ s4, s4 = alS (ua (plA A) 1 s2.num) s3 := ⟨_, rfl⟩
  have al4 : s4.al = ua (plA A) 1 s2.num := by rw [hs4]; rfl
  have hv3 : s3.ft = 0 → s2.vl = s2.num ∧ 2 ≤ s2.num ∧ s2.num ≤ 6 := fun q => by rw [hs3] at q; exact vl_num ho2 q
  have hst3 := ho3.2.2.2.1
  have e40 : s4.al 0 = 0 := by rw [al4, ua_n (by omega)]; exact pl_e A (by omega) (by omega) (by omega)
  have L4 : LO n s4 := by
    refine ⟨by rw [hs4]; exact ho3, fun q => ⟨?_, ?_⟩, ?_, ?_⟩
    · rw [al4]; exact pl_WF A (hv3 (by rw [hs4] at q; exact q)).2
    · rw [al4, ua_n (by omega), pl_e A (by omega) (by omega) (by omega), hs4]; exact hst3.1
    · rw [e40, hs4]; show 0 ≤ (0 : Int) ∧ 0 ≤ s3.st + 1; omega
    · rw [al4, ua_n (by omega), pl_e A (by omega) (by omega) (by omega)]; omega
  obtain ⟨b1, b2⟩ := en_ok (T := T) L4
  have al5 : (tkS T n 23 s4).al = s4.al := tkS_al.1
  obtain ⟨s', g1, gc, gm⟩ := lp_lines (T := T) (n := n) _ (enS T n s4) (Nat.le_refl _) ⟨b1, fun z => (b2 z).1⟩
  refine ⟨s', g1, fun D c v hD hT => ?_, fun D c v Q hD ha hA h5 hT hQ => ?_⟩
  · obtain ⟨d, rfl⟩ : ∃ d, D = d + 74 + 1 := ⟨D - 75, by omega⟩
    refine CV_of (loc42 n) (E42_0 n (kN (C_clearT (d := d + 72)) (fun v1 h1 => kN (C_clearN (d := d + 73)) (fun v2 h2 => ?_))))
    have o0 : Off [37] v (up (up v 37 2 0) 37 3 (-1)) := ((Off.rf _ v).up (by decide)).up (by decide)
    have o2 : Off [37, 38, 39, 40, 41, 42, 44, 45, 48, 49, 50, 51] v v2 := ((o0.wk (by decide)).tr (h1.1.wk (by decide))).tr (h2.1.wk (by decide))
    refine kN (C_readAll (d := d + 66) (T := T) hn (fun i i0 i1 => by rw [o2 2 (by decide)]; exact ⟨hT i i0 i1, hTb i i0 i1⟩)) (fun v3 h3 => ?_)
    obtain ⟨o3, hX, m, m1, m2, m3, m4, m5⟩ := h3
    have hc0 : CS T n v3 ((0, v3 56 5, v3 56 6, v3 56 7, a, 0, 0, -1, plA A) : PS) := by
      refine ⟨⟨rfl, rfl, rfl⟩, ⟨?_, ?_, fun z => absurd (show (0 : Int) ≤ -1 from z) (by decide)⟩, ⟨?_, fun _ => ⟨?_, fun k k0 k1 => ?_⟩⟩, hX.1, m, 0, m1, m2, by omega, m3, m4, m5, fun _ => rfl, fun z => ?_⟩
      · rw [o3 37 (by decide), h2.1 37 (by decide), h1.1 37 (by decide), up_ne _ (by decide), up_same]; rfl
      · rw [o3 37 (by decide), h2.1 37 (by decide), h1.1 37 (by decide), up_same]; rfl
      · rw [o3 42 (by decide), h2.1 42 (by decide), h1.2.2.2.1]; omega
      · rw [o3 42 (by decide), h2.1 42 (by decide), h1.2.2.2.1]; exact (pl_e A (k := 853) (by omega) (by omega) (by omega)).symm
      · have : k < plA A 853 := k1
        rw [pl_e A (by omega) (by omega) (by omega)] at this; omega
      · rw [← z] at m5; exact m5
    refine kN (C_step0 (d := d + 73) hc0 hn (by show 0 ≤ (0 : Int) ∧ (0 : Int) ≤ n; omega)) (fun v4 h4 => ?_)
    rw [es1] at h4
    have o4 : ∀ k : Int, k ∈ ([38, 39, 40, 41, 44, 45, 48, 49, 50, 51] : List Int) → v4 k = v2 k := fun k hk => by
      rw [h4.2 k (fun z => by simp only [List.mem_cons, List.not_mem_nil, or_false] at hk z; omega), o3 k (fun z => by simp only [List.mem_cons, List.not_mem_nil, or_false] at hk z; omega)]
    have e12 : ∀ k : Int, k ∈ ([38, 39, 40, 41, 44, 45] : List Int) → v2 k = v1 k := fun k hk => h2.1 k (fun z => by simp only [List.mem_cons, List.not_mem_nil, or_false] at hk z; omega)
    have hL1 : LC T n v4 s1 := by
      refine ⟨h4.1, fun _ => ?_, ?_⟩
      · rw [al1]
        unfold CT
        rw [o4 38 (by decide), o4 39 (by decide), o4 40 (by decide), o4 41 (by decide), o4 44 (by decide), o4 45 (by decide), o4 48 (by decide), o4 49 (by decide), o4 50 (by decide), o4 51 (by decide), e12 38 (by decide), e12 39 (by decide), e12 40 (by decide), e12 41 (by decide), e12 44 (by decide), e12 45 (by decide)]
        refine ⟨⟨h1.2.1.1, ?_, ?_⟩, fun p p0 p1 => ?_, fun l hl => ⟨fun _ => ?_, fun z => absurd (pl_e A (by omega) (by omega) (by omega)) z⟩, ⟨?_, ?_⟩, fun p p0 p1 => ?_, fun i i0 i1 => ?_⟩
        · rw [pl_e A (by omega) (by omega) (by omega)]; exact h1.2.1.2.1
        · rw [pl_e A (by omega) (by omega) (by omega)]; exact h1.2.1.2.2
        · rw [pl_e A (by omega) (by omega) (by omega), pl_e A (by omega) (by omega) (by omega), pl_e A (by omega) (by omega) (by omega)]; exact h1.2.2.1 p p0 p1
        · have := h1.2.2.2.2 l (by omega) (by omega); omega
        · rw [pl_e A (by omega) (by omega) (by omega)]; exact h2.2.1.1
        · rw [pl_e A (by omega) (by omega) (by omega)]; exact h2.2.1.2
        · rw [pl_e A (by omega) (by omega) (by omega), pl_e A (by omega) (by omega) (by omega)]; exact h2.2.2.1 p p0 p1
        · rw [pl_e A (by omega) (by omega) (by omega)]; exact h2.2.2.2 i i0 i1
      · unfold DB
        rw [o4 38 (by decide), e12 38 (by decide), h1.2.1.1, h1.2.1.2.1, h1.2.1.2.2]; omega
    refine kN (LC.take (d := d + 72) hL1 ho1 0) (fun v5 h5 => ?_)
    rw [← hs2] at h5
    refine kI (LC.takeN (d := d + 71) h5.1 ho2 2 6) (fun v6 h6 => ?_)
    rw [← hs3] at h6 ⊢
    obtain ⟨r, hr⟩ : ∃ r, r = (if s3.ft = 0 then s2.vl else 0) := ⟨_, rfl⟩
    have hrr : 0 ≤ r ∧ r ≤ 999 := by
      rw [hr]
      split
      · rename_i q; have := hv3 q; omega
      · omega
    rw [← hr]
    have hL4 : LC T n (up v6 38 0 r) s4 := by
      rw [hs4]
      refine ⟨h6.1.1.al (fun b hb => up_off b (by omega)) (fun _ k hk => by rw [ua_n (by omega), al3]), fun q => ?_, ?_⟩
      · have q' : s3.ft = 0 := q
        have e : r = s2.num := by rw [hr, if_pos q']; exact (hv3 q').1
        have hct := h6.1.2.1 q'
        rw [al3] at hct
        rw [e]
        exact CT_up hct (Or.inl ⟨rfl, Or.inr (Or.inr ⟨rfl, rfl⟩)⟩)
      · unfold DB
        rw [up_same, up_ne _ (by decide), up_ne _ (by decide)]
        exact ⟨hrr, h6.1.2.2.2⟩
    refine kN (LC.take (d := d + 72) hL4 L4.1 23) (fun v7 h7 => ?_)
    have hE : CS T n (up v7 38 2 1) (enS T n s4) := h7.1.1.al (fun b hb => up_off b (by omega)) (fun _ k hk => ua_n (by omega))
    have off7 : Off sRd v (up v7 38 2 1) := (((((((o2.wk (by decide)).tr (o3.wk (by decide))).tr (h4.2.wk (by decide))).tr (h5.2.wk (by decide))).tr (h6.2.wk (by decide))).up (by decide)).tr (h7.2.wk (by decide))).up (by decide)
    refine gc (d + 74) c _ 0 _ (by omega) hE (fun z => ⟨hE, fun _ => ?_, ?_⟩) (fun z => b1.2.2.2.1.1) (by omega) (fun v' x y => ⟨rfl, _, rfl, x, off7.tr (y.wk (by decide))⟩)
    · have z' : (tkS T n 23 s4).ft = 0 := z
      have hct := h7.1.2.1 z'
      have := CT_up (a := 38) (i := 2) (k := 0) (x := 1) hct (Or.inl ⟨rfl, Or.inr (Or.inl ⟨rfl, rfl⟩)⟩)
      show CT _ (ua (tkS T n 23 s4).al 0 ((tkS T n 23 s4).al 0 + 1))
      rw [show (tkS T n 23 s4).al 0 + 1 = 1 by rw [al5, e40]; rfl]
      exact this
    · unfold DB
      rw [up_ne _ (by decide), up_ne _ (by decide), up_same]
      exact ⟨h7.1.2.2.1, h7.1.2.2.2.1, by omega⟩
  · obtain ⟨d, rfl⟩ : ∃ d, D = d + 75 := ⟨D - 75, by omega⟩
    refine E198_0 n ?_
    refine kI0 (P := fun r c1 v2 => brb (!decide (r = 0)) _ _) (X := 1) ?_ ?_
    · have := C_within (d := d + 74) (c := c) (v := up v 163 0 0) n 0 (v 163 5)
      rw [if_pos ⟨hn.1, h5⟩] at this
      exact this
    refine brbN (fun _ => kN (C_plain (d := d + 74) (a := 167) (by decide) (fun x x0 x1 => ?_)) (fun v1 h1 => ?_)) (fun z => absurd z (by decide))
    · exact inbI x0 (by rw [show lnT 167 = 1754 by decide]; exact x1)
    obtain ⟨w0, hw0⟩ : ∃ w0, w0 = up (up (up (up (up v 163 0 0) 163 8 n) 163 5 0) 163 7 0) 163 11 0 := ⟨_, rfl⟩
    rw [← hw0] at h1
    have ow : Off [163] v w0 := by rw [hw0]; exact (((((Off.rf _ v).up (by decide)).up (by decide)).up (by decide)).up (by decide)).up (by decide)
    have i8 : w0 163 8 = n := by rw [hw0, up_ne _ (by decide), up_ne _ (by decide), up_ne _ (by decide), up_same]
    have i5 : w0 163 5 = 0 := by rw [hw0, up_ne _ (by decide), up_ne _ (by decide), up_same]
    have i7 : w0 163 7 = 0 := by rw [hw0, up_ne _ (by decide), up_same]
    have i11 : w0 163 11 = 0 := by rw [hw0, up_same]
    have i10 : w0 163 10 = a := by rw [hw0, up_ne _ (by decide), up_ne _ (by decide), up_ne _ (by decide), up_ne _ (by decide), up_ne _ (by decide)]; exact ha
    have iX : ∀ i : Int, 15 < i → w0 163 i = v 163 i := fun i hi => by rw [hw0, up_ne _ (by omega), up_ne _ (by omega), up_ne _ (by omega), up_ne _ (by omega), up_ne _ (by omega)]
    have h13 : v1 163 = w0 163 := h1.1 163 (by decide)
    have htm : TM v1 T n := ⟨by rw [h13]; exact i8, hn.1, hn.2, fun i i0 i1 => ⟨by rw [h1.1 166 (by decide), ow 166 (by decide)]; exact hT i i0 i1, hTb i i0 i1⟩⟩
    obtain ⟨v2, e1, e2, e3, e4, e5, e6⟩ := C_next (d := d + 69) (c := c) (p := 0) (a := a) htm ⟨by omega, hn.1⟩ (by rw [h13]; exact i7) (by rw [h13]; exact i10)
    have hM2 : MS T n v2 s1 := by
      rw [hs1]
      refine ⟨htm.fx e2, ⟨e5, e3, e4, e6⟩, ⟨?_, fun z => absurd rfl z⟩, fun z => absurd (show (0 : Int) ≤ -1 from z) (by decide), ?_⟩
      · rw [e2.2 11 (by decide) (by decide) (by decide) (by decide), h13, i11]; rfl
      · rw [e2.1 167 (by decide), h1.2, ow 167 (by decide), hA]; rfl
    have F2 : FR w0 v2 := FR.tr (FR.o7 h1.1) e2.fm
    refine ⟨c, v2, e1, ?_⟩
    refine tk_m (d := d + 68) hM2 ho1 0 (by omega) (by decide) (fun v3 h3 f3 => ?_)
    rw [← hs2] at h3
    refine kI (C_takesS (d := d + 68) h3 ho2 2 6) (fun v4 h4 => ?_)
    rw [← hs3] at h4
    have hof : Off [167] v4 (up v4 167 1 s2.num) := (Off.rf _ v4).up (by decide)
    have hM4 : MS T n (up v4 167 1 s2.num) s4 := by rw [hs4]; exact h4.1.al hof (by rw [up_ua, h4.1.2.2.2.2, al3])
    refine kN (M_ends1 (d := d + 67) hM4 L4.1 (by rw [e40]; omega)) (fun v5 h5 => ?_)
    have F5 : FR w0 v5 := (((F2.tr f3).tr h4.2).tr (FR.o7 hof)).tr h5.2
    refine gm (d + 75) c v5 Q (by omega) h5.1 (fun v' x y => ?_)
    have F6 := F5.tr y
    exact hQ v' x ((ow.wk (by decide)).tr F6.1) (by rw [F6.2 5 (by omega)]; exact i5) (fun i hi => by rw [F6.2 i (by omega)]; exact iX i hi)
end Par12
