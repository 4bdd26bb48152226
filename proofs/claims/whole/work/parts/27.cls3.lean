section Cls3
variable {d c : Nat}
/-- one whom Ways has reckoned -/
def rck (al : Int → Int) (p only j : Int) : Prop := j ≠ p ∧ (only = -1 ∨ al (30 + j) = only)
def aimI (al : Int → Int) (p only k : Int) (v : sF) : Prop := ∀ j : Int, 0 ≤ j → j < k → v 141 j = al (30 + j) ∧ (rck al p only j → v 142 j = mnA al j p ∧ v 143 (j * 6 + al (30 + j)) = wlA al j p) ∧ (¬ rck al p only j → v 142 j = 0)
theorem aim_loop {Q : sQ} {al : Int → Int} {a p only : Int} (v0 : sF) (ha : aN a) (hT : okT al) (hN : okN al) (hR : CR v0 a al) (h1 : v0 140 1 = a) (h2 : v0 140 2 = p) (hp : 0 ≤ p ∧ p < 6) (hQ : ∀ v', Off [7, 11, 12, 141, 142, 143] v0 v' → aimI al p only (al 2) v' → Q none (c, v')) :
    ∀ (m : Nat) (k : Int) (v : sF), 0 ≤ k → k + m = al 2 → Off [7, 11, 12, 141, 142, 143] v0 v → aimI al p only k v → Wp (Ev (d + 4)) 0 (fun _ => 0) 88 Q 31 [(2, 140), (9, 0), (0, p), (0, only), (0, k), (9, 0)] [] c v := by
  have hP := hT.2.1
  have hnt := ha.nt
  have hN1 := hT.1
  have h31 : v0 3 1 = al 2 := hR.1.2.1
  intro m
  induction m with
  | zero =>
    intro k v hk0 hk ho hI
    have e3 : v 3 = v0 3 := ho 3 (by decide)
    have hkk : k = al 2 := by omega
    rw [hkk] at hI
    exact E88_31 _ _ _ (brbI (fun h => hQ v ho hI) (fun h => absurd h (by rw [e3]; omega)))
  | succ m ih =>
    intro k v hk0 hk ho hI
    have e3 : v 3 = v0 3 := ho 3 (by decide)
    have e140 : v 140 = v0 140 := ho 140 (by decide)
    have hRv : CR v a al := hR.w ha (ho.wk (by decide))
    have hpl : v (a + 1) k = al (30 + k) := (hRv.2.2.2.1 k (by omega) (by omega)).1
    have hplr := (hN.1 k (by omega) (by omega)).1
    have hadd : ∀ {v' : sF}, Off [7, 11, 12, 141, 142, 143] (up (up v 141 k (al (30 + k))) 142 k 0) v' → v' 141 = up (up v 141 k (al (30 + k))) 142 k 0 141 → (∀ j, j ≠ k → v' 142 j = v 142 j) → (∀ j, (j < k * 6 ∨ k * 6 + 6 ≤ j) → v' 143 j = v 143 j) → (rck al p only k → v' 142 k = mnA al k p ∧ v' 143 (k * 6 + al (30 + k)) = wlA al k p) → (¬ rck al p only k → v' 142 k = 0) → Wp (Ev (d + 4)) 0 (fun _ => 0) 88 Q 31 [(2, 140), (9, 0), (0, p), (0, only), (0, k + 1), (9, 0)] [] c v' := by
      intro v' g1 g2 g3 g4 g5 g6
      refine ih (k + 1) v' (by omega) (by omega) (((ho.up (by decide)).up (by decide)).tr g1) (fun j j0 j1 => ?_)
      by_cases hj : j = k
      · subst hj
        exact ⟨by rw [g2, up_ne2 _ (by decide), up_same], g5, g6⟩
      · have hI := hI j j0 (by omega)
        have hr := (hN.1 j j0 (by omega)).1
        refine ⟨by rw [g2, up_ne2 _ (by decide), up_ne _ hj]; exact hI.1, fun q => ?_, fun q => ?_⟩
        · rw [g3 j hj, g4 _ (by omega)]; exact hI.2.1 q
        · rw [g3 j hj]; exact hI.2.2 q
    have hdo : rck al p only k → ∃ r3 c1 v2, Ev (d + 4) 90 [(2, 140), (0, k)] (c, (up (up v 141 k (al (30 + k))) 142 k 0)) (some (0, r3)) (c1, v2) ∧ (∃ r6 c4 v5, Ev (d + 4) 91 [(2, 140), (0, k), (0, r3)] (c1, v2) (some (0, r6)) (c4, v5) ∧ (chk (inb k 6) (rngc (k * 6) (rngc ((k * 6) + (al (30 + k))) (∃ r9 c7 v8, Ev (d + 4) 93 [(2, 140), (0, k), (0, al (30 + k))] (c4, (up v5 142 k r6)) (some (0, r9)) (c7, v8) ∧ (chk (inb ((k * 6) + (al (30 + k))) 36) (rngc (k + 1) (Wp (Ev (d + 4)) 0 (fun _ => 0) 88 Q 31 [(2, 140), (9, 0), (0, p), (0, only), (0, k + 1), (9, 0)] [] c7 (up v8 143 ((k * 6) + (al (30 + k))) r9))))))))) := by
      intro hrk
      have hO1 : Off [141, 142] v (up (up v 141 k (al (30 + k))) 142 k 0) := ((Off.rf _ v).up (by decide)).up (by decide)
      have hR1 : CR (up (up v 141 k (al (30 + k))) 142 k 0) a al := hRv.w ha (hO1.wk (by decide))
      have hcr := hN.2 (6 * k + p) (by omega) (by omega)
      rw [show 42 + (6 * k + p) = 42 + 6 * k + p by omega] at hcr
      refine ⟨_, c, _, C_careOf ha hR1 (by rw [hO1 140 (by decide), e140]; exact h1) (by rw [hO1 140 (by decide), e140]; exact h2) (by omega) hp, ?_⟩
      obtain ⟨v5, hE5, hO5⟩ := C_mindWith (d := d) (c := c) (q := k) (care := al (42 + 6 * k + p)) ha hT hN hR1 (by rw [hO1 140 (by decide), e140]; exact h1) (by rw [hO1 140 (by decide), e140]; exact h2) (by omega) hp hcr
      rw [mnB_e hT] at hE5
      refine ⟨_, c, v5, hE5, chkI (inbI (by omega) (by omega)) (rngI (by omega) (rngI (by omega) ?_))⟩
      have hO6 : Off [7, 11, 12, 142] (up (up v 141 k (al (30 + k))) 142 k 0) (up v5 142 k (mnA al k p)) := (hO5.wk (by decide)).up (by decide)
      have hR6 : CR (up v5 142 k (mnA al k p)) a al := hR1.w ha (hO6.wk (by decide))
      obtain ⟨v8, hE8, hO8⟩ := C_goalFrom (d := d) (c := c) (q := k) (at1 := al (30 + k)) ha hT hN hR6 (by rw [hO6 140 (by decide), hO1 140 (by decide), e140]; exact h1) (by rw [hO6 140 (by decide), hO1 140 (by decide), e140]; exact h2) (by omega) hp (by omega)
      rw [wlB_e hT] at hE8
      refine ⟨_, c, v8, hE8, chkI (inbI (by omega) (by omega)) (rngI (by omega) ?_)⟩
      refine hadd (((hO6.wk (by decide)).tr (hO8.wk (by decide))).up (by decide)) ?_ (fun j hj => ?_) (fun j hj => ?_) (fun _ => ⟨?_, ?_⟩) (fun q => absurd hrk q)
      · rw [up_off 141 (by decide), hO8 141 (by decide), up_off 141 (by decide), hO5 141 (by decide)]
      · rw [up_off 142 (by decide), hO8 142 (by decide), up_ne _ hj, hO5 142 (by decide), up_ne _ hj, up_off 142 (by decide)]
      · rw [up_ne _ (by omega), hO8 143 (by decide), up_off 143 (by decide), hO5 143 (by decide), up_off 143 (by decide), up_off 143 (by decide)]
      · rw [up_off 142 (by decide), hO8 142 (by decide), up_same]
      · rw [up_same]
    refine E88_31 _ _ _ (brbI (fun h => absurd h (by rw [e3]; omega)) (fun h => ?_))
    rw [e140, h1]
    refine cktI (beqI hnt.1) (cktI (beqI hnt.2.1.1) ?_)
    rw [hnt.2.1.2, hpl]
    refine chkI (inbI (by omega) (by omega)) (chkI (inbI (by omega) (by omega)) (chkI (inbI (by omega) (by omega)) (brbI (fun h3 => rngI (by omega) ?_) (fun h3 => brbI (fun h4 => hdo ⟨h3, Or.inl h4⟩) (fun h4 => brbN (fun h5 => rngI (by omega) ?_) (fun h5 => hdo ⟨h3, Or.inr h5⟩))))))
    · exact hadd (Off.rf _ _) rfl (fun j hj => by rw [up_ne _ hj, up_off 142 (by decide)]) (fun j _ => by rw [up_off 143 (by decide), up_off 143 (by decide)]) (fun q => absurd h3 q.1) (fun _ => up_same _ _ _ _)
    · exact hadd (Off.rf _ _) rfl (fun j hj => by rw [up_ne _ hj, up_off 142 (by decide)]) (fun j _ => by rw [up_off 143 (by decide), up_off 143 (by decide)]) (fun q => q.2.elim (fun q => absurd q h4) (fun q => absurd q h5)) (fun _ => up_same _ _ _ _)
/-- Ways is aimed at p, by the Now at a -/
def WR (v : sF) (a : Int) (al : Int → Int) (p only : Int) : Prop := v 140 1 = a ∧ v 140 2 = p ∧ v 140 3 = al (30 + p) ∧ v 140 4 = -1 ∧ aimI al p only (al 2) v
theorem C_aimAt {v : sF} {a p only : Int} {al : Int → Int} (ha : aN a) (hT : okT al) (hN : okN al) (hR : CR v a al) (hp : 0 ≤ p ∧ p < 6) : ∃ v', Ev (d + 5) 88 [(2, 140), (2, a), (0, p), (0, only)] (c, v) none (c, v') ∧ Off cW v v' ∧ WR v' a al p only := by
  have hnt := ha.nt
  have hpl : v (a + 1) p = al (30 + p) := (hR.2.2.2.1 p hp.1 hp.2).1
  have ha1 : a + 1 ≠ 140 := by rcases ha with rfl | rfl <;> decide
  refine CV_of (loc88 a p only) (E88_0 a p only (cktI (beqI hnt.1) (cktI (beqI hnt.2.1.1) ?_)))
  rw [hnt.2.1.2, up_ne2 _ ha1, up_ne2 _ ha1, hpl]
  have hO : Off [140] v (up (up (up (up v 140 1 a) 140 2 p) 140 3 (al (30 + p))) 140 4 (-1)) := ((((Off.rf _ v).up (by decide)).up (by decide)).up (by decide)).up (by decide)
  have hR1 := hR.w ha (hO.wk (by decide))
  refine chkI (inbI hp.1 hp.2) (aim_loop _ ha hT hN hR1 (by simp [up]) (by simp [up]) hp (fun v' ho hI => ⟨rfl, _, rfl, (hO.wk (by decide)).tr (ho.wk (by decide)), ?_⟩) (al 2).toNat 0 _ (by decide) (by have := hT.2.1; omega) (Off.rf _ _) (fun j j0 j1 => absurd j0 (by omega)))
  have e := ho 140 (by decide)
  unfold WR
  rw [e]
  exact ⟨by simp [up], by simp [up], by simp [up], by simp [up], hI⟩
theorem C_aim {v : sF} {a p : Int} {al : Int → Int} (ha : aN a) (hT : okT al) (hN : okN al) (hR : CR v a al) (hp : 0 ≤ p ∧ p < 6) : ∃ v', Ev (d + 6) 87 [(2, 140), (2, a), (0, p)] (c, v) none (c, v') ∧ Off cW v v' ∧ WR v' a al p (-1) := by
  obtain ⟨v1, hE, hO, hW⟩ := C_aimAt (d := d) (c := c) (only := -1) ha hT hN hR hp
  exact CV_of (loc87 a p) (E87_0 a p ⟨c, v1, hE, rfl, _, rfl, hO, hW⟩)
/-- what Ways' rows say: who sends, where it goes -/
def sdW (v : sF) (place but : Int) : Int := (bst (fun q => decide (q ≠ v 140 2) && decide (q ≠ but) && decide (v 141 q = place)) (fun q => v 142 q) (v 3 1).toNat).1
def nxW (v : sF) (place : Int) : Int := if place = v 140 3 then place else if sdW v place (v 140 4) = -1 then place else v 143 (sdW v place (v 140 4) * 6 + place)
theorem bst_2 (ok : Int → Bool) (mi : Int → Int) (n : Nat) : ((bst ok mi n).1 = -1 ∧ (bst ok mi n).2 = 0) ∨ (0 ≤ (bst ok mi n).1 ∧ (bst ok mi n).2 = mi (bst ok mi n).1 ∧ 0 < (bst ok mi n).2 ∧ ok (bst ok mi n).1 = true) := by
  induction n with
  | zero => left; exact ⟨rfl, rfl⟩
  | succ n ih =>
    unfold bst
    split
    · rename_i h
      have := bst_rng ok mi n
      right
      exact ⟨by dsimp only; omega, rfl, by dsimp only; omega, h.1⟩
    · exact ih
set_option maxRecDepth 20000 in
theorem best_loop {Q : sQ} {place but : Int} (v : sF) (hP : 0 ≤ v 3 1 ∧ v 3 1 ≤ 6) (hQ : Q (some (0, sdW v place but)) (c, v)) :
    ∀ (m k : Nat), (k : Int) + m = v 3 1 → Wp (Ev d) 0 (fun _ => 0) 94 Q 5 [(2, 140), (0, place), (0, but), (0, (bst (fun q => decide (q ≠ v 140 2) && decide (q ≠ but) && decide (v 141 q = place)) (fun q => v 142 q) k).1), (0, (k : Int)), (9, 0)] [] c v := by
  intro m
  induction m with
  | zero =>
    intro k hk
    refine E94_5 _ _ _ _ (brbI (fun h => ?_) (fun h => absurd h (by omega)))
    unfold sdW at hQ
    rw [show (v 3 1).toNat = k by omega] at hQ
    exact hQ
  | succ m ih =>
    intro k hk
    have ihk := ih (k + 1) (by omega)
    have hr := bst_rng (fun q => decide (q ≠ v 140 2) && decide (q ≠ but) && decide (v 141 q = place)) (fun q => v 142 q) k
    have hr2 := bst_2 (fun q => decide (q ≠ v 140 2) && decide (q ≠ but) && decide (v 141 q = place)) (fun q => v 142 q) k
    have hs : bst (fun q => decide (q ≠ v 140 2) && decide (q ≠ but) && decide (v 141 q = place)) (fun q => v 142 q) (k + 1) = if (decide ((k : Int) ≠ v 140 2) && decide ((k : Int) ≠ but) && decide (v 141 k = place)) = true ∧ (bst (fun q => decide (q ≠ v 140 2) && decide (q ≠ but) && decide (v 141 q = place)) (fun q => v 142 q) k).2 < v 142 k then ((k : Int), v 142 k) else bst (fun q => decide (q ≠ v 140 2) && decide (q ≠ but) && decide (v 141 q = place)) (fun q => v 142 q) k := rfl
    rw [hs] at ihk
    generalize bst (fun q => decide (q ≠ v 140 2) && decide (q ≠ but) && decide (v 141 q = place)) (fun q => v 142 q) k = b at *
    refine E94_5 _ _ _ _ (brbI (fun h => absurd h (by omega)) (fun h => ?_))
    refine brbI (fun h1 => rngI (by omega) ?_) (fun h1 => brbI (fun h2 => rngI (by omega) ?_) (fun h2 => chkI (inbI (by omega) (by omega)) (brbN (fun h3 => rngI (by omega) ?_) (fun h3 => chkI (inbI (by omega) (by omega)) (brbI (fun h4 => rngI (by omega) ?_) (fun h4 => brbI (fun h5 => rngI (by omega) ?_) (fun h5 => chkI (inbI (by omega) (by omega)) (chkI (inbI (by omega) (by omega)) (brbI (fun h6 => rngI (by omega) ?_) (fun h6 => rngI (by omega) ?_))))))))))
    · rw [if_neg (by simp [h1])] at ihk; exact ihk
    · rw [if_neg (by simp [h2])] at ihk; exact ihk
    · rw [if_neg (by simp [h3])] at ihk; exact ihk
    · rw [if_neg (by intro q; omega)] at ihk; exact ihk
    · rw [if_pos ⟨by simp [h1, h2, h3], by omega⟩] at ihk; exact ihk
    · rw [if_neg (by intro q; rcases hr2 with q2 | q2 <;> omega)] at ihk; exact ihk
    · rw [if_pos ⟨by simp [h1, h2, h3], by rcases hr2 with q2 | q2 <;> omega⟩] at ihk; exact ihk
theorem C_bestAt {v : sF} {place but : Int} (hP : 0 ≤ v 3 1 ∧ v 3 1 ≤ 6) : Ev (d + 1) 94 [(2, 140), (0, place), (0, but)] (c, v) (some (0, sdW v place but)) (c, v) := Ev_of (loc94 place but) (E94_0 place but (best_loop v hP ⟨rfl, rfl⟩ (v 3 1).toNat 0 (by omega)))
theorem sdW_rng (v : sF) (place but : Int) (h : 0 ≤ v 3 1) : -1 ≤ sdW v place but ∧ sdW v place but < v 3 1 := by
  have := bst_rng (fun q => decide (q ≠ v 140 2) && decide (q ≠ but) && decide (v 141 q = place)) (fun q => v 142 q) (v 3 1).toNat
  unfold sdW
  omega
theorem C_nextOf {v : sF} {place : Int} (hP : 0 ≤ v 3 1 ∧ v 3 1 ≤ 6) (hp : 0 ≤ place ∧ place < 6) : Ev (d + 2) 95 [(2, 140), (0, place)] (c, v) (some (0, nxW v place)) (c, v) := by
  have hr := sdW_rng v place (v 140 4) hP.1
  refine Ev_of (loc95 place) (E95_0 place (brbN (fun h => ⟨_, c, v, C_bestAt hP, brbN (fun h2 => rngI (by omega) (rngI (by omega) (chkI (inbI (by omega) (by omega)) ⟨?_, rfl⟩))) (fun h2 => ⟨?_, rfl⟩)⟩) (fun h => ⟨?_, rfl⟩)))
  · unfold nxW; rw [if_neg h, if_neg h2]
  · unfold nxW; rw [if_neg h, if_pos h2]
  · unfold nxW; rw [if_pos h]
end Cls3
