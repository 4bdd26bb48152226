section Mov3
variable {d c : Nat}
/-- placements that go on from w, those before q being as they are -/
def goM (al : Int → Int) (p q : Int) (w w' : Int → Int) : Prop := adM al p (mMv al p) w' ∧ ∀ r : Int, 0 ≤ r → r < q → w' r = w r
def cmW (al : Int → Int) (p x : Int) (w : Int → Int) : Prop := q_com (pl al w) (-1) p x ≠ -1
/-- what settle leaves -/
def stR2 (al : Int → Int) (p x : Int) (m : Nat) (q left : Int) (w : Int → Int) (r : Int) (v' : sF) : Prop := (r = 1 ∧ ∃ w', PX v' al p w' ∧ goM al p q w w' ∧ mvc al w' m q = left ∧ cmW al p x w' ∧ ∀ w'', goM al p q w w'' → mvc al w'' m q = left → cmW al p x w'' → lx w' w'' m q) ∨ (r = 0 ∧ PX v' al p w ∧ ∀ w'', goM al p q w w'' → mvc al w'' m q = left → ¬ cmW al p x w'')
theorem pl_eq {al w w' : Int → Int} (h : ∀ r : Int, 0 ≤ r → r < 6 → w' r = w r) : pl al w' = pl al w := by
  funext k
  unfold pl
  split
  · exact h _ (by omega) (by omega)
  · rfl
theorem CB_of {d y : Nat} {as ls : List sV} {c : Nat} {v : sF} {Post : Int → sF → Prop} (hl : loc0 as (mMax y) = ls) (h : Wp (Ev d) 0 (fun _ => 0) y (fun r μ => ∃ x v', r = some (0, x) ∧ μ = (c, v') ∧ Post x v') 0 ls [] c v) : ∃ x v', Ev (d + 1) y as (c, v) (some (0, x)) (c, v') ∧ Post x v' := by
  subst hl
  obtain ⟨r, c', v', h1, x, v2, h2, h3, h4⟩ := Cl_of (Q := fun r c' v' => ∃ x v2, r = some (0, x) ∧ (c', v') = (c, v2) ∧ Post x v2) h
  subst h2; cases h3
  exact ⟨x, v', h1, h4⟩
theorem settle0 {v : sF} {al w : Int → Int} {p x q left : Int} (hS : Sn al) (hp : 0 ≤ p ∧ p < 6) (hx : 0 ≤ x ∧ x < al 1) (hq : q = al 2) (h : PX v al p w) (hw : adM al p (mMv al p) w) (h5 : v 145 2 = x) : ∃ r v', Ev (d + 4) 66 [(2, 145), (0, q), (0, left)] (c, v) (some (0, r)) (c, v') ∧ Off [141] v v' ∧ stR2 al p x 0 q left w r v' := by
  have h2 := hS.1.2.1
  have hG := h.g hS.1 hp hw.1 (hw.p hp)
  have hN := hG.n (Sn_pl hS hw.1).1 hp
  rw [pl_n (show (1 : Int) < 30 ∨ (36 : Int) ≤ 1 by omega), pl_at hp, hw.p hp] at hN
  have hE := C_dtg (d := d) (c := c) hN hx
  have hqc : cmo (nxA (pl al w) (-1) p) (al (30 + p)) (al 1).toNat 0 x = q_com (pl al w) (-1) p x := by
    unfold q_com
    rw [pl_at hp, hw.p hp, pl_n (show (1 : Int) < 30 ∨ (36 : Int) ≤ 1 by omega)]
  rw [hqc] at hE
  have hsame : ∀ w'', goM al p q w w'' → q_com (pl al w'') (-1) p x = q_com (pl al w) (-1) p x := fun w'' hg => by
    rw [pl_eq (w' := w'') (w := w) (fun r r0 r1 => ?_)]
    by_cases e : r < q
    · exact hg.2 r r0 e
    · have e1 : w'' r = al (30 + r) := Classical.byContradiction fun z => by have := (hg.1.2 r r0 r1 z).1; omega
      have e2 : w r = al (30 + r) := Classical.byContradiction fun z => by have := (hw.2 r r0 r1 z).1; omega
      rw [e1, e2]
  refine CB_of (loc66 q left) (E66_0 q left ?_)
  rw [h.1.2.1, h5]
  refine brbI (fun z => absurd z (by omega)) (fun _ => brbN (fun z => ⟨0, v, rfl, rfl, Off.rf _ v, Or.inr ⟨rfl, h, fun w'' _ hm _ => z hm.symm⟩⟩) (fun z => ⟨_, c, v, hE, brbI (fun z2 => ⟨0, v, rfl, rfl, Off.rf _ v, Or.inr ⟨rfl, h, fun w'' hg _ hc => hc ((hsame w'' hg).trans z2)⟩⟩) (fun z2 => ⟨1, v, rfl, rfl, Off.rf _ v, Or.inl ⟨rfl, w, h, ⟨hw, fun _ _ _ => rfl⟩, z.symm, z2, fun w'' _ _ _ => trivial⟩⟩)⟩))
theorem set_loop {v0 : sF} {al w : Int → Int} {p x q left fl : Int} {m : Nat} {Q : sQ} (hS : Sn al) (hp : 0 ≤ p ∧ p < 6) (hq : 0 ≤ q ∧ q < al 2) (hqm : q + (m + 1 : Nat) = al 2) (hl : 0 ≤ left ∧ left ≤ 10) (hw : adM al p (mMv al p) w) (hwq : ∀ r : Int, q ≤ r → r < 6 → w r = al (30 + r)) (hfl : fl ≠ 0 ↔ (0 < left ∧ q ≠ p ∧ 0 < mnA al q p)) (h5 : v0 145 2 = x)
    (ih : ∀ (left : Int) (v : sF) (w : Int → Int), 0 ≤ left ∧ left ≤ 10 → PX v al p w → adM al p (mMv al p) w → (∀ r : Int, q + 1 ≤ r → r < 6 → w r = al (30 + r)) → v 145 2 = x → ∃ r v', Ev (d + 1) 66 [(2, 145), (0, q + 1), (0, left)] (c, v) (some (0, r)) (c, v') ∧ Off [141] v v' ∧ stR2 al p x m (q + 1) left w r v')
    (hQ : ∀ r v', Off [141] v0 v' → stR2 al p x (m + 1) q left w r v' → Q (some (0, r)) (c, v')) :
    ∀ (n : Nat) (k : Int) (v : sF) (y : Int), 0 ≤ k → k + n = al 1 → Off [141] v0 v → PX v al p (ua w q y) → (∀ w'', goM al p q w w'' → w'' q < k → mvc al w'' (m + 1) q = left → ¬ cmW al p x w'') → Wp (Ev (d + 1)) 0 (fun _ => 0) 66 Q 68 [(2, 145), (0, q), (0, left), (0, w q), (0, fl), (0, k)] [] c v := by
  have h1 := hS.1.1
  have h2 := hS.1.2.1
  have hwqq : w q = al (30 + q) := hwq q (by omega) (by omega)
  have hatq := (hS.2.1 q hq.1 (by omega)).1
  intro n
  induction n with
  | zero =>
    intro k v y k0 hk ho hP hno
    refine E66_68 _ _ _ _ _ ?_
    rw [hP.1.1]
    refine brbI (fun _ => chkI (inbI (by omega) (by omega)) (hQ 0 _ (ho.up (by decide)) (Or.inr ⟨rfl, ?_, fun w'' hg hm hc => ?_⟩))) (fun z => absurd z (by omega))
    · have := hP.up q (w q)
      rw [ua_ua, ua_id] at this
      exact this
    · have := hg.1.1 q hq.1 (by omega)
      exact hno w'' hg (by omega) hm hc
  | succ n ihn =>
    intro k v y k0 hk ho hP hno
    -- going in with k
    have hin : ∀ l2, 0 ≤ l2 ∧ l2 ≤ 10 → l2 = left - (if k = al (30 + q) then 0 else 1) → (k ≠ al (30 + q) → q ≠ p ∧ 0 < mnA al q p) → ∃ r6 c4 v5, Ev (d + 1) 66 [(2, 145), (0, q + 1), (0, l2)] (c, up v 141 q k) (some (0, r6)) (c4, v5) ∧ (brb (decide (r6 = 0)) (rngc (k + 1) (Wp (Ev (d + 1)) 0 (fun _ => 0) 66 Q 68 [(2, 145), (0, q), (0, left), (0, w q), (0, fl), (0, k + 1)] [] c4 v5)) (Q (some (0, 1)) (c4, v5))) := by
      intro l2 hl2 hl3 hmv
      have hP2 := hP.up q k
      rw [ua_ua] at hP2
      have hw2 : adM al p (mMv al p) (ua w q k) := by
        refine ⟨fun r r0 r1 => ?_, fun r r0 r1 hne => ?_⟩
        · by_cases e : r = q
          · rw [e, ua_s]; omega
          · rw [ua_n e]; exact hw.1 r r0 r1
        · by_cases e : r = q
          · subst e
            rw [ua_s] at hne
            exact ⟨hq.2, hmv hne⟩
          · rw [ua_n e] at hne; exact hw.2 r r0 r1 hne
      obtain ⟨r, v', hE, hO, hres⟩ := ih l2 (up v 141 q k) (ua w q k) hl2 hP2 hw2 (fun r r0 r1 => by rw [ua_n (by omega)]; exact hwq r (by omega) r1) (by rw [up_ne2 _ (by decide), ho 145 (by decide)]; exact h5)
      have ho2 : Off [141] v0 v' := (ho.up (by decide)).tr hO
      have hmvc : ∀ w'', w'' q = k → (mvc al w'' (m + 1) q = left ↔ mvc al w'' m (q + 1) = l2) := fun w'' hk2 => by
        rw [mvc_s, hk2]
        by_cases e : k = al (30 + q)
        · rw [if_pos e]; rw [if_pos e] at hl3; omega
        · rw [if_neg e]; rw [if_neg e] at hl3; omega
      have hgo : ∀ w'', w'' q = k → goM al p q w w'' → goM al p (q + 1) (ua w q k) w'' := fun w'' hk2 hg => ⟨hg.1, fun r r0 r1 => by
        by_cases e : r = q
        · rw [e, ua_s]; exact hk2
        · rw [ua_n e]; exact hg.2 r r0 (by omega)⟩
      refine ⟨r, c, v', hE, ?_⟩
      rcases hres with ⟨rfl, w', hP', hg', hm', hc', hlx⟩ | ⟨rfl, hP', hno'⟩
      · refine brbI (fun z => absurd z (by decide)) (fun _ => hQ 1 v' ho2 (Or.inl ⟨rfl, w', hP', ⟨hg'.1, fun r r0 r1 => ?_⟩, ?_, hc', fun w'' hg hm hc => ?_⟩))
        · rw [hg'.2 r r0 (by omega), ua_n (by omega)]
        · have e : w' q = k := by rw [hg'.2 q hq.1 (by omega), ua_s]
          exact (hmvc w' e).2 hm'
        · have e : w' q = k := by rw [hg'.2 q hq.1 (by omega), ua_s]
          rcases Int.lt_trichotomy (w'' q) k with z | z | z
          · exact absurd hc (hno w'' hg z hm)
          · exact Or.inr ⟨by rw [e, z], hlx w'' (hgo w'' z hg) ((hmvc w'' z).1 hm) hc⟩
          · exact Or.inl (by omega)
      · refine brbI (fun _ => rngI (by omega) (ihn (k + 1) v' k (by omega) (by omega) ho2 hP' (fun w'' hg hlt hm => ?_))) (fun z => absurd rfl z)
        by_cases z : w'' q = k
        · exact hno' w'' (hgo w'' z hg) ((hmvc w'' z).1 hm)
        · exact hno w'' hg (by omega) hm
    refine E66_68 _ _ _ _ _ ?_
    rw [hP.1.1]
    refine brbI (fun z => absurd z (by omega)) (fun _ => brbI (fun z => chkI (inbI (by omega) (by omega)) (rngI (by omega) (brbN (fun z2 => absurd z z2) (fun _ => ?_)))) (fun z => brbI (fun z2 => rngI (by omega) ?_) (fun z2 => chkI (inbI (by omega) (by omega)) (rngI (by omega) (brbN (fun _ => rngI (by omega) ?_) (fun z3 => absurd z3 z))))))
    · exact hin left hl (by rw [if_pos (by omega)]; omega) (fun z3 => absurd (by omega) z3)
    · refine ihn (k + 1) v y (by omega) (by omega) ho hP (fun w'' hg hlt hm => ?_)
      by_cases z3 : w'' q = k
      · exfalso
        have had := hg.1.2 q hq.1 (by omega) (by omega)
        refine (hfl.2 ⟨?_, had.2.1, had.2.2⟩) z2
        rw [mvc_s, z3, if_neg (by omega)] at hm
        have := mvc_rng al w'' m (q + 1)
        omega
      · exact hno w'' hg (by omega) hm
    · have hf := hfl.1 z2
      exact hin (left - 1) (by omega) (by rw [if_neg (by omega)]) (fun _ => hf.2)
theorem C_settle {al : Int → Int} {p x : Int} (hS : Sn al) (hp : 0 ≤ p ∧ p < 6) (hx : 0 ≤ x ∧ x < al 1) : ∀ (m : Nat) (q left : Int) (v : sF) (w : Int → Int), 0 ≤ q → q + m = al 2 → 0 ≤ left ∧ left ≤ 10 → PX v al p w → adM al p (mMv al p) w → (∀ r : Int, q ≤ r → r < 6 → w r = al (30 + r)) → v 145 2 = x → ∃ r v', Ev (d + 4 + m) 66 [(2, 145), (0, q), (0, left)] (c, v) (some (0, r)) (c, v') ∧ Off [141] v v' ∧ stR2 al p x m q left w r v' := by
  have h1 := hS.1.1
  have h2 := hS.1.2.1
  intro m
  induction m with
  | zero => intro q left v w q0 hq hl hP hw hwq h5; exact settle0 hS hp hx (by omega) hP hw h5
  | succ m ih =>
    intro q left v w q0 hq hl hP hw hwq h5
    have hq6 : 0 ≤ q ∧ q < al 2 := by omega
    have hlp := fun fl hfl => set_loop (d := d + 3 + m) (c := c) (v0 := v) (w := w) (x := x) (q := q) (left := left) (fl := fl) (m := m) (Q := fun r μ => ∃ x1 v', r = some (0, x1) ∧ μ = (c, v') ∧ Off [141] v v' ∧ stR2 al p x (m + 1) q left w x1 v') hS hp hq6 hq hl hw hwq hfl h5 (fun left v w hl hP hw hwq h5 => by
      have := ih (q + 1) left v w (by omega) (by omega) hl hP hw hwq h5
      rw [show d + 4 + m = d + 3 + m + 1 by omega] at this
      exact this) (fun r v' ho hr => ⟨r, v', rfl, rfl, ho, hr⟩) (al 1).toNat 0 v (w q) (by omega) (by omega) (Off.rf _ _) (by rw [ua_id]; exact hP) (fun w'' hg hlt => by have := hg.1.1 q q0 (by omega); omega)
    rw [show d + 4 + (m + 1) = d + 3 + m + 1 + 1 by omega]
    refine CB_of (loc66 q left) (E66_0 q left ?_)
    rw [hP.1.2.1, (hP.2 q q0 hq6.2).1]
    refine brbI (fun _ => chkI (inbI (by omega) (by omega)) (brbI (fun z => hlp 0 ⟨fun z2 => absurd rfl z2, fun z2 => by omega⟩) (fun z => ⟨_, c, v, C_isFixed hP h2.2 hq6, ?_⟩))) (fun z => absurd hq6.2 z)
    by_cases hm : q ≠ p ∧ 0 < mnA al q p
    · rw [if_pos hm]
      exact brbN (fun z2 => absurd rfl z2) (fun _ => hlp 1 ⟨fun _ => ⟨by omega, hm⟩, fun _ => by decide⟩)
    · rw [if_neg hm]
      exact brbN (fun _ => hlp 0 ⟨fun z2 => absurd rfl z2, fun z2 => absurd z2.2 hm⟩) (fun z2 => absurd z2 (by decide))
/-- how many can be moved -/
def mbl (al : Int → Int) (p : Int) (k : Nat) : Int := cnt (fun q => decide (q ≠ p ∧ 0 < mnA al q p)) k
theorem mvc_e (al w : Int → Int) : ∀ (m : Nat) (q : Int), mvc al w (m + 1) q = mvc al w m q + (if w (q + m) = al (30 + (q + m)) then 0 else 1) := by
  intro m q
  have := mvc_add al w m 1 q
  rw [this]
  show _ = _
  rw [show mvc al w 1 (q + m) = (if w (q + m) = al (30 + (q + m)) then 0 else 1) + mvc al w 0 (q + m + 1) from rfl]
  show _ + ((if w (q + m) = al (30 + (q + m)) then (0 : Int) else 1) + 0) = _
  omega
theorem mvc_mbl {al w : Int → Int} {p : Int} (hw : adM al p (mMv al p) w) : ∀ k : Nat, k ≤ 6 → mvc al w k 0 ≤ mbl al p k := by
  intro k
  induction k with
  | zero => intro _; show (0 : Int) ≤ 0; decide
  | succ k ih =>
    intro hk
    have ih := ih (by omega)
    rw [mvc_e]
    unfold mbl at *
    rw [cnt_s, show (0 : Int) + (k : Int) = (k : Int) by omega]
    by_cases e : w k = al (30 + (k : Int))
    · rw [if_pos e]; split <;> omega
    · have := hw.2 k (by omega) (by omega) e
      rw [if_neg e, if_pos (by rw [decide_eq_true_iff]; exact this.2)]
      omega
theorem fm1_loop {v : sF} {al w : Int → Int} {p : Int} {Q : sQ} (h2 : 0 ≤ al 2 ∧ al 2 ≤ 6) (h : PX v al p w) (hQ : Wp (Ev (d + 1)) 0 (fun _ => 0) 64 Q 67 [(2, 145), (9, 0), (0, mbl al p (al 2).toNat), (0, 0)] [] c v) : ∀ (m k : Nat), (k : Int) + m = al 2 → Wp (Ev (d + 1)) 0 (fun _ => 0) 64 Q 32 [(2, 145), (9, 0), (0, mbl al p k), (0, (k : Int))] [] c v := by
  intro m
  induction m with
  | zero =>
    intro k hk
    refine E64_32 _ _ ?_
    rw [h.1.2.1]
    rw [show (al 2).toNat = k by omega] at hQ
    exact brbI (fun _ => hQ) (fun z => absurd z (by omega))
  | succ m ih =>
    intro k hk
    have ihk := ih (k + 1) (by omega)
    have hr := cnt_rng (fun q => decide (q ≠ p ∧ 0 < mnA al q p)) k
    have hr : 0 ≤ mbl al p k ∧ mbl al p k ≤ k := hr
    have hs : mbl al p (k + 1) = if decide ((k : Int) ≠ p ∧ 0 < mnA al k p) = true then mbl al p k + 1 else mbl al p k := rfl
    rw [hs] at ihk
    refine E64_32 _ _ ?_
    rw [h.1.2.1]
    refine brbI (fun z => absurd z (by omega)) (fun _ => ⟨_, c, v, C_isFixed h h2.2 ⟨by omega, by omega⟩, ?_⟩)
    by_cases hm : (k : Int) ≠ p ∧ 0 < mnA al k p
    · rw [if_pos hm]
      rw [if_pos (by rw [decide_eq_true_iff]; exact hm)] at ihk
      exact brbI (fun _ => rngI (by omega) (rngI (by omega) ihk)) (fun z => absurd rfl z)
    · rw [if_neg hm]
      rw [if_neg (by rw [decide_eq_true_iff]; exact hm)] at ihk
      exact brbI (fun z => absurd z (by decide)) (fun _ => rngI (by omega) (rngI (by omega) (by rw [Int.add_zero]; exact ihk)))
/-- what fewestMoves leaves -/
def fmR (al : Int → Int) (p x r : Int) (v' : sF) : Prop := (r = -1 ∧ ∀ w, adM al p (mMv al p) w → q_com (pl al w) (-1) p x = -1) ∨ (∃ w, bestM al p x (mMv al p) w ∧ r = mvc al w (al 2).toNat 0 ∧ ∀ q : Int, 0 ≤ q → q < al 2 → v' 141 q = w q)
theorem adM_id {al : Int → Int} (hS : Sn al) (p : Int) (mv : Int → Prop) : adM al p mv (fun r => al (30 + r)) := ⟨fun r r0 r1 => (hS.2.1 r r0 r1).1, fun r _ _ hne => absurd rfl hne⟩
theorem fm2_loop {al : Int → Int} {p x : Int} {Q : sQ} (v0 : sF) (hS : Sn al) (hp : 0 ≤ p ∧ p < 6) (hx : 0 ≤ x ∧ x < al 1) (h5 : v0 145 2 = x) (hQ : ∀ r v', Off [141] v0 v' → fmR al p x r v' → Q (some (0, r)) (c, v')) : ∀ (m : Nat) (n : Int) (v : sF), 0 ≤ n → n + m = mbl al p (al 2).toNat + 1 → Off [141] v0 v → PX v al p (fun r => al (30 + r)) → (∀ w, adM al p (mMv al p) w → cmW al p x w → n ≤ mvc al w (al 2).toNat 0) → Wp (Ev (d + 4 + (al 2).toNat)) 0 (fun _ => 0) 64 Q 67 [(2, 145), (9, 0), (0, mbl al p (al 2).toNat), (0, n)] [] c v := by
  have h2 := hS.1.2.1
  have hr := cnt_rng (fun q => decide (q ≠ p ∧ 0 < mnA al q p)) (al 2).toNat
  have hr : 0 ≤ mbl al p (al 2).toNat ∧ mbl al p (al 2).toNat ≤ (al 2).toNat := hr
  intro m
  induction m with
  | zero =>
    intro n v n0 hn ho hP hno
    refine E64_67 _ _ (brbI (fun _ => hQ (-1) v ho (Or.inl ⟨rfl, fun w hw => Classical.byContradiction fun q => ?_⟩)) (fun z => absurd z (by omega)))
    have := hno w hw q
    have := mvc_mbl hw (al 2).toNat (by omega)
    omega
  | succ m ih =>
    intro n v n0 hn ho hP hno
    obtain ⟨r, v', hE, hO, hres⟩ := C_settle (d := d) (c := c) hS hp hx (al 2).toNat 0 n v _ (by omega) (by omega) (by omega) hP (adM_id hS p _) (fun _ _ _ => rfl) (by rw [ho 145 (by decide)]; exact h5)
    have hgo : ∀ w, adM al p (mMv al p) w → goM al p 0 (fun r => al (30 + r)) w := fun w hw => ⟨hw, fun r r0 r1 => absurd r0 (by omega)⟩
    refine E64_67 _ _ (brbI (fun z => absurd z (by omega)) (fun _ => ⟨r, c, v', hE, ?_⟩))
    rcases hres with ⟨rfl, w', hP', hg', hm', hc', hlx⟩ | ⟨rfl, hP', hno'⟩
    · refine brbI (fun z => absurd z (by decide)) (fun _ => hQ n v' (ho.tr hO) (Or.inr ⟨w', ⟨hg'.1, hc', fun w hw hc => ?_⟩, hm'.symm, fun q q0 q1 => (hP'.2 q q0 q1).1⟩))
      have := hno w hw hc
      by_cases e : mvc al w (al 2).toNat 0 = n
      · right; exact ⟨by omega, hlx w (hgo w hw) e hc⟩
      · left; omega
    · refine brbI (fun _ => rngI (by omega) (ih (n + 1) v' (by omega) (by omega) (ho.tr hO) hP' (fun w hw hc => ?_))) (fun z => absurd rfl z)
      have h7 := hno w hw hc
      have h8 : mvc al w (al 2).toNat 0 ≠ n := fun e => hno' w (hgo w hw) e hc
      omega
theorem C_fewestMoves {v : sF} {al : Int → Int} {p x : Int} (hS : Sn al) (hp : 0 ≤ p ∧ p < al 2) (hx : 0 ≤ x ∧ x < al 1) (hR : CR v 13 al) (h13 : v 140 1 = 13) (hG : WG v al p (-1) (-1)) (hpw : v 141 p = al (30 + p)) : ∃ r v', Ev (d + 11) 64 [(2, 145), (0, x)] (c, v) (some (0, r)) (c, v') ∧ Off scX v v' ∧ fmR al p x r v' := by
  have h1 := hS.1.1
  have h2 := hS.1.2.1
  have hO1 : Off [145] v (up v 145 2 x) := (Off.rf _ v).up (by decide)
  have hR1 : CR (up v 145 2 x) 13 al := hR.off hO1 ⟨by decide, fun k k0 k1 => by simp only [List.mem_cons, List.not_mem_nil, or_false]; omega⟩
  obtain ⟨v2, hE2, hO2, hj2⟩ := C_aimAll (d := d + 5) (c := c) (v := up v 145 2 x) (p := p) hS (by omega) hR1 (by rw [hO1 140 (by decide)]; exact h13) (by rw [hO1 140 (by decide)]; exact hG.2.2.1)
  have hP : PX v2 al p (fun r => al (30 + r)) := by
    unfold PX
    rw [hO2 3 (by decide), hO2 140 (by decide), hO2 141 (by decide), hO2 142 (by decide), hO1 3 (by decide), hO1 140 (by decide), hO1 141 (by decide), hO1 142 (by decide)]
    refine ⟨⟨hG.1, hG.2.1, hG.2.2.1, hG.2.2.2.1, hG.2.2.2.2.1⟩, fun q q0 q1 => ?_⟩
    by_cases e : q = p
    · rw [e]; exact ⟨hpw, fun z => absurd rfl z⟩
    · exact ⟨(hG.2.2.2.2.2 q q0 q1 e).1, fun _ => ⟨((hG.2.2.2.2.2 q q0 q1 e).2 (Or.inl rfl)).1, hj2 q q0 q1⟩⟩
  have h5 : v2 145 2 = x := by rw [hO2 145 (by decide), up_same]
  have hO12 : Off scX v v2 := (hO1.wk (by decide)).tr (hO2.wk (by decide))
  obtain ⟨r, hE3, hr, hr0⟩ := C_couldCome (d := d + 8) (c := c) hS (show 0 ≤ p ∧ p < 6 by omega) hP hx
  refine CB_of (loc64 x) (E64_0 x ⟨c, v2, hE2, ?_⟩)
  rw [h5]
  refine ⟨r, c, v2, hE3, brbN (fun z => ?_) (fun z => ⟨-1, v2, rfl, rfl, hO12, Or.inl ⟨rfl, hr0 z⟩⟩)⟩
  refine fm1_loop (d := d + 9) (c := c) h2 hP ?_ (al 2).toNat 0 (by omega)
  have := fm2_loop (d := d + 6 - (al 2).toNat) (c := c) (Q := fun r μ => ∃ x1 v', r = some (0, x1) ∧ μ = (c, v') ∧ Off scX v v' ∧ fmR al p x x1 v') v2 hS (show 0 ≤ p ∧ p < 6 by omega) hx h5 (fun r v' ho hf => ⟨r, v', rfl, rfl, hO12.tr (ho.wk (by decide)), hf⟩) (mbl al p (al 2).toNat + 1).toNat 0 v2 (by omega) (by have := cnt_rng (fun q => decide (q ≠ p ∧ 0 < mnA al q p)) (al 2).toNat; have : 0 ≤ mbl al p (al 2).toNat := this.1; omega) (Off.rf _ _) hP (fun w hw hc => (mvc_rng al w (al 2).toNat 0).1)
  rw [show d + 6 - (al 2).toNat + 4 + (al 2).toNat = d + 10 by omega] at this
  exact this
theorem X_moves {v : sF} {al : Int → Int} {p x w : Int} (hS : St al) (hR : CR v 13 al) (hwi : w ≤ 2147483647) (X : Int) (hX2 : ¬ (((0 ≤ p ∧ p < al 2) ∧ (0 ≤ x ∧ x < al 1)) ∧ (w = 0 ∨ (10 ≤ w ∧ w - 10 < al 2))) → X = -2) (hX1 : ((0 ≤ p ∧ p < al 2) ∧ (0 ≤ x ∧ x < al 1)) ∧ (w = 0 ∨ (10 ≤ w ∧ w - 10 < al 2)) → (∀ z, adM al p (fun _ => True) z → q_com (pl al z) (-1) p x = -1) → X = -1) (hX : ((0 ≤ p ∧ p < al 2) ∧ (0 ≤ x ∧ x < al 1)) ∧ (w = 0 ∨ (10 ≤ w ∧ w - 10 < al 2)) → ∀ z, bestM al p x (fun _ => True) z → X = if w = 0 then mvc al z (al 2).toNat 0 else z (w - 10)) : ∃ v', Ev (d + 20) 138 [(2, 1), (0, p), (0, x), (0, w)] (c, v) (some (0, X)) (c, v') ∧ Off scX v v' := by
  have h2 := hS.1.2.1
  have hw := C_isWayX (d := d + 17) (c := c) (v := v) (x := p) (y := x)
  have hcp := C_isCount (d := d + 17) (c := c) (v := v) (x := w) hwi
  rw [hR.p.2] at hcp
  rw [hR.p.1, hR.p.2] at hw
  refine CI_of (loc138 p x w) (E138_0 p x w ⟨_, c, v, hw, bfz (fun h => ⟨by rw [hX2 (fun z => h z.1)], _, rfl, Off.rf _ v⟩) (fun h => ⟨_, c, v, hcp, bfi (fun h3 => ?_) (fun h3 => ⟨by rw [hX2 (fun z => h3 z.2)], _, rfl, Off.rf _ v⟩)⟩)⟩)
  have h6 := hS.1.2.1
  obtain ⟨v1, hE, hO, hW⟩ := C_aim (d := d + 13) (c := c) (Or.inl rfl) hS.1 hS.2.1 hR (show 0 ≤ p ∧ p < 6 by omega)
  have hR1 := hR.w (Or.inl rfl) hO
  obtain ⟨r, v2, hE2, hO2, hf⟩ := C_fewestMoves (d := d + 8) (c := c) hS.n h.1 h.2 hR1 hW.1 (hW.g hR1) (hW.2.2.2.2 p h.1.1 h.1.2).1
  have hOO := (oX hO).tr hO2
  refine ⟨c, v1, hE, r, c, v2, hE2, ?_⟩
  rcases hf with ⟨rfl, hno⟩ | ⟨z, hz, rfl, hzv⟩
  · exact brbI (fun _ => ⟨by rw [hX1 ⟨h, h3⟩ (none_all hS.n (by omega) hno)], _, rfl, hOO⟩) (fun q => absurd rfl q)
  · have hX := hX ⟨h, h3⟩ z (best_all hS.n (by omega) hz)
    have hm := mvc_rng al z (al 2).toNat 0
    refine brbI (fun q => absurd q (by omega)) (fun _ => brbN (fun q => rngI (by omega) (chkI (inbI (by omega) (by omega)) ⟨?_, _, rfl, hOO⟩)) (fun q => ⟨?_, _, rfl, hOO⟩))
    · rw [if_neg q] at hX
      rw [hX, hzv (w - 10) (by omega) (by omega)]
    · rw [if_pos q] at hX
      rw [hX]
end Mov3
