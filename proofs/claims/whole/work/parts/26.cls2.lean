section Cls2
variable {d c : Nat}
/-- the class's Told at t tells what al tells -/
def TolR (v : sF) (t : Int) (al : Int → Int) : Prop := v t 0 = al 1 ∧ v t 1 = al 2 ∧ v t 2 = al 0 ∧ (∀ p : Int, 0 ≤ p → p < 6 → v (t + 1) p = al (9 + p) ∧ v (t + 2) p = al (15 + p) ∧ v (t + 3) p = al (21 + p)) ∧ LawR v (t + 4) al 0 ∧ LawR v (t + 4) al 1
/-- whether a letter is given -/
def isG (al : Int → Int) (l : Int) : Bool := decide (al 29 / 2 ^ l.toNat % 2 = 1)
/-- the class's Now at a is that of al -/
def NowR (v : sF) (a : Int) (al : Int → Int) : Prop := v a 3 = al 27 ∧ v a 4 = al 28 ∧ (∀ p : Int, 0 ≤ p → p < 6 → v (a + 1) p = al (30 + p) ∧ v (a + 2) p = al (36 + p)) ∧ (∀ i : Int, 0 ≤ i → i < 36 → v (a + 3) i = al (42 + i)) ∧ ∀ l : Int, 0 ≤ l → l < al 28 → v (a + 4) l = al (84 + l) ∧ v (a + 5) l = al (78 + l) ∧ v (a + 6) l = al (90 + l) ∧ v (a + 7) l = if isG al l = true then al (96 + l) else -1
theorem Off.a1 {S : List Int} {v v' : sF} (h : Off S v v') {a : Int} (ha : a ∉ S) : v' a = v a := h a ha
theorem LawR.off {v v' : sF} {a : Int} {al : Int → Int} {law : Int} (h1 : v' (a + 1) = v (a + 1)) (h2 : v' (a + 2) = v (a + 2)) (h3 : v' (a + 3) = v (a + 3)) (h : LawR v a al law) : LawR v' a al law := by
  unfold LawR at *
  rw [h1, h2, h3]
  exact h
theorem TolR.cong {v v' : sF} {t : Int} {al : Int → Int} (h : TolR v t al) (he : ∀ k : Int, k = 0 ∨ k = 1 ∨ k = 2 ∨ k = 3 ∨ k = 5 ∨ k = 6 ∨ k = 7 → v' (t + k) = v (t + k)) : TolR v' t al := by
  have z : ∀ k : Int, t + 4 + k = t + (4 + k) := fun k => by omega
  have e0 : v' t = v t := by have := he 0 (by omega); rwa [show t + 0 = t by omega] at this
  unfold TolR at *
  rw [e0, he 1 (by omega), he 2 (by omega), he 3 (by omega)]
  exact ⟨h.1, h.2.1, h.2.2.1, h.2.2.2.1, LawR.off (by rw [z]; exact he 5 (by omega)) (by rw [z]; exact he 6 (by omega)) (by rw [z]; exact he 7 (by omega)) h.2.2.2.2.1, LawR.off (by rw [z]; exact he 5 (by omega)) (by rw [z]; exact he 6 (by omega)) (by rw [z]; exact he 7 (by omega)) h.2.2.2.2.2⟩
theorem TolR.off {S : List Int} {v v' : sF} {t : Int} {al : Int → Int} (h : TolR v t al) (ho : Off S v v') (hs : ∀ k : Int, k = 0 ∨ k = 1 ∨ k = 2 ∨ k = 3 ∨ k = 5 ∨ k = 6 ∨ k = 7 → t + k ∉ S) : TolR v' t al := h.cong (fun k hk => ho _ (hs k hk))
theorem NowR.cong {v v' : sF} {a : Int} {al : Int → Int} (h : NowR v a al) (he : ∀ k : Int, 0 ≤ k → k ≤ 7 → v' (a + k) = v (a + k)) : NowR v' a al := by
  have e0 : v' a = v a := by have := he 0 (by omega) (by omega); rwa [show a + 0 = a by omega] at this
  unfold NowR at *
  rw [e0, he 1 (by omega) (by omega), he 2 (by omega) (by omega), he 3 (by omega) (by omega), he 4 (by omega) (by omega), he 5 (by omega) (by omega), he 6 (by omega) (by omega), he 7 (by omega) (by omega)]
  exact h
theorem NowR.off {S : List Int} {v v' : sF} {a : Int} {al : Int → Int} (h : NowR v a al) (ho : Off S v v') (hs : ∀ k : Int, 0 ≤ k → k ≤ 7 → a + k ∉ S) : NowR v' a al := h.cong (fun k h0 h1 => ho _ (hs k h0 h1))
/-- a is a Now -/
def NT (a : Int) : Prop := tyT a = 13 ∧ ((tyT (a + 1) = 1 ∧ lnT (a + 1) = 6) ∧ (tyT (a + 2) = 1 ∧ lnT (a + 2) = 6) ∧ (tyT (a + 3) = 1 ∧ lnT (a + 3) = 36) ∧ (tyT (a + 4) = 1 ∧ lnT (a + 4) = 6) ∧ (tyT (a + 5) = 1 ∧ lnT (a + 5) = 6) ∧ (tyT (a + 6) = 1 ∧ lnT (a + 6) = 6) ∧ (tyT (a + 7) = 1 ∧ lnT (a + 7) = 6))
theorem NT_13 : NT 13 := by unfold NT; decide +kernel
theorem NT_21 : NT 21 := by unfold NT; decide +kernel
theorem NT_29 : NT 29 := by unfold NT; decide +kernel
theorem NT_48 : NT 48 := by unfold NT; decide +kernel
theorem NT_192 : NT 192 := by unfold NT; decide +kernel
theorem NT_210 : NT 210 := by unfold NT; decide +kernel
theorem NT_past {i : Int} (h0 : 0 ≤ i) (h1 : i < 10) : NT (60 + 8 * i) := by
  rcases (show i = 0 ∨ i = 1 ∨ i = 2 ∨ i = 3 ∨ i = 4 ∨ i = 5 ∨ i = 6 ∨ i = 7 ∨ i = 8 ∨ i = 9 by omega) with rfl | rfl | rfl | rfl | rfl | rfl | rfl | rfl | rfl | rfl <;> (unfold NT; decide +kernel)
/-- the two Nows on which deeds are done and ways are reckoned -/
def aN (a : Int) : Prop := a = 13 ∨ a = 29
theorem aN.nt {a : Int} (h : aN a) : NT a := by rcases h with rfl | rfl; exact NT_13; exact NT_29
/-- what the class's Ways sees of a post -/
def CR (v : sF) (a : Int) (al : Int → Int) : Prop := TolR v 3 al ∧ NowR v a al
theorem CR.off {S : List Int} {v v' : sF} {a : Int} {al : Int → Int} (h : CR v a al) (ho : Off S v v') (hs : (∀ k ∈ [3, 4, 5, 6, 8, 9, 10], k ∉ S) ∧ ∀ k : Int, 0 ≤ k → k ≤ 7 → a + k ∉ S) : CR v' a al := by
  refine ⟨h.1.off ho (fun k hk => hs.1 _ ?_), h.2.off ho hs.2⟩
  rcases hk with rfl | rfl | rfl | rfl | rfl | rfl | rfl <;> decide
/-- the cells that Ways writes -/
def cW : List Int := [7, 11, 12, 140, 141, 142, 143]
theorem cW_a {a : Int} (h : aN a) : (∀ k ∈ [3, 4, 5, 6, 8, 9, 10], k ∉ cW) ∧ ∀ k : Int, 0 ≤ k → k ≤ 7 → a + k ∉ cW := by
  refine ⟨by decide, fun k h0 h1 => ?_⟩
  unfold cW
  rcases h with rfl | rfl <;> (simp only [List.mem_cons, List.not_mem_nil, or_false]; omega)
theorem CR.w {v v' : sF} {a : Int} {al : Int → Int} (h : CR v a al) (ha : aN a) (ho : Off cW v v') : CR v' a al := h.off ho (cW_a ha)
theorem TS.w {v v' : sF} (h : TS v v') : Off cW v v' := h.wk (by decide)
/-- the words of a law, with the care and the place given -/
def wdB (al : Int → Int) (p q care at1 : Int) : Int → Int := fun k => if k = 0 then p else if k = 1 then q else if k = 2 then al (36 + p) else if k = 3 then (if al (15 + p) = al (15 + q) then 1 else 0) else if k = 4 then care else if k = 5 then at1 else if k = 6 then al (9 + q) else al (9 + p)
theorem wdB_e (al : Int → Int) (p q : Int) : wdB al p q (al (42 + 6 * p + q)) (al (30 + p)) = wdA al p q := rfl
theorem wdB_rng {al : Int → Int} {N : Int} (hT : okT al) (hN : okMn N al) {p q care at1 : Int} (hp : 0 ≤ p ∧ p < 6) (hq : 0 ≤ q ∧ q < 6) (hc : 0 ≤ care ∧ care ≤ 9) (hat : 0 ≤ at1 ∧ at1 ≤ 6) : ∀ k, 0 ≤ k → k < 8 → -1000000 ≤ wdB al p q care at1 k ∧ wdB al p q care at1 k ≤ 1000000 := by
  intro k h0 h1
  have a1 := hT.2.2.1 p hp.1 hp.2
  have a2 := hT.2.2.1 q hq.1 hq.2
  have a3 := hN.1 p hp.1 hp.2
  have a5 := hT.1
  unfold wdB
  (repeat' split) <;> omega
/-- what one minds with a care, where one would send from a place -/
def mnB (al : Int → Int) (p q care : Int) : Int := if al 3 = 0 then care else (rpn (wdB al p q care 0) (lwC al 0) (lwN al 0)).headD 0
def wlB (al : Int → Int) (p q at1 : Int) : Int := if al 4 = 0 then al (9 + q) else (rpn (wdB al p q 0 at1) (lwC al 1) (lwN al 1)).headD 0 % al 1
theorem rpn_congr {w w' cd : Int → Int} : ∀ {n : Nat}, (∀ k : Nat, k < n → 1000 ≤ cd k → cd k < 3000 → w (cd k - 1000) = w' (cd k - 1000)) → rpn w cd n = rpn w' cd n := by
  intro n
  induction n with
  | zero => intro _; rfl
  | succ n ih =>
    intro h
    show stp w (cd n) (rpn w cd n) = stp w' (cd n) (rpn w' cd n)
    rw [ih (fun k hk => h k (by omega))]
    unfold stp
    split
    · rfl
    · split
      · rw [h n (by omega) (by omega) (by assumption)]
      · rfl
theorem mnB_e {al : Int → Int} (hT : okT al) (p q : Int) : mnB al p q (al (42 + 6 * p + q)) = mnA al p q := by
  unfold mnB mnA rkA
  by_cases h : al 3 = 0
  · rw [if_pos h, if_pos h]
  · rw [if_neg h, if_neg h]
    have hb := (hT.2.2.2 0 (Or.inl rfl) h).2.2
    rw [rpn_congr (w' := wdA al p q)]
    intro k hk h1 h2
    have := hb k hk
    unfold wok at this
    rw [if_pos rfl] at this
    have hne : lwC al 0 k - 1000 ≠ 5 := by omega
    unfold wdB wdA
    rw [if_neg hne, if_neg hne]
theorem wlB_e {al : Int → Int} (hT : okT al) (p q : Int) : wlB al p q (al (30 + p)) = wlA al p q := by
  unfold wlB wlA rkA
  by_cases h : al 4 = 0
  · rw [if_pos h, if_pos h]
  · rw [if_neg h, if_neg h]
    have hb := (hT.2.2.2 1 (Or.inr rfl) h).2.2
    rw [rpn_congr (w' := wdA al p q)]
    intro k hk h1 h2
    have := hb k hk
    unfold wok at this
    rw [if_neg (by decide)] at this
    have hne : lwC al 1 k - 1000 ≠ 4 := by omega
    unfold wdB wdA
    rw [if_neg hne, if_neg hne]
theorem wlB_rng {al : Int → Int} (hT : okT al) {p q at1 : Int} (hq : 0 ≤ q ∧ q < 6) : 0 ≤ wlB al p q at1 ∧ wlB al p q at1 < al 1 := by
  have h1 := hT.1
  have h2 := (hT.2.2.1 q hq.1 hq.2).1
  unfold wlB
  split
  · exact h2
  · exact ⟨Int.emod_nonneg _ (by omega), Int.emod_lt_of_pos _ (by omega)⟩
theorem C_setMeaning {v : sF} {a q p : Int} {al : Int → Int} (ha : aN a) (hR : CR v a al) (h1 : v 140 1 = a) (h2 : v 140 2 = p) (hq : 0 ≤ q ∧ q < 6) (hp : 0 ≤ p ∧ p < 6) : ∃ v', Ev (d + 1) 92 [(2, 140), (0, q)] (c, v) none (c, v') ∧ Off [12] v v' ∧ (∀ j : Int, 0 ≤ j → j < 8 → j ≠ 4 → j ≠ 5 → v' 12 (encW j) = wdB al q p 0 0 j) ∧ v' 12 2 = v 12 2 ∧ v' 12 7 = v 12 7 := by
  have hnt := ha.nt
  have hf : v 5 q = al (15 + q) := (hR.1.2.2.2.1 q hq.1 hq.2).2.1
  have hf2 : v 5 p = al (15 + p) := (hR.1.2.2.2.1 p hp.1 hp.2).2.1
  have hh : v 4 q = al (9 + q) := (hR.1.2.2.2.1 q hq.1 hq.2).1
  have hh2 : v 4 p = al (9 + p) := (hR.1.2.2.2.1 p hp.1 hp.2).1
  have hm : v (a + 2) q = al (36 + q) := (hR.2.2.2.1 q hq.1 hq.2).2
  have ha12 : a + 2 ≠ 12 := by rcases ha with rfl | rfl <;> decide
  refine CV_of (loc92 q) (E92_0 q ?_)
  rw [h1, h2]
  refine cktI (beqI hnt.1) (cktI (beqI hnt.2.2.1.1) ?_)
  rw [hnt.2.2.1.2, up_ne2 _ ha12, up_ne2 _ ha12, hf, hf2, hh, hh2, hm]
  (repeat' (first | (refine brbI (fun _ => ?_) (fun _ => ?_) <;> try (exfalso; omega)) | (refine brbN (fun _ => ?_) (fun _ => ?_) <;> try (exfalso; omega)) | refine rngI (by omega) ?_ | refine rnlI (by omega) ?_ | refine chkI (inbI (by omega) (by omega)) ?_))
  all_goals refine ⟨rfl, _, rfl, (((((((Off.rf _ v).up (by decide)).up (by decide)).up (by decide)).up (by decide)).up (by decide)).up (by decide)), fun j h0 h1 h4 h5 => ?_, by simp [up], by simp [up]⟩
  all_goals rcases (show j = 0 ∨ j = 1 ∨ j = 2 ∨ j = 3 ∨ j = 6 ∨ j = 7 by omega) with rfl | rfl | rfl | rfl | rfl | rfl <;> simp_all [up, encW, wdB]
theorem C_mindWith {v : sF} {a q p care : Int} {al : Int → Int} (ha : aN a) (hT : okT al) (hN : okN al) (hR : CR v a al) (h1 : v 140 1 = a) (h2 : v 140 2 = p) (hq : 0 ≤ q ∧ q < 6) (hp : 0 ≤ p ∧ p < 6) (hc : 0 ≤ care ∧ care ≤ 9) : ∃ v', Ev (d + 4) 91 [(2, 140), (0, q), (0, care)] (c, v) (some (0, mnB al q p care)) (c, v') ∧ Off [7, 11, 12] v v' := by
  have hL := hR.1.2.2.2.2.1
  refine CI_of (loc91 q care) (E91_0 q care ⟨_, c, v, C_has (Or.inl rfl), ?_⟩)
  by_cases h : al 3 = 0
  · have : v 10 0 ≤ v 9 0 := hL.1 h
    refine brbN (fun h3 => absurd (if_neg (by omega)) h3) (fun h3 => ⟨by unfold mnB; rw [if_pos h], _, rfl, Off.rf _ v⟩)
  · have hb := hT.2.2.2 0 (Or.inl rfl) h
    have hl2 := hL.2 h
    have hlt : v 9 0 < v 10 0 := by
      have q1 : v 9 0 = al 5 := hl2.1
      have q2 : v 10 0 = al 5 + al 7 := hl2.2.1
      have q3 : 1 ≤ al 7 := hb.1.2.1
      omega
    refine brbN (fun h3 => ?_) (fun h3 => absurd h3 (by rw [if_pos hlt]; decide))
    obtain ⟨v1, hE, hO, hm, _, _⟩ := C_setMeaning (d := d + 2) (c := c) ha hR h1 h2 hq hp
    refine ⟨c, v1, hE, ?_⟩
    have hO2 : Off [12] v (up v1 12 7 care) := hO.up (by decide)
    obtain ⟨v2, hE2, hO3⟩ := C_tell (d := d) (c := c) (v := up v1 12 7 care) (al := al) (w := wdB al q p care 0) (law := 0) (Or.inl rfl) hT h (LawR.off (hO2 8 (by decide)) (hO2 9 (by decide)) (hO2 10 (by decide)) hL) (wdB_rng hT hN hq hp hc (by decide)) (fun k hk k1 k2 => by
      have := hb.2.2 k hk
      unfold wok at this
      rw [if_pos rfl] at this
      rcases (show lwC al 0 k - 1000 = 4 ∨ (0 ≤ lwC al 0 k - 1000 ∧ lwC al 0 k - 1000 < 4) by omega) with e | e
      · rw [e]
        exact up_same _ _ _ _
      · have hne : encW (lwC al 0 k - 1000) ≠ 7 := by unfold encW; (repeat' split) <;> omega
        rw [up_ne _ hne, hm _ e.1 (by omega) (by omega) (by omega)]
        unfold wdB
        have q4 : lwC al 0 k - 1000 ≠ 4 := by omega
        have q5 : lwC al 0 k - 1000 ≠ 5 := by omega
        rw [if_neg q4, if_neg q4, if_neg q5])
    exact ⟨_, c, v2, hE2, by unfold mnB; rw [if_neg h], _, rfl, (hO2.wk (by decide)).tr (hO3.wk (by decide))⟩
theorem C_goalFrom {v : sF} {a q p at1 : Int} {al : Int → Int} (ha : aN a) (hT : okT al) (hN : okN al) (hR : CR v a al) (h1 : v 140 1 = a) (h2 : v 140 2 = p) (hq : 0 ≤ q ∧ q < 6) (hp : 0 ≤ p ∧ p < 6) (hc : 0 ≤ at1 ∧ at1 ≤ 6) : ∃ v', Ev (d + 4) 93 [(2, 140), (0, q), (0, at1)] (c, v) (some (0, wlB al q p at1)) (c, v') ∧ Off [7, 11, 12] v v' := by
  have hL := hR.1.2.2.2.2.2
  have hh2 : v 4 p = al (9 + p) := (hR.1.2.2.2.1 p hp.1 hp.2).1
  have h30 : v 3 0 = al 1 := hR.1.1
  have hT1 := hT.1
  refine CI_of (loc93 q at1) (E93_0 q at1 ⟨_, c, v, C_has (Or.inr rfl), ?_⟩)
  rw [h2, hh2, h30]
  by_cases h : al 4 = 0
  · have : v 10 1 ≤ v 9 1 := hL.1 h
    refine brbI (fun h3 => chkI (inbI (by omega) (by omega)) ⟨by unfold wlB; rw [if_pos h], _, rfl, Off.rf _ v⟩) (fun h3 => absurd (if_neg (by omega)) h3)
  · have hb := hT.2.2.2 1 (Or.inr rfl) h
    have hl2 := hL.2 h
    have hlt : v 9 1 < v 10 1 := by
      have q1 : v 9 1 = al 6 := hl2.1
      have q2 : v 10 1 = al 6 + al 8 := hl2.2.1
      have q3 : 1 ≤ al 8 := hb.1.2.1
      omega
    refine brbI (fun h3 => absurd h3 (by rw [if_pos hlt]; decide)) (fun h3 => brbI (fun h4 => ?_) (fun h4 => absurd hT1.1 (by omega)))
    obtain ⟨v1, hE, hO, hm, _, _⟩ := C_setMeaning (d := d + 2) (c := c) ha hR h1 h2 hq hp
    refine ⟨c, v1, hE, ?_⟩
    have hO2 : Off [12] v (up v1 12 2 at1) := hO.up (by decide)
    have hw := wdB_rng hT hN hq hp (care := 0) (by decide) hc
    obtain ⟨v2, hE2, hO3⟩ := C_tell (d := d) (c := c) (v := up v1 12 2 at1) (al := al) (w := wdB al q p 0 at1) (law := 1) (Or.inr rfl) hT h (LawR.off (hO2 8 (by decide)) (hO2 9 (by decide)) (hO2 10 (by decide)) hL) hw (fun k hk k1 k2 => by
      have := hb.2.2 k hk
      unfold wok at this
      rw [if_neg (by decide)] at this
      have h8 : lwC al 1 k < 1008 := by
        obtain ⟨ts', hts', _⟩ := hb.2.1.2 (k + 1) (by omega)
        unfold tcks at hts'
        cases ht : tcks (lwC al 1) k with
        | none => rw [ht] at hts'; cases hts'
        | some ts =>
          rw [ht] at hts'
          rcases tck_cases hts' with q | q | q | q <;> omega
      rcases (show lwC al 1 k - 1000 = 5 ∨ (0 ≤ lwC al 1 k - 1000 ∧ lwC al 1 k - 1000 < 8 ∧ lwC al 1 k - 1000 ≠ 4 ∧ lwC al 1 k - 1000 ≠ 5) by omega) with e | e
      · rw [e]
        exact up_same _ _ _ _
      · have hne : encW (lwC al 1 k - 1000) ≠ 2 := by unfold encW; (repeat' split) <;> omega
        rw [up_ne _ hne, hm _ e.1 e.2.1 e.2.2.1 e.2.2.2]
        unfold wdB
        rw [if_neg e.2.2.1, if_neg e.2.2.2, if_neg e.2.2.1, if_neg e.2.2.2])
    have hO4 : Off [7, 11, 12] v v2 := (hO2.wk (by decide)).tr (hO3.wk (by decide))
    have e3 : v2 3 0 = al 1 := by rw [hO4 3 (by decide)]; exact h30
    have hty := rpn_ty hw hb.2.1.1
    have hrg : -1000000 ≤ (rpn (wdB al q p 0 at1) (lwC al 1) (lwN al 1)).headD 0 ∧ (rpn (wdB al q p 0 at1) (lwC al 1) (lwN al 1)).headD 0 ≤ 1000000 := by
      match hr : rpn (wdB al q p 0 at1) (lwC al 1) (lwN al 1), hty with
      | [x], hty => exact hty.1
      | [], hty => exact hty.elim
      | x :: y :: r, hty => exact hty.2.elim
    refine ⟨_, c, v2, hE2, ?_⟩
    rw [e3]
    exact ⟨_, c, v2, C_floorMod (by omega) (by omega), by unfold wlB; rw [if_neg h], _, rfl, hO4⟩
theorem C_careOf {v : sF} {a q p : Int} {al : Int → Int} (ha : aN a) (hR : CR v a al) (h1 : v 140 1 = a) (h2 : v 140 2 = p) (hq : 0 ≤ q ∧ q < 6) (hp : 0 ≤ p ∧ p < 6) : Ev (d + 1) 90 [(2, 140), (0, q)] (c, v) (some (0, al (42 + 6 * q + p))) (c, v) := by
  have hnt := ha.nt
  have hcare := hR.2.2.2.2.1 (q * 6 + p) (by omega) (by omega)
  refine Ev_of (loc90 q) (E90_0 q ?_)
  rw [h1, h2]
  refine cktI (beqI hnt.1) (rngI (by omega) (rngI (by omega) (cktI (beqI hnt.2.2.2.1.1) ?_)))
  rw [hnt.2.2.2.1.2]
  refine chkI (inbI (by omega) (by omega)) ⟨?_, rfl⟩
  rw [hcare]
  congr 3
  omega
end Cls2
