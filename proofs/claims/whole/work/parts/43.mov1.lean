section Mov1
/-- people at other places -/
def pl (al w : Int → Int) : Int → Int := fun k => if 30 ≤ k ∧ k < 36 then w (k - 30) else al k
theorem pl_at {al w : Int → Int} {r : Int} (h : 0 ≤ r ∧ r < 6) : pl al w (30 + r) = w r := by unfold pl; rw [if_pos (by omega)]; congr 1; omega
theorem pl_n {al w : Int → Int} {k : Int} (h : k < 30 ∨ 36 ≤ k) : pl al w k = al k := by unfold pl; rw [if_neg (by omega)]
theorem pl_ua {al w : Int → Int} {q : Int} (h : 0 ≤ q ∧ q < 6) (x : Int) : ua (pl al w) (30 + q) x = pl al (ua w q x) := by
  funext k
  by_cases hk : 30 ≤ k ∧ k < 36
  · by_cases e : k = 30 + q
    · rw [e, ua_s, pl_at h, ua_s]
    · rw [ua_n e]
      unfold pl
      rw [if_pos hk, if_pos hk, ua_n (by omega)]
  · rw [ua_n (by omega), pl_n (by omega), pl_n (by omega)]
theorem pl_id (al : Int → Int) : pl al (fun r => al (30 + r)) = al := by
  funext k
  unfold pl
  split
  · show al (30 + (k - 30)) = al k
    congr 1; omega
  · rfl
def okW (al w : Int → Int) : Prop := ∀ r : Int, 0 ≤ r → r < 6 → 0 ≤ w r ∧ w r < al 1
theorem sameT_pl (al w : Int → Int) : sameT al (pl al w) := fun k hk => pl_n (by omega)
theorem Sn_pl {al w : Int → Int} (h : Sn al) (hw : okW al w) : Sn (pl al w) := by
  refine ⟨okT_cg (sameT_pl al w) h.1, fun q q0 q1 => ?_, fun i i0 i1 => ?_⟩
  · rw [pl_n (show (1 : Int) < 30 ∨ (36 : Int) ≤ 1 by omega), pl_at ⟨q0, q1⟩, pl_n (show 36 + q < 30 ∨ 36 ≤ 36 + q by omega)]
    exact ⟨hw q q0 q1, (h.2.1 q q0 q1).2⟩
  · rw [pl_n (show 42 + i < 30 ∨ 36 ≤ 42 + i by omega)]; exact h.2.2 i i0 i1
theorem mnA_pl {al w : Int → Int} (hT : okT al) {q p : Int} (hq : 0 ≤ q ∧ q < 6) (hp : 0 ≤ p ∧ p < 6) : mnA (pl al w) q p = mnA al q p := mnA_cg (sameT_pl al w) hT hq hp (pl_n (by omega)) (pl_n (by omega))
theorem wlA_pl {al w : Int → Int} (hT : okT al) {q p : Int} (hq : 0 ≤ q ∧ q < 6) (hp : 0 ≤ p ∧ p < 6) : wlA (pl al w) q p = wlB al q p (w q) := by
  rw [← wlB_e (okT_cg (sameT_pl al w) hT), pl_at hq]
  exact wlB_cg (sameT_pl al w) hT hq hp (pl_n (by omega)) _
theorem bst_congr2 {ok ok' : Int → Bool} {mi mi' : Int → Int} {n : Nat} (h : ∀ k : Nat, k < n → ((ok k = true ∧ 0 < mi k) ↔ (ok' k = true ∧ 0 < mi' k)) ∧ (ok k = true ∧ 0 < mi k → mi k = mi' k)) : bst ok mi n = bst ok' mi' n := by
  induction n with
  | zero => rfl
  | succ n ih =>
    have h1 := h n (Nat.lt_succ_self n)
    have ih := ih (fun k hk => h k (Nat.lt_succ_of_lt hk))
    have hr := bst_rng ok' mi' n
    show (if ok n = true ∧ (bst ok mi n).2 < mi n then ((n : Int), mi n) else bst ok mi n) = (if ok' n = true ∧ (bst ok' mi' n).2 < mi' n then ((n : Int), mi' n) else bst ok' mi' n)
    rw [ih]
    by_cases ho : ok n = true ∧ 0 < mi n
    · have ho' := h1.1.1 ho
      have e := h1.2 ho
      rw [e]
      by_cases hz : (bst ok' mi' n).2 < mi' n
      · rw [if_pos ⟨ho.1, hz⟩, if_pos ⟨ho'.1, hz⟩]
      · rw [if_neg (fun q => hz q.2), if_neg (fun q => hz q.2)]
    · have ho' : ¬ (ok' n = true ∧ 0 < mi' n) := fun q => ho (h1.1.2 q)
      rw [if_neg (fun q => ho ⟨q.1, by omega⟩), if_neg (fun q => ho' ⟨q.1, by omega⟩)]
/-- a way depends on no one who doesn't mind -/
theorem nxA_fix {al w w' : Int → Int} (hS : Sn al) {p : Int} (hp : 0 ≤ p ∧ p < 6) (hwp : w' p = w p) (hw : ∀ r : Int, 0 ≤ r → r < al 2 → r ≠ p → 0 < mnA al r p → w' r = w r) (y : Int) : nxA (pl al w') (-1) p y = nxA (pl al w) (-1) p y := by
  have hT := hS.1
  have h2 := hT.2.1
  have e2 : ∀ w, pl al w 2 = al 2 := fun w => pl_n (by omega)
  have hsd : sdA (pl al w') (-1) p y (-1) = sdA (pl al w) (-1) p y (-1) := by
    unfold sdA
    rw [e2, e2]
    refine congrArg Prod.fst (bst_congr2 (fun k hk => ?_))
    have hk6 : 0 ≤ (k : Int) ∧ (k : Int) < 6 := by omega
    have hm1 := mnA_pl (w := w) hT hk6 hp
    have hm2 := mnA_pl (w := w') hT hk6 hp
    (try dsimp only)
    rw [hm1, hm2, pl_at hk6, pl_at hk6]
    by_cases hkp : (k : Int) = p
    · simp [hkp]
    · by_cases hmn : 0 < mnA al k p
      · rw [hw k hk6.1 (by omega) hkp hmn]; exact ⟨Iff.rfl, fun _ => rfl⟩
      · exact ⟨⟨fun q => absurd q.2 hmn, fun q => absurd q.2 hmn⟩, fun q => absurd q.2 hmn⟩
  unfold nxA
  rw [pl_at hp, pl_at hp, hwp, hsd]
  by_cases h1 : y = w p
  · rw [if_pos h1, if_pos h1]
  · rw [if_neg h1, if_neg h1]
    by_cases h3 : sdA (pl al w) (-1) p y (-1) = -1
    · rw [if_pos h3, if_pos h3]
    · rw [if_neg h3, if_neg h3]
      have hs := sdA_ok (al := pl al w) (by rw [e2]; exact h2.1) h3
      rw [e2] at hs
      generalize sdA (pl al w) (-1) p y (-1) = s at *
      have hs6 : 0 ≤ s ∧ s < 6 := by omega
      rw [wlA_pl hT hs6 hp, wlA_pl hT hs6 hp]
      have hmn := hs.2.2.2.2.2
      rw [mnA_pl hT hs6 hp] at hmn
      rw [hw s hs.1.1 hs.1.2 hs.2.1 hmn]
theorem com_fix {al w w' : Int → Int} (hS : Sn al) {p : Int} (hp : 0 ≤ p ∧ p < 6) (hwp : w' p = w p) (hw : ∀ r : Int, 0 ≤ r → r < al 2 → r ≠ p → 0 < mnA al r p → w' r = w r) (x : Int) : q_com (pl al w') (-1) p x = q_com (pl al w) (-1) p x := by
  unfold q_com
  rw [pl_at hp, pl_at hp, hwp, pl_n (show (1 : Int) < 30 ∨ (36 : Int) ≤ 1 by omega), pl_n (show (1 : Int) < 30 ∨ (36 : Int) ≤ 1 by omega)]
  congr 1
  funext y
  exact nxA_fix hS hp hwp hw y
/-- how many of m people from q on are elsewhere; order -/
def mvc (al w : Int → Int) : Nat → Int → Int
  | 0, _ => 0
  | m + 1, q => (if w q = al (30 + q) then 0 else 1) + mvc al w m (q + 1)
theorem mvc_s (al w : Int → Int) (m : Nat) (q : Int) : mvc al w (m + 1) q = (if w q = al (30 + q) then 0 else 1) + mvc al w m (q + 1) := rfl
def lx (w w' : Int → Int) : Nat → Int → Prop
  | 0, _ => True
  | m + 1, q => w q < w' q ∨ (w q = w' q ∧ lx w w' m (q + 1))
theorem mvc_rng (al w : Int → Int) : ∀ (m : Nat) (q : Int), 0 ≤ mvc al w m q ∧ mvc al w m q ≤ m := by
  intro m
  induction m with
  | zero => intro q; exact ⟨by show (0 : Int) ≤ 0; decide, by show (0 : Int) ≤ 0; decide⟩
  | succ m ih => intro q; rw [mvc_s]; have := ih (q + 1); split <;> omega
theorem mvc_congr {al w w' : Int → Int} : ∀ (m : Nat) (q : Int), (∀ r : Int, q ≤ r → r < q + m → w r = w' r) → mvc al w m q = mvc al w' m q := by
  intro m
  induction m with
  | zero => intro q _; rfl
  | succ m ih => intro q h; rw [mvc_s, mvc_s, h q (by omega) (by omega), ih (q + 1) (fun r r0 r1 => h r (by omega) (by omega))]
theorem mvc_add (al w : Int → Int) : ∀ (a b : Nat) (q : Int), mvc al w (a + b) q = mvc al w a q + mvc al w b (q + a) := by
  intro a
  induction a with
  | zero => intro b q; rw [Nat.zero_add, show q + ((0 : Nat) : Int) = q by omega]; show _ = 0 + _; omega
  | succ a ih =>
    intro b q
    rw [show a + 1 + b = (a + b) + 1 by omega, mvc_s, mvc_s, ih, show q + 1 + (a : Int) = q + ((a + 1 : Nat) : Int) by omega]
    omega
theorem lx_rf (w : Int → Int) : ∀ (m : Nat) (q : Int), lx w w m q := by
  intro m
  induction m with
  | zero => intro _; trivial
  | succ m ih => intro q; exact Or.inr ⟨rfl, ih _⟩
theorem lx_congr {w1 w2 w1' w2' : Int → Int} : ∀ (m : Nat) (q : Int), (∀ r : Int, q ≤ r → r < q + m → w1 r = w1' r ∧ w2 r = w2' r) → lx w1 w2 m q → lx w1' w2' m q := by
  intro m
  induction m with
  | zero => intro _ _ _; trivial
  | succ m ih =>
    intro q h hl
    have hq := h q (by omega) (by omega)
    rcases hl with hl | ⟨hl, hl2⟩
    · left; rw [← hq.1, ← hq.2]; exact hl
    · right; exact ⟨by rw [← hq.1, ← hq.2]; exact hl, ih (q + 1) (fun r r0 r1 => h r (by omega) (by omega)) hl2⟩
theorem lx_pre {w w' : Int → Int} : ∀ (a b : Nat) (q : Int), (∀ r : Int, q ≤ r → r < q + a → w r = w' r) → lx w w' b (q + a) → lx w w' (a + b) q := by
  intro a
  induction a with
  | zero => intro b q _ h; rw [Nat.zero_add]; rw [show q + ((0 : Nat) : Int) = q by omega] at h; exact h
  | succ a ih =>
    intro b q he h
    rw [show a + 1 + b = (a + b) + 1 by omega]
    exact Or.inr ⟨he q (by omega) (by omega), ih b (q + 1) (fun r r0 r1 => he r (by omega) (by omega)) (by rw [show q + 1 + (a : Int) = q + ((a + 1 : Nat) : Int) by omega]; exact h)⟩
theorem lx_anti {w w' : Int → Int} : ∀ (m : Nat) (q : Int), lx w w' m q → lx w' w m q → ∀ r : Int, q ≤ r → r < q + m → w r = w' r := by
  intro m
  induction m with
  | zero => intro q _ _ r r0 r1; omega
  | succ m ih =>
    intro q h1 h2 r r0 r1
    rcases h1 with h1 | ⟨h1, h1b⟩
    · rcases h2 with h2 | ⟨h2, _⟩ <;> omega
    · rcases h2 with h2 | ⟨_, h2b⟩
      · omega
      · by_cases e : r = q
        · rw [e]; exact h1
        · exact ih (q + 1) h1b h2b r (by omega) (by omega)
theorem lx_tot {w w' : Int → Int} : ∀ (m : Nat) (q : Int), lx w w' m q ∨ lx w' w m q := by
  intro m
  induction m with
  | zero => intro q; left; trivial
  | succ m ih =>
    intro q
    rcases Int.lt_trichotomy (w q) (w' q) with h | h | h
    · left; exact Or.inl h
    · rcases ih (q + 1) with h2 | h2
      · left; exact Or.inr ⟨h, h2⟩
      · right; exact Or.inr ⟨h.symm, h2⟩
    · right; exact Or.inl h
/-- a placement that moves no one but by leave -/
def adM (al : Int → Int) (p : Int) (mv : Int → Prop) (w : Int → Int) : Prop := okW al w ∧ ∀ r : Int, 0 ≤ r → r < 6 → w r ≠ al (30 + r) → r < al 2 ∧ r ≠ p ∧ mv r
def mMv (al : Int → Int) (p r : Int) : Prop := 0 < mnA al r p
/-- the best one -/
def bestM (al : Int → Int) (p x : Int) (mv : Int → Prop) (w : Int → Int) : Prop := adM al p mv w ∧ q_com (pl al w) (-1) p x ≠ -1 ∧ ∀ w' : Int → Int, adM al p mv w' → q_com (pl al w') (-1) p x ≠ -1 → mvc al w (al 2).toNat 0 < mvc al w' (al 2).toNat 0 ∨ (mvc al w (al 2).toNat 0 = mvc al w' (al 2).toNat 0 ∧ lx w w' (al 2).toNat 0)
theorem bestM_uq {al w w' : Int → Int} {p x : Int} {mv : Int → Prop} (h : bestM al p x mv w) (h' : bestM al p x mv w') : mvc al w (al 2).toNat 0 = mvc al w' (al 2).toNat 0 ∧ ∀ r : Int, 0 ≤ r → r < (al 2).toNat → w r = w' r := by
  have h1 := h.2.2 w' h'.1 h'.2.1
  have h2 := h'.2.2 w h.1 h.2.1
  rcases h1 with h1 | ⟨h1, h1b⟩
  · rcases h2 with h2 | ⟨h2, _⟩ <;> omega
  · rcases h2 with h2 | ⟨_, h2b⟩
    · omega
    · exact ⟨h1, fun r r0 r1 => lx_anti _ _ h1b h2b r r0 (by omega)⟩
/-- one who doesn't mind need not be moved -/
theorem mvc_ua {al w : Int → Int} {q0 : Int} (hne : w q0 ≠ al (30 + q0)) : ∀ (m : Nat) (q : Int), q ≤ q0 → q0 < q + m → mvc al (ua w q0 (al (30 + q0))) m q + 1 = mvc al w m q := by
  intro m
  induction m with
  | zero => intro q h1 h2; omega
  | succ m ih =>
    intro q h1 h2
    rw [mvc_s, mvc_s]
    by_cases e : q = q0
    · subst e
      rw [ua_s, if_pos rfl, if_neg hne, mvc_congr (w' := w) m (q + 1) (fun r r0 r1 => ua_n (by omega))]
      omega
    · have := ih (q + 1) (by omega) (by omega)
      rw [ua_n e]
      omega
theorem best_all {al w : Int → Int} {p x : Int} (hS : Sn al) (hp : 0 ≤ p ∧ p < 6) (h : bestM al p x (mMv al p) w) : bestM al p x (fun _ => True) w := by
  refine ⟨⟨h.1.1, fun r r0 r1 hne => ⟨(h.1.2 r r0 r1 hne).1, (h.1.2 r r0 r1 hne).2.1, trivial⟩⟩, h.2.1, fun w' ha hc => ?_⟩
  -- by the number of those who don't mind and are moved
  have key : ∀ (n : Nat) (w' : Int → Int), adM al p (fun _ => True) w' → q_com (pl al w') (-1) p x ≠ -1 → mvc al w' (al 2).toNat 0 = n → mvc al w (al 2).toNat 0 < mvc al w' (al 2).toNat 0 ∨ (mvc al w (al 2).toNat 0 = mvc al w' (al 2).toNat 0 ∧ lx w w' (al 2).toNat 0) := by
    intro n
    induction n with
    | zero =>
      intro w' ha hc hn
      refine h.2.2 w' ⟨ha.1, fun r r0 r1 hne => ?_⟩ hc
      have har := ha.2 r r0 r1 hne
      have := mvc_ua hne (al 2).toNat 0 r0 (by omega)
      have := mvc_rng al (ua w' r (al (30 + r))) (al 2).toNat 0
      omega
    | succ n ih =>
      intro w' ha hc hn
      by_cases hx : ∃ r : Int, (0 ≤ r ∧ r < 6) ∧ w' r ≠ al (30 + r) ∧ ¬ mMv al p r
      · obtain ⟨r, hr, hne, hmv⟩ := hx
        have har := ha.2 r hr.1 hr.2 hne
        have hm := mvc_ua hne (al 2).toNat 0 hr.1 (by omega)
        have hat := (hS.2.1 r hr.1 hr.2).1
        have := ih (ua w' r (al (30 + r))) ⟨fun s s0 s1 => ?_, fun s s0 s1 hs => ?_⟩ ?_ (by omega)
        · left; omega
        · by_cases e : s = r
          · rw [e, ua_s]; exact hat
          · rw [ua_n e]; exact ha.1 s s0 s1
        · by_cases e : s = r
          · rw [e, ua_s] at hs; exact absurd rfl hs
          · rw [ua_n e] at hs; exact ha.2 s s0 s1 hs
        · rw [com_fix (w := w') hS hp (ua_n (fun q => har.2.1 q.symm)) (fun s s0 s1 hsp hsm => ua_n (fun q => hmv (by rw [← q]; exact hsm)))]
          exact hc
      · refine h.2.2 w' ⟨ha.1, fun r r0 r1 hne => ?_⟩ hc
        have har := ha.2 r r0 r1 hne
        refine ⟨har.1, har.2.1, Classical.byContradiction fun q => hx ⟨r, ⟨r0, r1⟩, hne, q⟩⟩
  have hr := mvc_rng al w' (al 2).toNat 0
  exact key (mvc al w' (al 2).toNat 0).toNat w' ha hc (by omega)
theorem none_all {al : Int → Int} {p x : Int} (hS : Sn al) (hp : 0 ≤ p ∧ p < 6) (h : ∀ w, adM al p (mMv al p) w → q_com (pl al w) (-1) p x = -1) : ∀ w, adM al p (fun _ => True) w → q_com (pl al w) (-1) p x = -1 := by
  intro w ha
  obtain ⟨w', hw'⟩ : ∃ w' : Int → Int, ∀ r, (0 < mnA al r p → w' r = w r) ∧ (¬ 0 < mnA al r p → w' r = al (30 + r)) := ⟨fun r => if 0 < mnA al r p then w r else al (30 + r), fun r => ⟨fun q => if_pos q, fun q => if_neg q⟩⟩
  have hwp : w p = al (30 + p) := Classical.byContradiction fun z => (ha.2 p hp.1 hp.2 z).2.1 rfl
  have e := com_fix (al := al) (w := w) (w' := w') hS hp (by
    by_cases q : 0 < mnA al p p
    · exact (hw' p).1 q
    · rw [(hw' p).2 q, hwp]) (fun r r0 r1 hrp hm => (hw' r).1 hm) x
  rw [← e]
  refine h _ ⟨fun r r0 r1 => ?_, fun r r0 r1 hne => ?_⟩
  · by_cases q : 0 < mnA al r p
    · rw [(hw' r).1 q]; exact ha.1 r r0 r1
    · rw [(hw' r).2 q]; exact (hS.2.1 r r0 r1).1
  · by_cases q : 0 < mnA al r p
    · rw [(hw' r).1 q] at hne
      have := ha.2 r r0 r1 hne
      exact ⟨this.1, this.2.1, q⟩
    · exact absurd ((hw' r).2 q) hne
end Mov1
