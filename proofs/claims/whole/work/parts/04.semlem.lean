section Lins
abbrev sG : Type := Nat → List sV → List sV → Nat → sF → Prop
abbrev sQ : Type := Option sV → sM → Prop
abbrev sK : Type := Nat → List sV → sM → Option sV → sM → Prop
/-- one road is taken, and it alone is asked for -/
def Lin (P : sG → sQ → Prop) : Prop := ∀ go fin, P go fin → (∃ pc ls st c v, go pc ls st c v ∧ ∀ go' fin', go' pc ls st c v → P go' fin') ∨ (∃ r μ, fin r μ ∧ ∀ go' fin', fin' r μ → P go' fin')
theorem Lin_go (pc : Nat) (ls st : List sV) (c : Nat) (v : sF) : Lin (fun go _ => go pc ls st c v) := fun _ _ h => Or.inl ⟨pc, ls, st, c, v, h, fun _ _ h => h⟩
theorem Lin_fin (r : Option sV) (μ : sM) : Lin (fun _ fin => fin r μ) := fun _ _ h => Or.inr ⟨r, μ, h, fun _ _ h => h⟩
theorem Lin_false : Lin (fun _ _ => False) := fun _ _ h => h.elim
theorem Lin_chk (b : Bool) {P : sG → sQ → Prop} (h : Lin P) : Lin (fun g f => chk b (P g f)) := by
  cases b
  · exact Lin_false
  · exact h
theorem Lin_ckt (b : Bool) {P : sG → sQ → Prop} (h : Lin P) : Lin (fun g f => ckt b (P g f)) := by
  cases b
  · exact Lin_false
  · exact h
theorem Lin_brb (b : Bool) {P Q : sG → sQ → Prop} (h : Lin P) (h2 : Lin Q) : Lin (fun g f => brb b (P g f) (Q g f)) := by
  cases b
  · exact h2
  · exact h
theorem Lin_pI (st : List sV) {k : Int → List sV → sG → sQ → Prop} (h : ∀ a r, Lin (k a r)) : Lin (fun g f => pI st (fun a r => k a r g f)) := by
  unfold pI
  split
  · exact h _ _
  · exact Lin_false
theorem Lin_pL (st : List sV) {k : Int → List sV → sG → sQ → Prop} (h : ∀ a r, Lin (k a r)) : Lin (fun g f => pL st (fun a r => k a r g f)) := by
  unfold pL
  split
  · exact h _ _
  · exact Lin_false
theorem Lin_pR (st : List sV) {k : Int → List sV → sG → sQ → Prop} (h : ∀ a r, Lin (k a r)) : Lin (fun g f => pR st (fun a r => k a r g f)) := by
  unfold pR
  split
  · exact h _ _
  · exact Lin_false
theorem Lin_pS (st : List sV) {k : Int → List sV → sG → sQ → Prop} (h : ∀ a r, Lin (k a r)) : Lin (fun g f => pS st (fun a r => k a r g f)) := by
  unfold pS
  split
  · exact h _ _
  · exact Lin_false
theorem Lin_p5 (st : List sV) {k : Int → List sV → sG → sQ → Prop} (h : ∀ a r, Lin (k a r)) : Lin (fun g f => p5 st (fun a r => k a r g f)) := by
  unfold p5
  split
  · exact h _ _
  · exact Lin_false
theorem Lin_p6 (st : List sV) {k : Int → List sV → sG → sQ → Prop} (h : ∀ a r, Lin (k a r)) : Lin (fun g f => p6 st (fun a r => k a r g f)) := by
  unfold p6
  split
  · exact h _ _
  · exact Lin_false
theorem Lin_hd3 (as : List sV) {P : sG → sQ → Prop} (h : Lin P) : Lin (fun g f => hd3 as (P g f)) := by
  unfold hd3
  split
  · exact h
  · exact Lin_false
theorem Lin_gI (ls : List sV) (i : Nat) {k : Int → sG → sQ → Prop} (h : ∀ a, Lin (k a)) : Lin (fun g f => gI ls i (fun a => k a g f)) := by
  unfold gI
  split
  · exact h _
  · exact Lin_false
theorem Lin_gL (ls : List sV) (i : Nat) {k : Int → sG → sQ → Prop} (h : ∀ a, Lin (k a)) : Lin (fun g f => gL ls i (fun a => k a g f)) := by
  unfold gL
  split
  · exact h _
  · exact Lin_false
theorem Lin_gA (ls : List sV) (i : Nat) {k : sV → sG → sQ → Prop} (h : ∀ a, Lin (k a)) : Lin (fun g f => gA ls i (fun a => k a g f)) := by
  unfold gA
  split
  · exact h _
  · exact h _
  · exact h _
  · exact h _
  · exact h _
  · exact Lin_false
theorem Lin_hd2 (as : List sV) {k : Int → sG → sQ → Prop} (h : ∀ a, Lin (k a)) : Lin (fun g f => hd2 as (fun a => k a g f)) := by
  unfold hd2
  split
  · exact h _
  · exact Lin_false
theorem Lin_popA (tags : List Nat) : ∀ (st acc : List sV) {k : List sV → List sV → sG → sQ → Prop} (_ : ∀ a r, Lin (k a r)), Lin (fun g f => popA tags st acc (fun a r => k a r g f)) := by
  induction tags with
  | nil => intro st acc k h; exact h _ _
  | cons t r ih =>
    intro st acc k h
    match t with
    | 0 => exact Lin_pI (k := fun a st g f => popA r st ((0, a) :: acc) (fun a r => k a r g f)) st (fun a r => ih _ _ h)
    | 1 => exact Lin_pL (k := fun a st g f => popA r st ((1, a) :: acc) (fun a r => k a r g f)) st (fun a r => ih _ _ h)
    | 2 => exact Lin_pR (k := fun a st g f => popA r st ((2, a) :: acc) (fun a r => k a r g f)) st (fun a r => ih _ _ h)
    | 3 => exact Lin_pS (k := fun a st g f => popA r st ((3, a) :: acc) (fun a r => k a r g f)) st (fun a r => ih _ _ h)
    | 4 => exact Lin_false
    | 5 => exact Lin_p5 (k := fun a st g f => popA r st ((5, a) :: acc) (fun a r => k a r g f)) st (fun a r => ih _ _ h)
    | 6 => exact Lin_p6 (k := fun a st g f => popA r st ((6, a) :: acc) (fun a r => k a r g f)) st (fun a r => ih _ _ h)
    | n + 7 => exact Lin_false
theorem Lin_tsw (x : Int) (pc : Nat) (d : Int) (ls st : List sV) (c : Nat) (v : sF) (offs : List Int) : ∀ lo : Int, Lin (fun g _ => tsw x pc d (fun q => g q ls st c v) lo offs) := by
  induction offs with
  | nil => intro lo; exact Lin_go _ _ _ _ _
  | cons o r ih => intro lo; exact Lin_brb (P := fun g _ => g (tgt pc o) ls st c v) _ (Lin_go _ _ _ _ _) (ih _)
theorem Lin_lsw (x : Int) (pc : Nat) (d : Int) (ls st : List sV) (c : Nat) (v : sF) (ps : List (Int × Int)) : Lin (fun g _ => lsw x pc d (fun q => g q ls st c v) ps) := by
  induction ps with
  | nil => exact Lin_go _ _ _ _ _
  | cons o r ih => exact Lin_brb (P := fun g _ => g (tgt pc o.2) ls st c v) _ (Lin_go _ _ _ _ _) ih
theorem Lin_ex {α : Type} {k : α → sG → sQ → Prop} (h : ∀ a, Lin (k a)) : Lin (fun g f => ∃ a, k a g f) := by
  intro go fin ⟨a, ha⟩
  rcases h a go fin ha with ⟨pc, ls, st, c, v, h1, h2⟩ | ⟨r, μ, h1, h2⟩
  · exact Or.inl ⟨pc, ls, st, c, v, h1, fun g f h => ⟨a, h2 g f h⟩⟩
  · exact Or.inr ⟨r, μ, h1, fun g f h => ⟨a, h2 g f h⟩⟩
theorem Lin_and (A : Prop) {P : sG → sQ → Prop} (h : Lin P) : Lin (fun g f => A ∧ P g f) := by
  intro go fin ⟨a, ha⟩
  rcases h go fin ha with ⟨pc, ls, st, c, v, h1, h2⟩ | ⟨r, μ, h1, h2⟩
  · exact Or.inl ⟨pc, ls, st, c, v, h1, fun g f h => ⟨a, h2 g f h⟩⟩
  · exact Or.inr ⟨r, μ, h1, fun g f h => ⟨a, h2 g f h⟩⟩
theorem Lin_may (fm gm : Nat) (μ : sM) {P : sG → sQ → Prop} (h : Lin P) : Lin (fun g f => may fm gm μ (P g f)) := by
  unfold may
  split
  · exact h
  · exact h
  · exact h
  · exact h
  · exact h
  · exact h
  · exact Lin_and _ h
  · exact h
  · exact Lin_false
theorem Lin_clR (call : sK) (rt y : Nat) (as : List sV) (μ : sM) {k : Option sV → Nat → sF → sG → sQ → Prop} (h : ∀ r c v, Lin (k r c v)) : Lin (fun g f => clR call rt y as μ (fun r c v => k r c v g f)) := by
  unfold clR
  split
  · exact Lin_ex fun x => Lin_ex fun c => Lin_ex fun v => Lin_and _ (h _ _ _)
  · exact Lin_ex fun x => Lin_ex fun c => Lin_ex fun v => Lin_and _ (h _ _ _)
  · exact Lin_ex fun x => Lin_ex fun c => Lin_ex fun v => Lin_and _ (h _ _ _)
  · exact Lin_ex fun x => Lin_ex fun c => Lin_ex fun v => Lin_and _ (h _ _ _)
  · exact Lin_ex fun x => Lin_ex fun c => Lin_ex fun v => Lin_and _ (h _ _ _)
  · exact Lin_ex fun c => Lin_ex fun v => Lin_and _ (h _ _ _)
  · exact Lin_false
theorem Lin_endI (t : Nat) (st : List sV) (μ : sM) : Lin (fun _ f => endI t st (fun r => f r μ)) := by
  unfold endI
  split
  · exact Lin_pI st fun x r => Lin_chk _ (Lin_fin _ _)
  · exact Lin_pI st fun x r => Lin_chk _ (Lin_fin _ _)
  · exact Lin_pI st fun x r => Lin_chk _ (Lin_fin _ _)
  · exact Lin_pI st fun x r => Lin_chk _ (Lin_fin _ _)
  · exact Lin_false
theorem Lin_endL (t : Nat) (st : List sV) (μ : sM) : Lin (fun _ f => endL t st (fun r => f r μ)) := by
  unfold endL
  split
  · exact Lin_pL st fun x r => Lin_chk _ (Lin_fin _ _)
  · exact Lin_false
theorem Lin_endV (t : Nat) (st : List sV) (μ : sM) : Lin (fun _ f => endV t st (fun r => f r μ)) := by
  unfold endV
  split
  · exact Lin_chk _ (Lin_fin _ _)
  · exact Lin_false
end Lins
set_option maxHeartbeats 8000000 in
set_option maxRecDepth 20000 in
theorem si_lin (call : sK) (L : Nat) (xs : Int → Int) (fm own rt : Nat) (ins : ClassFile.Instr) (len pc : Nat) (ls st : List sV) (c : Nat) (v : sF) : Lin (fun go fin => si call L xs fm own rt ins len pc ls st c v go fin) := by
  cases ins <;> unfold si <;> dsimp only <;>
  (repeat' (first
    | exact Lin_false
    | exact Lin_go _ _ _ _ _
    | refine Lin_pI _ (fun _ _ => ?_)
    | refine Lin_pL _ (fun _ _ => ?_)
    | refine Lin_pR _ (fun _ _ => ?_)
    | refine Lin_pS _ (fun _ _ => ?_)
    | refine Lin_gI _ _ (fun _ => ?_)
    | refine Lin_gL _ _ (fun _ => ?_)
    | refine Lin_gA _ _ (fun _ => ?_)
    | refine Lin_hd2 _ (fun _ => ?_)
    | refine Lin_hd3 _ ?_
    | refine Lin_popA _ _ _ (fun _ _ => ?_)
    | refine Lin_chk _ ?_
    | refine Lin_ckt _ ?_
    | refine Lin_brb _ ?_ ?_
    | refine Lin_may _ _ _ ?_
    | refine Lin_clR _ _ _ _ _ (fun _ _ _ => ?_)
    | exact Lin_tsw _ _ _ _ _ _ _ _ _
    | exact Lin_lsw _ _ _ _ _ _ _ _
    | exact Lin_endI _ _ _
    | exact Lin_endL _ _ _
    | exact Lin_endV _ _ _
    | split))
section Rns
variable {call : sK} {L : Nat} {xs : Int → Int} {y : Nat}
theorem rn_step {Q : sQ} {n pc : Nat} {ls st : List sV} {c : Nat} {v : sF} (h : rn call L xs y Q (n + 1) pc ls st c v) :
    (∃ pc' ls' st' c' v', rn call L xs y Q n pc' ls' st' c' v' ∧ ∀ (Q' : sQ) (m : Nat), rn call L xs y Q' m pc' ls' st' c' v' → rn call L xs y Q' (m + 1) pc ls st c v) ∨
    (∃ r μ, Q r μ ∧ ∀ (Q' : sQ) (m : Nat), Q' r μ → rn call L xs y Q' (m + 1) pc ls st c v) := by
  unfold rn at h
  cases hc : cdAt (mCode y) pc with
  | none => rw [hc] at h; exact h.elim
  | some il =>
    obtain ⟨ins, len⟩ := il
    rw [hc] at h
    rcases si_lin call L xs (mFm y) (mOwn y) (mRet y) ins len pc ls st c v _ _ h with ⟨pc', ls', st', c', v', h1, h2⟩ | ⟨r, μ, h1, h2⟩
    · refine Or.inl ⟨pc', ls', st', c', v', h1, fun Q' m hm => ?_⟩
      unfold rn
      rw [hc]
      exact h2 _ _ hm
    · refine Or.inr ⟨r, μ, h1, fun Q' m hm => ?_⟩
      unfold rn
      rw [hc]
      exact h2 _ _ hm
theorem rn_det {Q : sQ} : ∀ {n pc : Nat} {ls st : List sV} {c : Nat} {v : sF}, rn call L xs y Q n pc ls st c v → ∃ r μ, Q r μ ∧ rn call L xs y (fun r2 μ2 => r2 = r ∧ μ2 = μ) n pc ls st c v := by
  intro n
  induction n with
  | zero => intro pc ls st c v h; exact h.elim
  | succ n ih =>
    intro pc ls st c v h
    rcases rn_step h with ⟨pc', ls', st', c', v', h1, h2⟩ | ⟨r, μ, h1, h2⟩
    · obtain ⟨r, μ, hq, hr⟩ := ih h1
      exact ⟨r, μ, hq, h2 _ _ hr⟩
    · exact ⟨r, μ, h1, h2 _ _ ⟨rfl, rfl⟩⟩
theorem rn_mono {Q Q' : sQ} (hQ : ∀ r μ, Q r μ → Q' r μ) : ∀ {n pc : Nat} {ls st : List sV} {c : Nat} {v : sF}, rn call L xs y Q n pc ls st c v → rn call L xs y Q' n pc ls st c v := by
  intro n
  induction n with
  | zero => intro pc ls st c v h; exact h.elim
  | succ n ih =>
    intro pc ls st c v h
    rcases rn_step h with ⟨pc', ls', st', c', v', h1, h2⟩ | ⟨r, μ, h1, h2⟩
    · exact h2 _ _ (ih h1)
    · exact h2 _ _ (hQ _ _ h1)
theorem Wp_mono {Q Q' : sQ} (hQ : ∀ r μ, Q r μ → Q' r μ) {pc : Nat} {ls st : List sV} {c : Nat} {v : sF} (h : Wp call L xs y Q pc ls st c v) : Wp call L xs y Q' pc ls st c v := by
  obtain ⟨n, h⟩ := h
  exact ⟨n, rn_mono hQ h⟩
end Rns
/-- a call with what it must answer -/
def Cl (d y : Nat) (as : List sV) (c : Nat) (v : sF) (Q : Option sV → Nat → sF → Prop) : Prop := ∃ r c' v', Ev d y as (c, v) r (c', v') ∧ Q r c' v'
theorem Cl_of {d y : Nat} {as : List sV} {c : Nat} {v : sF} {Q : Option sV → Nat → sF → Prop} (h : Wp (Ev d) 0 (fun _ => 0) y (fun r μ => Q r μ.1 μ.2) 0 (loc0 as (mMax y)) [] c v) : Cl (d + 1) y as c v Q := by
  obtain ⟨n, h⟩ := h
  obtain ⟨r, μ, hq, hr⟩ := rn_det h
  exact ⟨r, μ.1, μ.2, ⟨n, hr⟩, hq⟩
section Forget
def lle (l l' : List sV) : Prop := l.length = l'.length ∧ ∀ i : Nat, l[i]? = l'[i]? ∨ l[i]? = some (9, 0)
theorem lle_rf (l : List sV) : lle l l := ⟨rfl, fun _ => Or.inl rfl⟩
theorem lle_set {l l' : List sV} (h : lle l l') (k : Nat) (x : sV) : lle (l.set k x) (l'.set k x) := by
  refine ⟨by simp [h.1], fun i => ?_⟩
  by_cases hk : k = i
  · subst hk
    left
    by_cases hl : k < l.length
    · rw [List.getElem?_set_self hl, List.getElem?_set_self (by rw [← h.1]; exact hl)]
    · rw [List.getElem?_eq_none (by simpa using hl), List.getElem?_eq_none (by simp; rw [← h.1]; omega)]
  · rw [List.getElem?_set_ne hk, List.getElem?_set_ne hk]
    exact h.2 i
theorem lle_kill {l l' : List sV} (h : lle l l') (k : Nat) : lle (l.set k (9, 0)) l' := by
  refine ⟨by simp [h.1], fun i => ?_⟩
  by_cases hk : k = i
  · subst hk
    by_cases hl : k < l.length
    · right; rw [List.getElem?_set_self hl]
    · left; rw [List.getElem?_eq_none (by simpa using hl), List.getElem?_eq_none (by rw [← h.1]; omega)]
  · rw [List.getElem?_set_ne hk]
    exact h.2 i
theorem lle_killL (ks : List Nat) : ∀ {l l' : List sV}, lle l l' → lle (killL ks l) l' := by
  induction ks with
  | nil => intro l l' h; exact h
  | cons k r ih => intro l l' h; exact ih (lle_kill h k)
theorem lle_setL {l l' : List sV} (h : lle l l') (k : Nat) (x : sV) : lle (setL l k x) (setL l' k x) := by
  unfold setL
  cases k with
  | zero => exact lle_set h 0 x
  | succ j =>
    dsimp only
    rcases h.2 j with e | e
    · rw [e]
      split
      · exact lle_set (lle_set h _ _) _ _
      · exact lle_set h _ _
    · rw [e]
      show lle (l.set (j + 1) x) _
      split
      · refine lle_set ?_ _ _
        refine ⟨by simp [h.1], fun i => ?_⟩
        by_cases hk : j = i
        · subst hk; right; exact e
        · rw [List.getElem?_set_ne hk]; exact h.2 i
      · exact lle_set h _ _
def Mon (P P' : sG → sQ → Prop) : Prop := ∀ (go go' : sG) (fin : sQ), (∀ pc l st c v l', go pc l st c v → lle l l' → go' pc l' st c v) → P go fin → P' go' fin
theorem Mon_go (pc : Nat) {ls ls' : List sV} (hl : lle ls ls') (st : List sV) (c : Nat) (v : sF) : Mon (fun go _ => go pc ls st c v) (fun go _ => go pc ls' st c v) := fun _ _ _ h h2 => h _ _ _ _ _ _ h2 hl
theorem Mon_fin (r : Option sV) (μ : sM) : Mon (fun _ fin => fin r μ) (fun _ fin => fin r μ) := fun _ _ _ _ h => h
theorem Mon_false {P : sG → sQ → Prop} : Mon (fun _ _ => False) P := fun _ _ _ _ h => h.elim
theorem Mon_chk (b : Bool) {P P' : sG → sQ → Prop} (h : Mon P P') : Mon (fun g f => chk b (P g f)) (fun g f => chk b (P' g f)) := by
  cases b
  · exact Mon_false
  · exact h
theorem Mon_ckt (b : Bool) {P P' : sG → sQ → Prop} (h : Mon P P') : Mon (fun g f => ckt b (P g f)) (fun g f => ckt b (P' g f)) := by
  cases b
  · exact Mon_false
  · exact h
theorem Mon_brb (b : Bool) {P P' Q Q' : sG → sQ → Prop} (h : Mon P P') (h2 : Mon Q Q') : Mon (fun g f => brb b (P g f) (Q g f)) (fun g f => brb b (P' g f) (Q' g f)) := by
  cases b
  · exact h2
  · exact h
theorem Mon_pI (st : List sV) {k k' : Int → List sV → sG → sQ → Prop} (h : ∀ a r, Mon (k a r) (k' a r)) : Mon (fun g f => pI st (fun a r => k a r g f)) (fun g f => pI st (fun a r => k' a r g f)) := by
  unfold pI
  split
  · exact h _ _
  · exact Mon_false
theorem Mon_pL (st : List sV) {k k' : Int → List sV → sG → sQ → Prop} (h : ∀ a r, Mon (k a r) (k' a r)) : Mon (fun g f => pL st (fun a r => k a r g f)) (fun g f => pL st (fun a r => k' a r g f)) := by
  unfold pL
  split
  · exact h _ _
  · exact Mon_false
theorem Mon_pR (st : List sV) {k k' : Int → List sV → sG → sQ → Prop} (h : ∀ a r, Mon (k a r) (k' a r)) : Mon (fun g f => pR st (fun a r => k a r g f)) (fun g f => pR st (fun a r => k' a r g f)) := by
  unfold pR
  split
  · exact h _ _
  · exact Mon_false
theorem Mon_pS (st : List sV) {k k' : Int → List sV → sG → sQ → Prop} (h : ∀ a r, Mon (k a r) (k' a r)) : Mon (fun g f => pS st (fun a r => k a r g f)) (fun g f => pS st (fun a r => k' a r g f)) := by
  unfold pS
  split
  · exact h _ _
  · exact Mon_false
theorem Mon_p5 (st : List sV) {k k' : Int → List sV → sG → sQ → Prop} (h : ∀ a r, Mon (k a r) (k' a r)) : Mon (fun g f => p5 st (fun a r => k a r g f)) (fun g f => p5 st (fun a r => k' a r g f)) := by
  unfold p5
  split
  · exact h _ _
  · exact Mon_false
theorem Mon_p6 (st : List sV) {k k' : Int → List sV → sG → sQ → Prop} (h : ∀ a r, Mon (k a r) (k' a r)) : Mon (fun g f => p6 st (fun a r => k a r g f)) (fun g f => p6 st (fun a r => k' a r g f)) := by
  unfold p6
  split
  · exact h _ _
  · exact Mon_false
theorem Mon_hd3 (as : List sV) {P P' : sG → sQ → Prop} (h : Mon P P') : Mon (fun g f => hd3 as (P g f)) (fun g f => hd3 as (P' g f)) := by
  unfold hd3
  split
  · exact h
  · exact Mon_false
theorem lle_get {ls ls' : List sV} (hl : lle ls ls') {i : Nat} {x : sV} (h : ls[i]? = some x) (h9 : x.1 ≠ 9) : ls'[i]? = some x := by
  rcases hl.2 i with e | e
  · rw [← e]; exact h
  · rw [h] at e; cases e; exact absurd rfl h9
theorem Mon_gI {ls ls' : List sV} (hl : lle ls ls') (i : Nat) {k k' : Int → sG → sQ → Prop} (h : ∀ a, Mon (k a) (k' a)) : Mon (fun g f => gI ls i (fun a => k a g f)) (fun g f => gI ls' i (fun a => k' a g f)) := by
  unfold gI
  split
  · rename_i a e
    rw [lle_get hl e (by simp)]
    exact h _
  · exact Mon_false
theorem Mon_gL {ls ls' : List sV} (hl : lle ls ls') (i : Nat) {k k' : Int → sG → sQ → Prop} (h : ∀ a, Mon (k a) (k' a)) : Mon (fun g f => gL ls i (fun a => k a g f)) (fun g f => gL ls' i (fun a => k' a g f)) := by
  unfold gL
  split
  · rename_i a e
    rw [lle_get hl e (by simp)]
    exact h _
  · exact Mon_false
theorem Mon_gA {ls ls' : List sV} (hl : lle ls ls') (i : Nat) {k k' : sV → sG → sQ → Prop} (h : ∀ a, Mon (k a) (k' a)) : Mon (fun g f => gA ls i (fun a => k a g f)) (fun g f => gA ls' i (fun a => k' a g f)) := by
  unfold gA
  split
  · rename_i a e
    rw [lle_get hl e (by simp)]
    exact h _
  · rename_i a e
    rw [lle_get hl e (by simp)]
    exact h _
  · rename_i a e
    rw [lle_get hl e (by simp)]
    exact h _
  · rename_i a e
    rw [lle_get hl e (by simp)]
    exact h _
  · rename_i a e
    rw [lle_get hl e (by simp)]
    exact h _
  · exact Mon_false
theorem Mon_hd2 (as : List sV) {k k' : Int → sG → sQ → Prop} (h : ∀ a, Mon (k a) (k' a)) : Mon (fun g f => hd2 as (fun a => k a g f)) (fun g f => hd2 as (fun a => k' a g f)) := by
  unfold hd2
  split
  · exact h _
  · exact Mon_false
theorem Mon_popA (tags : List Nat) : ∀ (st acc : List sV) {k k' : List sV → List sV → sG → sQ → Prop} (_ : ∀ a r, Mon (k a r) (k' a r)), Mon (fun g f => popA tags st acc (fun a r => k a r g f)) (fun g f => popA tags st acc (fun a r => k' a r g f)) := by
  induction tags with
  | nil => intro st acc k k' h; exact h _ _
  | cons t r ih =>
    intro st acc k k' h
    match t with
    | 0 => exact Mon_pI (k := fun a st g f => popA r st ((0, a) :: acc) (fun a r => k a r g f)) (k' := fun a st g f => popA r st ((0, a) :: acc) (fun a r => k' a r g f)) st (fun a r => ih _ _ h)
    | 1 => exact Mon_pL (k := fun a st g f => popA r st ((1, a) :: acc) (fun a r => k a r g f)) (k' := fun a st g f => popA r st ((1, a) :: acc) (fun a r => k' a r g f)) st (fun a r => ih _ _ h)
    | 2 => exact Mon_pR (k := fun a st g f => popA r st ((2, a) :: acc) (fun a r => k a r g f)) (k' := fun a st g f => popA r st ((2, a) :: acc) (fun a r => k' a r g f)) st (fun a r => ih _ _ h)
    | 3 => exact Mon_pS (k := fun a st g f => popA r st ((3, a) :: acc) (fun a r => k a r g f)) (k' := fun a st g f => popA r st ((3, a) :: acc) (fun a r => k' a r g f)) st (fun a r => ih _ _ h)
    | 4 => exact Mon_false
    | 5 => exact Mon_p5 (k := fun a st g f => popA r st ((5, a) :: acc) (fun a r => k a r g f)) (k' := fun a st g f => popA r st ((5, a) :: acc) (fun a r => k' a r g f)) st (fun a r => ih _ _ h)
    | 6 => exact Mon_p6 (k := fun a st g f => popA r st ((6, a) :: acc) (fun a r => k a r g f)) (k' := fun a st g f => popA r st ((6, a) :: acc) (fun a r => k' a r g f)) st (fun a r => ih _ _ h)
    | n + 7 => exact Mon_false
theorem Mon_tsw (x : Int) (pc : Nat) (d : Int) {ls ls' : List sV} (hl : lle ls ls') (st : List sV) (c : Nat) (v : sF) (offs : List Int) : ∀ lo : Int, Mon (fun g _ => tsw x pc d (fun q => g q ls st c v) lo offs) (fun g _ => tsw x pc d (fun q => g q ls' st c v) lo offs) := by
  induction offs with
  | nil => intro lo; exact Mon_go _ hl _ _ _
  | cons o r ih => intro lo; exact Mon_brb (P := fun g _ => g (tgt pc o) ls st c v) (P' := fun g _ => g (tgt pc o) ls' st c v) _ (Mon_go _ hl _ _ _) (ih _)
theorem Mon_lsw (x : Int) (pc : Nat) (d : Int) {ls ls' : List sV} (hl : lle ls ls') (st : List sV) (c : Nat) (v : sF) (ps : List (Int × Int)) : Mon (fun g _ => lsw x pc d (fun q => g q ls st c v) ps) (fun g _ => lsw x pc d (fun q => g q ls' st c v) ps) := by
  induction ps with
  | nil => exact Mon_go _ hl _ _ _
  | cons o r ih => exact Mon_brb (P := fun g _ => g (tgt pc o.2) ls st c v) (P' := fun g _ => g (tgt pc o.2) ls' st c v) _ (Mon_go _ hl _ _ _) ih
theorem Mon_ex {α : Type} {k k' : α → sG → sQ → Prop} (h : ∀ a, Mon (k a) (k' a)) : Mon (fun g f => ∃ a, k a g f) (fun g f => ∃ a, k' a g f) := fun go go' fin hg ⟨a, ha⟩ => ⟨a, h a go go' fin hg ha⟩
theorem Mon_and (A : Prop) {P P' : sG → sQ → Prop} (h : Mon P P') : Mon (fun g f => A ∧ P g f) (fun g f => A ∧ P' g f) := fun go go' fin hg ⟨a, ha⟩ => ⟨a, h go go' fin hg ha⟩
theorem Mon_may (fm gm : Nat) (μ : sM) {P P' : sG → sQ → Prop} (h : Mon P P') : Mon (fun g f => may fm gm μ (P g f)) (fun g f => may fm gm μ (P' g f)) := by
  unfold may
  split
  · exact h
  · exact h
  · exact h
  · exact h
  · exact h
  · exact h
  · exact Mon_and _ h
  · exact h
  · exact Mon_false
theorem Mon_clR (call : sK) (rt y : Nat) (as : List sV) (μ : sM) {k k' : Option sV → Nat → sF → sG → sQ → Prop} (h : ∀ r c v, Mon (k r c v) (k' r c v)) : Mon (fun g f => clR call rt y as μ (fun r c v => k r c v g f)) (fun g f => clR call rt y as μ (fun r c v => k' r c v g f)) := by
  unfold clR
  split
  · exact Mon_ex fun x => Mon_ex fun c => Mon_ex fun v => Mon_and _ (h _ _ _)
  · exact Mon_ex fun x => Mon_ex fun c => Mon_ex fun v => Mon_and _ (h _ _ _)
  · exact Mon_ex fun x => Mon_ex fun c => Mon_ex fun v => Mon_and _ (h _ _ _)
  · exact Mon_ex fun x => Mon_ex fun c => Mon_ex fun v => Mon_and _ (h _ _ _)
  · exact Mon_ex fun x => Mon_ex fun c => Mon_ex fun v => Mon_and _ (h _ _ _)
  · exact Mon_ex fun c => Mon_ex fun v => Mon_and _ (h _ _ _)
  · exact Mon_false
theorem Mon_id (P : sQ → Prop) : Mon (fun _ f => P f) (fun _ f => P f) := fun _ _ _ _ h => h
set_option maxHeartbeats 8000000 in
set_option maxRecDepth 20000 in
theorem si_mon (call : sK) (L : Nat) (xs : Int → Int) (fm own rt : Nat) (ins : ClassFile.Instr) (len pc : Nat) {ls ls' : List sV} (hl : lle ls ls') (st : List sV) (c : Nat) (v : sF) : Mon (fun go fin => si call L xs fm own rt ins len pc ls st c v go fin) (fun go fin => si call L xs fm own rt ins len pc ls' st c v go fin) := by
  cases ins <;> unfold si <;> dsimp only <;>
  (repeat' (first
    | exact Mon_false
    | exact Mon_id _
    | exact Mon_go _ hl _ _ _
    | exact Mon_go _ (lle_setL hl _ _) _ _ _
    | exact Mon_go _ (lle_set (lle_setL hl _ _) _ _) _ _ _
    | refine Mon_pI _ (fun _ _ => ?_)
    | refine Mon_pL _ (fun _ _ => ?_)
    | refine Mon_pR _ (fun _ _ => ?_)
    | refine Mon_pS _ (fun _ _ => ?_)
    | refine Mon_gI hl _ (fun _ => ?_)
    | refine Mon_gL hl _ (fun _ => ?_)
    | refine Mon_gA hl _ (fun _ => ?_)
    | refine Mon_hd2 _ (fun _ => ?_)
    | refine Mon_hd3 _ ?_
    | refine Mon_popA _ _ _ (fun _ _ => ?_)
    | refine Mon_chk _ ?_
    | refine Mon_ckt _ ?_
    | refine Mon_brb _ ?_ ?_
    | refine Mon_may _ _ _ ?_
    | refine Mon_clR _ _ _ _ _ (fun _ _ _ => ?_)
    | exact Mon_tsw _ _ _ hl _ _ _ _ _
    | exact Mon_lsw _ _ _ hl _ _ _ _
    | split))
end Forget
section Sxs
variable {call : sK} {L : Nat} {xs : Int → Int} {y : Nat}
theorem rn_lle {Q : sQ} : ∀ {n pc : Nat} {ls ls' st : List sV} {c : Nat} {v : sF}, lle ls ls' → rn call L xs y Q n pc ls st c v → rn call L xs y Q n pc ls' st c v := by
  intro n
  induction n with
  | zero => intro pc ls ls' st c v hl h; exact h.elim
  | succ n ih =>
    intro pc ls ls' st c v hl h
    unfold rn at h ⊢
    cases hc : cdAt (mCode y) pc with
    | none => rw [hc] at h; exact h.elim
    | some il =>
      obtain ⟨ins, len⟩ := il
      rw [hc] at h
      exact si_mon call L xs (mFm y) (mOwn y) (mRet y) ins len pc hl st c v _ _ _ (fun _ _ _ _ _ _ h1 h2 => ih h2 h1) h
theorem sx_sound {Q : sQ} (stop : List (Nat × List Nat)) (n : Nat) : ∀ {pc : Nat} {ls st : List sV} {c : Nat} {v : sF}, sx call L xs y Q stop n pc ls st c v → Wp call L xs y Q pc ls st c v := by
  induction n with
  | zero => intro pc ls st c v h; exact h.elim
  | succ n ih =>
    intro pc ls st c v h
    unfold sx at h
    cases hc : cdAt (mCode y) pc with
    | none => rw [hc] at h; exact h.elim
    | some il =>
      obtain ⟨ins, len⟩ := il
      rw [hc] at h
      rcases si_lin call L xs (mFm y) (mOwn y) (mRet y) ins len pc ls st c v _ _ h with ⟨pc', ls', st', c', v', h1, h2⟩ | ⟨r, μ, h1, h2⟩
      · have hw : Wp call L xs y Q pc' ls' st' c' v' := by
          split at h1
          · obtain ⟨m, hm⟩ := h1
            exact ⟨m, rn_lle (lle_killL _ (lle_rf _)) hm⟩
          · exact ih h1
        obtain ⟨m, hm⟩ := hw
        refine ⟨m + 1, ?_⟩
        unfold rn
        rw [hc]
        exact h2 _ _ hm
      · refine ⟨1, ?_⟩
        unfold rn
        rw [hc]
        exact h2 _ _ h1
theorem Wp_lle {Q : sQ} {pc : Nat} {ls ls' st : List sV} {c : Nat} {v : sF} (hl : lle ls ls') (h : Wp call L xs y Q pc ls st c v) : Wp call L xs y Q pc ls' st c v := by
  obtain ⟨n, h⟩ := h
  exact ⟨n, rn_lle hl h⟩
end Sxs
