section Tabs
theorem lk_all {α : Type} {t : List (List (Nat × α))} {p : Nat × α → Bool} (h : t.all (fun l => l.all p) = true) {own idx : Nat} {x : α} (hx : lk t own idx = some x) : p (idx, x) = true := by
  unfold lk at hx
  cases hf : (t.getD own []).find? (fun q => q.1 == idx) with
  | none => rw [hf] at hx; cases hx
  | some q =>
    rw [hf] at hx
    cases hx
    have h1 : q ∈ t.getD own [] := List.mem_of_find?_eq_some hf
    have h2 := List.find?_some hf
    have h3 : t.getD own [] ∈ t := by
      by_cases ho : own < t.length
      · rw [List.getD_eq_getElem?_getD, List.getElem?_eq_getElem ho]; exact List.getElem_mem ho
      · rw [List.getD_eq_getElem?_getD, List.getElem?_eq_none (by omega)] at h1; simp at h1
    have h4 := List.all_eq_true.mp (List.all_eq_true.mp h _ h3) _ h1
    have h5 : q.1 = idx := by simpa using h2
    obtain ⟨q1, q2⟩ := q
    cases h5
    exact h4
def nF (ci : Nat) : Nat := (fTags.getD ci []).length
theorem fTab_ok : fTab.all (fun l => l.all (fun q => decide (q.2.1 < 13) && decide (q.2.2 < nF q.2.1) && (decide (fTag q.2.1 q.2.2 < 3) || decide (fTag q.2.1 q.2.2 = 4)))) = true := by decide +kernel
theorem cTab_ok : cTab.all (fun l => l.all (fun q => decide (q.2 < 13))) = true := by decide +kernel
theorem kTab_ok : kTab.all (fun l => l.all (fun q => decide (q.2.1 = 0) && decide (-2147483648 ≤ q.2.2) && decide (q.2.2 ≤ 2147483647) || decide (q.2.1 = 1) && decide (-9223372036854775808 ≤ q.2.2) && decide (q.2.2 ≤ 9223372036854775807) || decide (q.2.1 = 3) && decide (0 ≤ q.2.2) && decide (q.2.2 < 4))) = true := by decide +kernel
theorem sTab_ok : sTab.all (fun l => decide (l.length < 200) && l.all (fun x => decide (0 ≤ x) && decide (x < 128))) = true := by decide +kernel
/-- a fact of every cell's number -/
theorem ids_all (p : Nat → Bool) (h : (List.range 224).all p = true) (h0 : ∀ n, 224 ≤ n → p n = true) (n : Nat) : p n = true := by
  by_cases hn : n < 224
  · exact List.all_eq_true.mp h n (List.mem_range.mpr hn)
  · exact h0 n (by omega)
theorem tyT_big {a : Int} (h : 224 ≤ a.toNat) : tyT a = 0 := by
  unfold tyT
  have h1 : (14 : Nat) ≤ a.toNat / 16 := by omega
  have h2 : tyTab.length = 14 := by decide
  rw [List.getD_eq_getElem?_getD (l := tyTab), List.getElem?_eq_none (by omega)]
  simp
theorem lnT_big {a : Int} (h : 224 ≤ a.toNat) : lnT a = 0 := by
  unfold lnT
  have h1 : (14 : Nat) ≤ a.toNat / 16 := by omega
  have h2 : lnTab.length = 14 := by decide
  rw [List.getD_eq_getElem?_getD (l := lnTab), List.getElem?_eq_none (by omega)]
  simp
theorem tyT_nat (a : Int) : tyT a = tyT (a.toNat : Int) := by unfold tyT; simp only [Int.toNat_natCast]
theorem lnT_nat (a : Int) : lnT a = lnT (a.toNat : Int) := by unfold lnT; simp only [Int.toNat_natCast]
/-- what the table says of a cell -/
def idOk (n : Nat) : Bool := decide (0 ≤ lnT n) && decide (lnT n < 100000) && (decide (tyT n = 0) || decide (tyT n = 1) || decide (tyT n = 2) || decide (tyT n = 3) || decide (tyT n = 4) || (decide (10 ≤ tyT n) && decide (tyT n < 23) && decide (lnT n = nF (tyT n - 10))) || (decide (43 ≤ tyT n) && decide (tyT n < 50)))
theorem idOk_all (n : Nat) : idOk n = true := by
  refine ids_all idOk (by decide +kernel) (fun n hn => ?_) n
  have h1 : tyT (n : Int) = 0 := tyT_big (by simpa using hn)
  have h2 : lnT (n : Int) = 0 := lnT_big (by simpa using hn)
  simp [idOk, h1, h2]
theorem ln_ok (a : Int) : 0 ≤ lnT a ∧ lnT a < 100000 := by
  have h := idOk_all a.toNat
  simp only [idOk, Bool.and_eq_true, decide_eq_true_eq] at h
  rw [lnT_nat a]
  exact ⟨h.1.1, h.1.2⟩
theorem ty_obj {a : Int} {ci : Nat} (h : tyT a = 10 + ci) (hc : ci < 13) : lnT a = nF ci := by
  have h2 := idOk_all a.toNat
  rw [tyT_nat] at h
  rw [lnT_nat]
  simp only [idOk, Bool.and_eq_true, Bool.or_eq_true, decide_eq_true_eq] at h2
  rcases h2.2 with (((((h3 | h3) | h3) | h3) | h3) | h3) | h3
  · omega
  · omega
  · omega
  · omega
  · omega
  · rw [h3.2, h, Nat.add_sub_cancel_left]
  · omega
theorem ty_rng (a : Int) : tyT a ≤ 4 ∨ (10 ≤ tyT a ∧ tyT a < 23) ∨ (43 ≤ tyT a ∧ tyT a < 50) := by
  have h2 := idOk_all a.toNat
  rw [tyT_nat]
  simp only [idOk, Bool.and_eq_true, Bool.or_eq_true, decide_eq_true_eq] at h2
  omega
theorem ty_pos {a : Int} (h : tyT a ≠ 0) : 1 ≤ a := by
  rcases Int.lt_or_le 0 a with h1 | h1
  · omega
  · exfalso
    apply h
    rw [tyT_nat, Int.toNat_of_nonpos h1]
    decide
end Tabs
section Invs
def okV (c : Nat) (x : sV) : Prop := match x.1 with
  | 0 => -2147483648 ≤ x.2 ∧ x.2 ≤ 2147483647
  | 1 => -9223372036854775808 ≤ x.2 ∧ x.2 ≤ 9223372036854775807
  | 2 => 0 ≤ x.2 ∧ x.2 ≤ c
  | 3 => 0 ≤ x.2 ∧ x.2 < 4
  | 5 => 0 ≤ x.2 ∧ x.2 < 4
  | _ => True
def slT (a i : Int) : Nat := if tyT a = 2 then 1 else if tyT a < 10 then 0 else if tyT a < 40 then fTag (tyT a - 10) i.toNat % 4 else 2
def okM (c : Nat) (v : sF) : Prop := ∀ a i : Int, 1 ≤ a → a ≤ c → 0 ≤ i → i < lnT a → okV c (slT a i, v a i)
def okL (c : Nat) (l : List sV) : Prop := ∀ x ∈ l, okV c x
theorem okV_mono {c c' : Nat} (h : c ≤ c') {x : sV} (hx : okV c x) : okV c' x := by
  obtain ⟨t, x⟩ := x
  match t, hx with
  | 0, hx => exact hx
  | 1, hx => exact hx
  | 2, hx => exact ⟨hx.1, by have := hx.2; dsimp only at *; omega⟩
  | 3, hx => exact hx
  | 4, _ => trivial
  | 5, hx => exact hx
  | n + 6, _ => trivial
theorem okL_mono {c c' : Nat} (h : c ≤ c') {l : List sV} (hx : okL c l) : okL c' l := fun x hm => okV_mono h (hx x hm)
theorem okL_cons {c : Nat} {x : sV} {l : List sV} (hx : okV c x) (hl : okL c l) : okL c (x :: l) := by
  intro y hy
  rcases List.mem_cons.mp hy with rfl | h
  · exact hx
  · exact hl y h
theorem okL_tl {c : Nat} {x : sV} {l : List sV} (h : okL c (x :: l)) : okL c l := fun y hy => h y (List.mem_cons_of_mem _ hy)
theorem okL_hd {c : Nat} {x : sV} {l : List sV} (h : okL c (x :: l)) : okV c x := h x List.mem_cons_self
theorem okL_set {c : Nat} {l : List sV} (h : okL c l) (k : Nat) {x : sV} (hx : okV c x) : okL c (l.set k x) := by
  intro y hy
  rcases List.mem_or_eq_of_mem_set hy with h1 | h1
  · exact h y h1
  · rw [h1]; exact hx
theorem okV_9 (c : Nat) : okV c (9, 0) := trivial
theorem okL_setL {c : Nat} {l : List sV} (h : okL c l) (k : Nat) {x : sV} (hx : okV c x) : okL c (setL l k x) := by
  unfold setL
  split
  · exact okL_set h _ hx
  · split
    · exact okL_set (okL_set h _ (okV_9 c)) _ hx
    · exact okL_set h _ hx
theorem okL_get {c : Nat} {l : List sV} (h : okL c l) {k : Nat} {x : sV} (hx : l[k]? = some x) : okV c x := h x (List.mem_of_getElem? hx)
theorem okM_up {c : Nat} {v : sF} (h : okM c v) {a i x : Int} (hx : okV c (slT a i, x)) : okM c (up v a i x) := by
  intro b j h1 h2 h3 h4
  unfold up
  split
  · rename_i e
    obtain ⟨rfl, rfl⟩ := e
    exact hx
  · exact h b j h1 h2 h3 h4
theorem slT_z (c : Nat) (a i : Int) : okV c (slT a i, 0) := by
  unfold slT
  split
  · exact ⟨by decide, by decide⟩
  · split
    · exact ⟨by decide, by decide⟩
    · split
      · have h : fTag (tyT a - 10) i.toNat % 4 < 4 := Nat.mod_lt _ (by decide)
        generalize fTag (tyT a - 10) i.toNat % 4 = t at h ⊢
        match t, h with
        | 0, _ => exact ⟨by decide, by decide⟩
        | 1, _ => exact ⟨by decide, by decide⟩
        | 2, _ => exact ⟨by decide, by dsimp only; omega⟩
        | 3, _ => exact ⟨by decide, by decide⟩
      · exact ⟨by decide, by dsimp only; omega⟩
theorem okM_new {c : Nat} {v : sF} (h : okM c v) : okM (c + 1) (zer v ((c : Int) + 1)) := by
  intro b j h1 h2 h3 h4
  unfold zer
  split
  · exact slT_z _ _ _
  · exact okV_mono (Nat.le_succ c) (h b j h1 (by omega) h3 h4)
theorem okM_cpy {c : Nat} {v : sF} (h : okM c v) {s sp d dp n : Int} (ht : tyT s = tyT d) (h10 : tyT s < 10) (hs : 1 ≤ s) (hsc : s ≤ c) (h1 : 0 ≤ sp) (h2 : sp + n ≤ lnT s) : okM c (cpy v s sp d dp n) := by
  intro b j hb1 hb2 hb3 hb4
  unfold cpy
  split
  · rename_i e
    have h3 := h s (sp + (j - dp)) hs hsc (by omega) (by omega)
    have e1 : slT b j = slT s (sp + (j - dp)) := by
      unfold slT
      rw [e.1, ← ht]
      simp [h10]
    rw [e1]
    exact h3
  · exact h b j hb1 hb2 hb3 hb4
theorem w32_rng (x : Int) : -2147483648 ≤ w32 x ∧ w32 x ≤ 2147483647 := by unfold w32; omega
theorem w64_rng (x : Int) : -9223372036854775808 ≤ w64 x ∧ w64 x ≤ 9223372036854775807 := by unfold w64; omega
theorem w8_rng (x : Int) : -128 ≤ w8 x ∧ w8 x ≤ 127 := by unfold w8; omega
theorem w16_rng (x : Int) : -32768 ≤ w16 x ∧ w16 x ≤ 32767 := by unfold w16; omega
theorem i32_rng (x : Int32) : -2147483648 ≤ x.toInt ∧ x.toInt ≤ 2147483647 := by
  have h1 := x.le_toInt
  have h2 := x.toInt_le
  have h3 : Int32.maxValue.toInt = 2147483647 := by decide
  have h4 : Int32.minValue.toInt = -2147483648 := by decide
  omega
theorem i64_rng (x : Int64) : -9223372036854775808 ≤ x.toInt ∧ x.toInt ≤ 9223372036854775807 := by
  have h1 := x.le_toInt
  have h2 := x.toInt_le
  have h3 : Int64.maxValue.toInt = 9223372036854775807 := by decide
  have h4 : Int64.minValue.toInt = -9223372036854775808 := by decide
  omega
theorem tmod_rng {a b lo hi : Int} (ha : lo ≤ a ∧ a ≤ hi) (hlo : lo ≤ 0) (hhi : 0 ≤ hi) : lo ≤ Int.tmod a b ∧ Int.tmod a b ≤ hi := by
  have h0 := Int.natAbs_tmod a b
  have h9 := Nat.mod_le a.natAbs b.natAbs
  rcases Int.le_total 0 a with h | h
  · have h1 := Int.tmod_nonneg b h
    omega
  · have h1 : Int.tmod (-a) b = - Int.tmod a b := Int.neg_tmod a b
    have h2 := Int.tmod_nonneg b (show 0 ≤ -a by omega)
    omega
theorem lcm1_rng (a b : Int) : -2147483648 ≤ lcm1 a b ∧ lcm1 a b ≤ 2147483647 := by
  unfold lcm1
  split
  · decide
  · split <;> decide
end Invs
section Pres
abbrev sJ : Type := Option sV → sM → Prop
def Pres (I : sG) (J : sJ) (P : sG → sQ → Prop) : Prop := ∀ go fin, P go fin → P (fun pc ls st c v => I pc ls st c v ∧ go pc ls st c v) (fun r μ => J r μ ∧ fin r μ)
variable {I : sG} {J : sJ}
theorem Pres_go {pc : Nat} {ls st : List sV} {c : Nat} {v : sF} (h : I pc ls st c v) : Pres I J (fun go _ => go pc ls st c v) := fun _ _ h2 => ⟨h, h2⟩
theorem Pres_fin {r : Option sV} {μ : sM} (h : J r μ) : Pres I J (fun _ fin => fin r μ) := fun _ _ h2 => ⟨h, h2⟩
theorem Pres_false : Pres I J (fun _ _ => False) := fun _ _ h => h.elim
theorem Pres_chk (b : Bool) {P : sG → sQ → Prop} (h : b = true → Pres I J P) : Pres I J (fun g f => chk b (P g f)) := by
  cases b
  · exact Pres_false
  · exact h rfl
theorem Pres_ckt (b : Bool) {P : sG → sQ → Prop} (h : b = true → Pres I J P) : Pres I J (fun g f => ckt b (P g f)) := by
  cases b
  · exact Pres_false
  · exact h rfl
theorem Pres_brb (b : Bool) {P Q : sG → sQ → Prop} (h : Pres I J P) (h2 : Pres I J Q) : Pres I J (fun g f => brb b (P g f) (Q g f)) := by
  cases b
  · exact h2
  · exact h
theorem Pres_pI (st : List sV) {k : Int → List sV → sG → sQ → Prop} (h : ∀ a r, st = (0, a) :: r → Pres I J (k a r)) : Pres I J (fun g f => pI st (fun a r => k a r g f)) := by
  unfold pI
  split
  · exact h _ _ rfl
  · exact Pres_false
theorem Pres_pL (st : List sV) {k : Int → List sV → sG → sQ → Prop} (h : ∀ a r, st = (1, a) :: r → Pres I J (k a r)) : Pres I J (fun g f => pL st (fun a r => k a r g f)) := by
  unfold pL
  split
  · exact h _ _ rfl
  · exact Pres_false
theorem Pres_pR (st : List sV) {k : Int → List sV → sG → sQ → Prop} (h : ∀ a r, st = (2, a) :: r → Pres I J (k a r)) : Pres I J (fun g f => pR st (fun a r => k a r g f)) := by
  unfold pR
  split
  · exact h _ _ rfl
  · exact Pres_false
theorem Pres_pS (st : List sV) {k : Int → List sV → sG → sQ → Prop} (h : ∀ a r, st = (3, a) :: r → Pres I J (k a r)) : Pres I J (fun g f => pS st (fun a r => k a r g f)) := by
  unfold pS
  split
  · exact h _ _ rfl
  · exact Pres_false
theorem Pres_p5 (st : List sV) {k : Int → List sV → sG → sQ → Prop} (h : ∀ a r, st = (5, a) :: r → Pres I J (k a r)) : Pres I J (fun g f => p5 st (fun a r => k a r g f)) := by
  unfold p5
  split
  · exact h _ _ rfl
  · exact Pres_false
theorem Pres_p6 (st : List sV) {k : Int → List sV → sG → sQ → Prop} (h : ∀ a r, st = (6, a) :: r → Pres I J (k a r)) : Pres I J (fun g f => p6 st (fun a r => k a r g f)) := by
  unfold p6
  split
  · exact h _ _ rfl
  · exact Pres_false
theorem Pres_hd3 (as : List sV) {P : sG → sQ → Prop} (h : Pres I J P) : Pres I J (fun g f => hd3 as (P g f)) := by
  unfold hd3
  split
  · exact h
  · exact Pres_false
theorem Pres_gI (ls : List sV) (i : Nat) {k : Int → sG → sQ → Prop} (h : ∀ a, ls[i]? = some (0, a) → Pres I J (k a)) : Pres I J (fun g f => gI ls i (fun a => k a g f)) := by
  unfold gI
  split
  · exact h _ (by assumption)
  · exact Pres_false
theorem Pres_gL (ls : List sV) (i : Nat) {k : Int → sG → sQ → Prop} (h : ∀ a, ls[i]? = some (1, a) → Pres I J (k a)) : Pres I J (fun g f => gL ls i (fun a => k a g f)) := by
  unfold gL
  split
  · exact h _ (by assumption)
  · exact Pres_false
theorem Pres_gA (ls : List sV) (i : Nat) {k : sV → sG → sQ → Prop} (h : ∀ a, ls[i]? = some a → Pres I J (k a)) : Pres I J (fun g f => gA ls i (fun a => k a g f)) := by
  unfold gA
  split
  · exact h _ (by assumption)
  · exact h _ (by assumption)
  · exact h _ (by assumption)
  · exact h _ (by assumption)
  · exact h _ (by assumption)
  · exact Pres_false
theorem Pres_hd2 (as : List sV) {k : Int → sG → sQ → Prop} (h : ∀ a, Pres I J (k a)) : Pres I J (fun g f => hd2 as (fun a => k a g f)) := by
  unfold hd2
  split
  · exact h _
  · exact Pres_false
theorem Pres_popA (tags : List Nat) : ∀ (c : Nat) (st acc : List sV) {k : List sV → List sV → sG → sQ → Prop} (_ : okL c st) (_ : okL c acc) (_ : ∀ a r, okL c a → okL c r → Pres I J (k a r)), Pres I J (fun g f => popA tags st acc (fun a r => k a r g f)) := by
  induction tags with
  | nil => intro c st acc k h1 h2 h; exact h _ _ h2 h1
  | cons t r ih =>
    intro c st acc k h1 h2 h
    match t with
    | 0 => exact Pres_pI (k := fun a st g f => popA r st ((0, a) :: acc) (fun a r => k a r g f)) st (fun a r e => ih c _ _ (by subst e; exact okL_tl h1) (by subst e; exact okL_cons (okL_hd h1) h2) h)
    | 1 => exact Pres_pL (k := fun a st g f => popA r st ((1, a) :: acc) (fun a r => k a r g f)) st (fun a r e => ih c _ _ (by subst e; exact okL_tl h1) (by subst e; exact okL_cons (okL_hd h1) h2) h)
    | 2 => exact Pres_pR (k := fun a st g f => popA r st ((2, a) :: acc) (fun a r => k a r g f)) st (fun a r e => ih c _ _ (by subst e; exact okL_tl h1) (by subst e; exact okL_cons (okL_hd h1) h2) h)
    | 3 => exact Pres_pS (k := fun a st g f => popA r st ((3, a) :: acc) (fun a r => k a r g f)) st (fun a r e => ih c _ _ (by subst e; exact okL_tl h1) (by subst e; exact okL_cons (okL_hd h1) h2) h)
    | 4 => exact Pres_false
    | 5 => exact Pres_p5 (k := fun a st g f => popA r st ((5, a) :: acc) (fun a r => k a r g f)) st (fun a r e => ih c _ _ (by subst e; exact okL_tl h1) (by subst e; exact okL_cons (okL_hd h1) h2) h)
    | 6 => exact Pres_p6 (k := fun a st g f => popA r st ((6, a) :: acc) (fun a r => k a r g f)) st (fun a r e => ih c _ _ (by subst e; exact okL_tl h1) (by subst e; exact okL_cons (okL_hd h1) h2) h)
    | n + 7 => exact Pres_false
theorem Pres_tsw (x : Int) (pc : Nat) (d : Int) (ls st : List sV) (c : Nat) (v : sF) (h : ∀ q, I q ls st c v) (offs : List Int) : ∀ lo : Int, Pres I J (fun g _ => tsw x pc d (fun q => g q ls st c v) lo offs) := by
  induction offs with
  | nil => intro lo; exact Pres_go (h _)
  | cons o r ih => intro lo; exact Pres_brb (P := fun g _ => g (tgt pc o) ls st c v) _ (Pres_go (h _)) (ih _)
theorem Pres_lsw (x : Int) (pc : Nat) (d : Int) (ls st : List sV) (c : Nat) (v : sF) (h : ∀ q, I q ls st c v) (ps : List (Int × Int)) : Pres I J (fun g _ => lsw x pc d (fun q => g q ls st c v) ps) := by
  induction ps with
  | nil => exact Pres_go (h _)
  | cons o r ih => exact Pres_brb (P := fun g _ => g (tgt pc o.2) ls st c v) _ (Pres_go (h _)) ih
theorem Pres_ex {α : Type} {k : α → sG → sQ → Prop} (h : ∀ a, Pres I J (k a)) : Pres I J (fun g f => ∃ a, k a g f) := fun go fin ⟨a, ha⟩ => ⟨a, h a go fin ha⟩
theorem Pres_and (A : Prop) {P : sG → sQ → Prop} (h : A → Pres I J P) : Pres I J (fun g f => A ∧ P g f) := fun go fin ⟨a, ha⟩ => ⟨a, h a go fin ha⟩
theorem Pres_may (fm gm : Nat) (μ : sM) {P : sG → sQ → Prop} (h : (fm = 1 → gm = 1 ∨ gm = 2) → (gm = 1 → fm = 1 ∨ FullP μ) → (fm = 2 → gm = 2) → Pres I J P) : Pres I J (fun g f => may fm gm μ (P g f)) := by
  unfold may
  split
  · exact h (fun _ => Or.inl rfl) (fun _ => Or.inl rfl) (fun h => by cases h)
  · exact h (fun _ => Or.inr rfl) (fun h => by cases h) (fun h => by cases h)
  · exact h (fun h => by cases h) (fun h => by cases h) (fun _ => rfl)
  · exact h (fun h => by cases h) (fun h => by cases h) (fun h => by cases h)
  · exact h (fun h => by cases h) (fun h => by cases h) (fun h => by cases h)
  · exact h (fun h => by cases h) (fun h => by cases h) (fun h => by cases h)
  · exact Pres_and _ (fun hf => h (fun h => by cases h) (fun _ => Or.inr hf) (fun h => by cases h))
  · exact h (fun h => by cases h) (fun h => by cases h) (fun h => by cases h)
  · exact Pres_false
theorem Pres_clR (call : sK) (rt y : Nat) (as : List sV) (μ : sM) {k : Option sV → Nat → sF → sG → sQ → Prop} (h : ∀ r c v, call y as μ r (c, v) → Pres I J (k r c v)) : Pres I J (fun g f => clR call rt y as μ (fun r c v => k r c v g f)) := by
  unfold clR
  split
  · exact Pres_ex fun x => Pres_ex fun c => Pres_ex fun v => Pres_and _ (h _ _ _)
  · exact Pres_ex fun x => Pres_ex fun c => Pres_ex fun v => Pres_and _ (h _ _ _)
  · exact Pres_ex fun x => Pres_ex fun c => Pres_ex fun v => Pres_and _ (h _ _ _)
  · exact Pres_ex fun x => Pres_ex fun c => Pres_ex fun v => Pres_and _ (h _ _ _)
  · exact Pres_ex fun x => Pres_ex fun c => Pres_ex fun v => Pres_and _ (h _ _ _)
  · exact Pres_ex fun c => Pres_ex fun v => Pres_and _ (h _ _ _)
  · exact Pres_false
theorem Pres_endI (t : Nat) (st : List sV) (μ : sM) (h : ∀ x, (0, x) ∈ st → J (some (0, x)) μ) : Pres I J (fun _ f => endI t st (fun r => f r μ)) := by
  unfold endI
  split
  · exact Pres_pI st fun x r e => Pres_chk _ (fun _ => Pres_fin (h x (by rw [e]; exact List.mem_cons_self)))
  · exact Pres_pI st fun x r e => Pres_chk _ (fun _ => Pres_fin (h x (by rw [e]; exact List.mem_cons_self)))
  · exact Pres_pI st fun x r e => Pres_chk _ (fun _ => Pres_fin (h x (by rw [e]; exact List.mem_cons_self)))
  · exact Pres_pI st fun x r e => Pres_chk _ (fun _ => Pres_fin (h x (by rw [e]; exact List.mem_cons_self)))
  · exact Pres_false
theorem Pres_endL (t : Nat) (st : List sV) (μ : sM) (h : ∀ x, (1, x) ∈ st → J (some (1, x)) μ) : Pres I J (fun _ f => endL t st (fun r => f r μ)) := by
  unfold endL
  split
  · exact Pres_pL st fun x r e => Pres_chk _ (fun _ => Pres_fin (h x (by rw [e]; exact List.mem_cons_self)))
  · exact Pres_false
theorem Pres_endV (t : Nat) (st : List sV) (μ : sM) (h : J none μ) : Pres I J (fun _ f => endV t st (fun r => f r μ)) := by
  unfold endV
  split
  · exact Pres_chk _ (fun _ => Pres_fin h)
  · exact Pres_false
end Pres
/-- what a frame keeps -/
def Inv (c0 : Nat) (ff : Prop) (ls st : List sV) (c : Nat) (v : sF) : Prop := c0 ≤ c ∧ okL c ls ∧ okL c st ∧ okM c v ∧ (ff → FullP (c, v))
def okR (c : Nat) (r : Option sV) : Prop := ∀ x, r = some x → okV c x
def JJ (c0 : Nat) (ff : Prop) (r : Option sV) (μ : sM) : Prop := c0 ≤ μ.1 ∧ okR μ.1 r ∧ okM μ.1 μ.2 ∧ (ff → FullP μ)
theorem okR_push {c : Nat} {r : Option sV} {st : List sV} (h : okR c r) (hs : okL c st) : okL c (pushR r st) := by
  cases r with
  | none => exact hs
  | some x => exact okL_cons (h x rfl) hs
/-- what a callee keeps -/
def callOk (call : sK) : Prop := ∀ y as c v r c' v', call y as (c, v) r (c', v') → okL c as → okM c v → (mFm y = 1 → FullP (c, v)) → c ≤ c' ∧ okR c' r ∧ okM c' v' ∧ (mFm y = 1 → FullP (c', v')) ∧ (mFm y = 2 → FullP (c, v) → FullP (c', v'))
theorem Full_up {c : Nat} {v : sF} (h : FullP (c, v)) {a i x : Int} (hs : ∀ ci k : Nat, tyT a = 10 + ci → i = (k : Int) → isSt ci k = false) (ha : tyT a < 40) : FullP (c, up v a i x) := by
  obtain ⟨h1, h2, h3⟩ := h
  refine ⟨h1, fun b ci k p1 p2 p3 p4 => ?_, fun b j p1 p2 p3 p4 => ?_⟩
  · dsimp only at p2 ⊢
    unfold up
    split
    · rename_i e
      have := hs ci k (by rw [← e.1]; exact p3) e.2.symm
      unfold stF
      unfold isSt at this
      generalize (stTab.getD ci []).getD k (0, 0) = q at this ⊢
      obtain ⟨t, o⟩ := q
      simp only [bne_eq_false_iff_eq] at this
      subst this
      rfl
    · exact h2 b ci k p1 p2 p3 p4
  · dsimp only at p2 ⊢
    unfold up
    split
    · rename_i e
      unfold stA
      have hn : stArr.find? (fun q => q.1 == b) = none := by
        rw [List.find?_eq_none]
        intro q hq
        have hz : stArr.all (fun q => decide (40 ≤ tyT q.1)) = true := by decide +kernel
        have := List.all_eq_true.mp hz q hq
        simp only [decide_eq_true_eq] at this
        intro hb
        have hb' : q.1 = b := by simpa using hb
        rw [hb', e.1] at this
        omega
      rw [hn]
    · exact h3 b j p1 p2 p3 p4
theorem Full_arr {c : Nat} {v : sF} (h : FullP (c, v)) {a i x : Int} (ha : tyT a < 10) : FullP (c, up v a i x) := Full_up h (fun ci k h1 _ => by omega) (by omega)
theorem Full_cpy {c : Nat} {v : sF} (h : FullP (c, v)) {s sp d dp n : Int} (ha : tyT d < 10) : FullP (c, cpy v s sp d dp n) := by
  obtain ⟨h1, h2, h3⟩ := h
  refine ⟨h1, fun b ci k p1 p2 p3 p4 => ?_, fun b j p1 p2 p3 p4 => ?_⟩
  · dsimp only at p2 ⊢
    unfold cpy
    split
    · rename_i e
      rw [e.1] at p3
      omega
    · exact h2 b ci k p1 p2 p3 p4
  · dsimp only at p2 ⊢
    unfold cpy
    split
    · rename_i e
      unfold stA
      have hn : stArr.find? (fun q => q.1 == b) = none := by
        rw [List.find?_eq_none]
        intro q hq
        have hz : stArr.all (fun q => decide (40 ≤ tyT q.1)) = true := by decide +kernel
        have := List.all_eq_true.mp hz q hq
        simp only [decide_eq_true_eq] at this
        intro hb
        have hb' : q.1 = b := by simpa using hb
        rw [hb', e.1] at this
        omega
      rw [hn]
    · exact h3 b j p1 p2 p3 p4
