section Elims
theorem chk_e {b : Bool} {P : Prop} (h : chk b P) : b = true ∧ P := by
  cases b
  · exact h.elim
  · exact ⟨rfl, h⟩
theorem ckt_e {b : Bool} {P : Prop} (h : ckt b P) : b = true ∧ P := by
  cases b
  · exact h.elim
  · exact ⟨rfl, h⟩
theorem brb_e {b : Bool} {P Q : Prop} (h : brb b P Q) : (b = true ∧ P) ∨ (b = false ∧ Q) := by
  cases b
  · exact Or.inr ⟨rfl, h⟩
  · exact Or.inl ⟨rfl, h⟩
theorem pI_e {st : List sV} {k : Int → List sV → Prop} (h : pI st k) : ∃ a r, st = (0, a) :: r ∧ k a r := by
  unfold pI at h
  split at h
  · exact ⟨_, _, rfl, h⟩
  · exact h.elim
theorem pL_e {st : List sV} {k : Int → List sV → Prop} (h : pL st k) : ∃ a r, st = (1, a) :: r ∧ k a r := by
  unfold pL at h
  split at h
  · exact ⟨_, _, rfl, h⟩
  · exact h.elim
theorem pR_e {st : List sV} {k : Int → List sV → Prop} (h : pR st k) : ∃ a r, st = (2, a) :: r ∧ k a r := by
  unfold pR at h
  split at h
  · exact ⟨_, _, rfl, h⟩
  · exact h.elim
theorem pS_e {st : List sV} {k : Int → List sV → Prop} (h : pS st k) : ∃ a r, st = (3, a) :: r ∧ k a r := by
  unfold pS at h
  split at h
  · exact ⟨_, _, rfl, h⟩
  · exact h.elim
theorem p5_e {st : List sV} {k : Int → List sV → Prop} (h : p5 st k) : ∃ a r, st = (5, a) :: r ∧ k a r := by
  unfold p5 at h
  split at h
  · exact ⟨_, _, rfl, h⟩
  · exact h.elim
theorem p6_e {st : List sV} {k : Int → List sV → Prop} (h : p6 st k) : ∃ a r, st = (6, a) :: r ∧ k a r := by
  unfold p6 at h
  split at h
  · exact ⟨_, _, rfl, h⟩
  · exact h.elim
theorem hd3_e {as : List sV} {P : Prop} (h : hd3 as P) : (∃ a r, as = (3, a) :: r) ∧ P := by
  unfold hd3 at h
  split at h
  · exact ⟨⟨_, _, rfl⟩, h⟩
  · exact h.elim
theorem gI_e {ls : List sV} {i : Nat} {k : Int → Prop} (h : gI ls i k) : ∃ a, ls[i]? = some (0, a) ∧ k a := by
  unfold gI at h
  split at h
  · exact ⟨_, by assumption, h⟩
  · exact h.elim
theorem gL_e {ls : List sV} {i : Nat} {k : Int → Prop} (h : gL ls i k) : ∃ a, ls[i]? = some (1, a) ∧ k a := by
  unfold gL at h
  split at h
  · exact ⟨_, by assumption, h⟩
  · exact h.elim
theorem gA_e {ls : List sV} {i : Nat} {k : sV → Prop} (h : gA ls i k) : ∃ x, ls[i]? = some x ∧ (x.1 = 2 ∨ x.1 = 3 ∨ x.1 = 4 ∨ x.1 = 5 ∨ x.1 = 6) ∧ k x := by
  unfold gA at h
  split at h
  · exact ⟨_, by assumption, Or.inl rfl, h⟩
  · exact ⟨_, by assumption, Or.inr (Or.inl rfl), h⟩
  · exact ⟨_, by assumption, Or.inr (Or.inr (Or.inl rfl)), h⟩
  · exact ⟨_, by assumption, Or.inr (Or.inr (Or.inr (Or.inl rfl))), h⟩
  · exact ⟨_, by assumption, Or.inr (Or.inr (Or.inr (Or.inr rfl))), h⟩
  · exact h.elim
theorem hd2_e {as : List sV} {k : Int → Prop} (h : hd2 as k) : ∃ a r, as = (2, a) :: r ∧ k a := by
  unfold hd2 at h
  split at h
  · exact ⟨_, _, rfl, h⟩
  · exact h.elim
theorem popA_e (tags : List Nat) : ∀ {st acc : List sV} {k : List sV → List sV → Prop}, popA tags st acc k → ∃ bs r, st = bs ++ r ∧ bs.map (fun x => x.1) = tags ∧ k (bs.reverse ++ acc) r := by
  induction tags with
  | nil => intro st acc k h; exact ⟨[], st, rfl, rfl, h⟩
  | cons t r ih =>
    intro st acc k h
    match t, h with
    | 0, h =>
      obtain ⟨a, r1, e, h⟩ := pI_e h
      obtain ⟨bs, r2, e2, e3, h⟩ := ih h
      exact ⟨(0, a) :: bs, r2, by rw [e, e2]; rfl, by simp [e3], by simpa using h⟩
    | 1, h =>
      obtain ⟨a, r1, e, h⟩ := pL_e h
      obtain ⟨bs, r2, e2, e3, h⟩ := ih h
      exact ⟨(1, a) :: bs, r2, by rw [e, e2]; rfl, by simp [e3], by simpa using h⟩
    | 2, h =>
      obtain ⟨a, r1, e, h⟩ := pR_e h
      obtain ⟨bs, r2, e2, e3, h⟩ := ih h
      exact ⟨(2, a) :: bs, r2, by rw [e, e2]; rfl, by simp [e3], by simpa using h⟩
    | 3, h =>
      obtain ⟨a, r1, e, h⟩ := pS_e h
      obtain ⟨bs, r2, e2, e3, h⟩ := ih h
      exact ⟨(3, a) :: bs, r2, by rw [e, e2]; rfl, by simp [e3], by simpa using h⟩
    | 4, h => exact h.elim
    | 5, h =>
      obtain ⟨a, r1, e, h⟩ := p5_e h
      obtain ⟨bs, r2, e2, e3, h⟩ := ih h
      exact ⟨(5, a) :: bs, r2, by rw [e, e2]; rfl, by simp [e3], by simpa using h⟩
    | 6, h =>
      obtain ⟨a, r1, e, h⟩ := p6_e h
      obtain ⟨bs, r2, e2, e3, h⟩ := ih h
      exact ⟨(6, a) :: bs, r2, by rw [e, e2]; rfl, by simp [e3], by simpa using h⟩
    | n + 7, h => exact h.elim
end Elims
section Conc
/-- where a cell lies; what a number is to the machine -/
def rA (B : Nat) (x : Int) : Nat := B + (x.toNat - 1)
def cM (B t : Nat) (x : Int) : Value := match t with
  | 1 => .long (Int64.ofInt x)
  | 2 => if x = 0 then .null else .ref (rA B x)
  | _ => .int (Int32.ofInt x)
def cV (B : Nat) (ad : Nat → Nat) (x : sV) : Value := match x.1 with
  | 3 => .ref (ad x.2.toNat)
  | 4 => .ref (ad 9)
  | 5 => .ref (ad (10 + x.2.toNat))
  | 6 => if ad 8 = 0 then .null else .ref (ad 8 - 1)
  | t => cM B t x.2
def rO (B : Nat) (x : Int) : Option Nat := if x = 0 then none else some (rA B x)
theorem rO_rf (B : Nat) (x : Int) : va_rf (rO B x) = cM B 2 x := by
  unfold rO cM
  by_cases h : x = 0
  · rw [if_pos h, if_pos h]; rfl
  · rw [if_neg h, if_neg h]; rfl
def flds (B : Nat) (v : sF) (k ci : Nat) : List Value := (List.range (nF ci)).map (fun i => cM B (fTag ci i % 4) (v k i))
theorem flds_get (B : Nat) (v : sF) (k : Nat) {ci j : Nat} (h : j < nF ci) : (flds B v k ci)[j]? = some (cM B (fTag ci j % 4) (v k j)) := by
  unfold flds
  rw [List.getElem?_map, List.getElem?_range h]
  rfl
theorem flds_len (B : Nat) (v : sF) (k ci : Nat) : (flds B v k ci).length = nF ci := by simp [flds]
theorem flds_up (B : Nat) (v : sF) (k : Nat) {ci j : Nat} (x : Int) (h : j < nF ci) : flds B (up v k j x) k ci = (flds B v k ci).set j (cM B (fTag ci j % 4) x) := by
  apply List.ext_getElem?
  intro i
  by_cases hi : i < nF ci
  · rw [flds_get B _ k hi]
    by_cases hj : j = i
    · subst hj
      rw [List.getElem?_set_self (by rw [flds_len]; exact hi)]
      simp [up]
    · rw [List.getElem?_set_ne hj, flds_get B _ k hi]
      have : up v k j x k i = v k i := by
        unfold up
        rw [if_neg (by omega)]
      rw [this]
  · rw [List.getElem?_eq_none (by rw [flds_len]; omega), List.getElem?_eq_none (by rw [List.length_set, flds_len]; omega)]
def cE (B : Nat) (dA : Nat → ClassId) (v : sF) (k : Nat) : va_E :=
  if tyT k = 2 then .inl (dA 2, (lnT k).toNat, .inr (.inl (fun j => Int64.ofInt (v k j))))
  else if tyT k < 10 then .inl (dA (tyT k), (lnT k).toNat, .inl (fun j => Int32.ofInt (v k j)))
  else if tyT k < 40 then .inr (tyT k - 10, flds B v k (tyT k - 10))
  else .inl (dA (tyT k), (lnT k).toNat, .inr (.inr (.inr (.inr (fun j => rO B (v k j))))))
variable {B : Nat} {dA : Nat → ClassId}
theorem cE_int {v : sF} {k : Nat} (h : tyT k = 1 ∨ tyT k = 3 ∨ tyT k = 4) : cE B dA v k = .inl (dA (tyT k), (lnT k).toNat, .inl (fun j => Int32.ofInt (v k j))) := by
  unfold cE
  rw [if_neg (by omega), if_pos (by omega)]
theorem cE_long {v : sF} {k : Nat} (h : tyT k = 2) : cE B dA v k = .inl (dA 2, (lnT k).toNat, .inr (.inl (fun j => Int64.ofInt (v k j)))) := by
  unfold cE
  rw [if_pos h]
theorem cE_obj {v : sF} {k ci : Nat} (h : tyT k = 10 + ci) (hc : ci < 13) : cE B dA v k = .inr (ci, flds B v k ci) := by
  unfold cE
  rw [if_neg (by omega), if_neg (by omega), if_pos (by omega), h, Nat.add_sub_cancel_left]
theorem cE_ref {v : sF} {k : Nat} (h : 40 ≤ tyT k) : cE B dA v k = .inl (dA (tyT k), (lnT k).toNat, .inr (.inr (.inr (.inr (fun j => rO B (v k j)))))) := by
  unfold cE
  rw [if_neg (by omega), if_neg (by omega), if_neg (by omega)]
theorem cE_congr {v v' : sF} {k : Nat} (h : v' (k : Int) = v (k : Int)) : cE B dA v' k = cE B dA v k := by
  unfold cE flds
  rw [h]
def wsOf (B : Nat) (dA : Nat → ClassId) (c : Nat) (v : sF) : va_W := (List.range c).map (fun k => (B + k, cE B dA v (k + 1)))
theorem ws_len (c : Nat) (v : sF) : (wsOf B dA c v).length = c := by simp [wsOf]
theorem ws_at {c : Nat} {v : sF} {k : Nat} (h : k < c) : (wsOf B dA c v)[k]? = some (B + k, cE B dA v (k + 1)) := by
  unfold wsOf
  rw [List.getElem?_map, List.getElem?_range h]
  rfl
theorem ws_addr {c : Nat} {v : sF} {k : Nat} {q : Nat × va_E} (h : (wsOf B dA c v)[k]? = some q) : q.1 = B + k ∧ k < c := by
  have hk : k < c := by
    have := (List.getElem?_eq_some_iff.mp h).1
    rw [ws_len] at this
    exact this
  rw [ws_at hk] at h
  cases h
  exact ⟨rfl, hk⟩
theorem ws_get {c : Nat} {v : sF} {a : Int} (h1 : 1 ≤ a) (h2 : a ≤ c) : (wsOf B dA c v)[a.toNat - 1]? = some (rA B a, cE B dA v a.toNat) := by
  rw [ws_at (by omega), show a.toNat - 1 + 1 = a.toNat by omega]
  rfl
theorem ws_D (c : Nat) (v : sF) : va_D (fun q => B ≤ q) (wsOf B dA c v) := by
  refine ⟨fun i j p q hi hj e => ?_, fun k q hk => ?_⟩
  · have h1 := (ws_addr hi).1
    have h2 := (ws_addr hj).1
    omega
  · have h1 := (ws_addr hk).1
    show B ≤ q.1
    omega
theorem ws_chg {c : Nat} {v v' : sF} {a : Int} (h1 : 1 ≤ a) (h2 : a ≤ c) (h : ∀ k : Int, k ≠ a → v' k = v k) : wsOf B dA c v' = (wsOf B dA c v).set (a.toNat - 1) (rA B a, cE B dA v' a.toNat) := by
  apply List.ext_getElem?
  intro i
  by_cases hi : i < c
  · rw [ws_at hi]
    by_cases hj : a.toNat - 1 = i
    · subst hj
      rw [List.getElem?_set_self (by rw [ws_len]; exact hi), show a.toNat - 1 + 1 = a.toNat by omega]
      rfl
    · rw [List.getElem?_set_ne hj, ws_at hi, cE_congr (h _ (by omega))]
  · rw [List.getElem?_eq_none (by rw [ws_len]; omega), List.getElem?_eq_none (by rw [List.length_set, ws_len]; omega)]
theorem up_off {v : sF} {a i x : Int} : ∀ k : Int, k ≠ a → up v a i x k = v k := by
  intro k hk
  funext j
  unfold up
  rw [if_neg (fun h => hk h.1)]
theorem cpy_off {v : sF} {s sp d dp n : Int} : ∀ k : Int, k ≠ d → cpy v s sp d dp n k = v k := by
  intro k hk
  funext j
  unfold cpy
  rw [if_neg (fun h => hk h.1)]
theorem ws_new {c : Nat} {v : sF} : wsOf B dA (c + 1) (zer v ((c : Int) + 1)) = wsOf B dA c v ++ [(B + c, cE B dA (zer v ((c : Int) + 1)) (c + 1))] := by
  apply List.ext_getElem?
  intro i
  by_cases hi : i < c
  · rw [ws_at (by omega), List.getElem?_append_left (by rw [ws_len]; exact hi), ws_at hi]
    rw [cE_congr (v := v) (v' := zer v ((c : Int) + 1))]
    funext j
    unfold zer
    rw [if_neg (by omega)]
  · by_cases hc : i = c
    · subst hc
      rw [ws_at (by omega), List.getElem?_append_right (by rw [ws_len]; omega), ws_len]
      simp
    · rw [List.getElem?_eq_none (by rw [ws_len]; omega), List.getElem?_eq_none (by rw [List.length_append, ws_len]; simp; omega)]
def sl (c : Nat) : Nat := match c with
  | 0 => 0
  | k + 1 => sl k + (lnT ((k : Int) + 1)).toNat
theorem sl_mono {a b : Nat} (h : a ≤ b) : sl a ≤ sl b := by
  induction h with
  | refl => exact Nat.le_refl _
  | step _ ih => exact Nat.le_trans ih (Nat.le_add_right _ _)
def vcl : List vw_C := (List.range 13).map (fun ci => (cN ci, fN ci, nF ci))
theorem vcl_get {ci : Nat} (h : ci < 13) : vcl[ci]? = some (cN ci, fN ci, nF ci) := by
  unfold vcl
  rw [List.getElem?_map, List.getElem?_range h]
  rfl
def tysOf (dA : Nat → ClassId) : List (ClassId × FieldType) := [(dA 1, .int), (dA 2, .long), (dA 3, .byte), (dA 4, .boolean), (dA 43, .object (cN 3)), (dA 48, .object (cN 8)), (dA 49, .object (cN 9))]
theorem ty_ref {a : Int} (h : 40 ≤ tyT a) : tyT a = 43 ∨ tyT a = 48 ∨ tyT a = 49 := by
  have h2 := ids_all (fun n => decide (tyT n < 40) || decide (tyT n = 43) || decide (tyT n = 48) || decide (tyT n = 49)) (by decide +kernel) (fun n hn => by
    have h1 : tyT (n : Int) = 0 := tyT_big (by simpa using hn)
    simp [h1]) a.toNat
  rw [tyT_nat] at h ⊢
  simp only [Bool.or_eq_true, decide_eq_true_eq] at h2
  omega
end Conc
section LocalsOf
variable {B : Nat} {ad : Nat → Nat}
def LSok (B : Nat) (ad : Nat → Nat) (nL : Nat) (LS : Array Slot) (ls : List sV) : Prop := ls.length = nL ∧ LS.size = nL ∧ lv_wf LS ∧ ∀ (i : Nat) (x : sV), ls[i]? = some x → x.1 ≠ 9 → LS[i]? = some (.val (cV B ad x))
def lvOf (B : Nat) (ad : Nat → Nat) (ls : List sV) : List (Nat × Value) := (List.range ls.length).filterMap (fun i => match ls[i]? with
  | some x => if x.1 = 9 then none else some (i, cV B ad x)
  | none => none)
theorem lvOf_mem {ls : List sV} {i : Nat} {x : sV} (h : ls[i]? = some x) (h9 : x.1 ≠ 9) : (i, cV B ad x) ∈ lvOf B ad ls := by
  unfold lvOf
  refine List.mem_filterMap.mpr ⟨i, List.mem_range.mpr (List.getElem?_eq_some_iff.mp h).1, ?_⟩
  rw [h]
  simp [h9]
theorem lvOf_has {nL : Nat} {LS : Array Slot} {ls : List sV} (h : LSok B ad nL LS ls) : lv_has LS nL (lvOf B ad ls) := by
  refine ⟨h.2.1, h.2.2.1, fun q hq => ?_⟩
  unfold lvOf at hq
  obtain ⟨i, -, hi⟩ := List.mem_filterMap.mp hq
  split at hi
  · rename_i x e
    split at hi
    · cases hi
    · cases hi
      exact h.2.2.2 i x e (by assumption)
  · cases hi
theorem cV_cat {x : sV} (h : x.1 ≠ 1) : (cV B ad x).category = 1 := by
  obtain ⟨t, x⟩ := x
  match t, h with
  | 0, _ => rfl
  | 2, _ =>
    show (if x = 0 then Value.null else .ref (rA B x)).category = 1
    split <;> rfl
  | 3, _ => rfl
  | 4, _ => rfl
  | 5, _ => rfl
  | 6, _ =>
    show (if ad 8 = 0 then Value.null else .ref (ad 8 - 1)).category = 1
    split <;> rfl
  | n + 7, _ => rfl
theorem cV_cat2 (x : Int) : (cV B ad (1, x)).category = 2 := rfl
theorem setL_get {l : List sV} {k : Nat} {x : sV} {j : Nat} {y : sV} (hk : k < l.length) (h : (setL l k x)[j]? = some y) (h9 : y.1 ≠ 9) : (j = k ∧ y = x) ∨ (j ≠ k ∧ l[j]? = some y ∧ ¬ (j + 1 = k ∧ y.1 = 1)) := by
  by_cases hj : j = k
  · left
    refine ⟨hj, ?_⟩
    subst hj
    unfold setL at h
    cases j with
    | zero =>
      dsimp only at h
      rw [List.getElem?_set_self hk] at h
      exact (Option.some.inj h).symm
    | succ j =>
      dsimp only at h
      split at h
      · rw [List.getElem?_set_self (by simpa using hk)] at h
        exact (Option.some.inj h).symm
      · rw [List.getElem?_set_self hk] at h
        exact (Option.some.inj h).symm
  · right
    refine ⟨hj, ?_⟩
    unfold setL at h
    cases k with
    | zero =>
      dsimp only at h
      rw [List.getElem?_set_ne (Ne.symm hj)] at h
      exact ⟨h, fun q => by omega⟩
    | succ k =>
      dsimp only at h
      split at h
      · rw [List.getElem?_set_ne (Ne.symm hj)] at h
        by_cases hk2 : k = j
        · subst hk2
          rw [List.getElem?_set_self (by omega)] at h
          cases h
          exact absurd rfl h9
        · rw [List.getElem?_set_ne hk2] at h
          exact ⟨h, fun q => by omega⟩
      · rename_i hn
        rw [List.getElem?_set_ne (Ne.symm hj)] at h
        refine ⟨h, fun q => ?_⟩
        have e : j = k := by omega
        subst e
        obtain ⟨t, z⟩ := y
        have : t = 1 := q.2
        subst this
        exact hn z h
theorem setL_len (l : List sV) (k : Nat) (x : sV) : (setL l k x).length = l.length := by
  unfold setL
  cases k with
  | zero => simp
  | succ k =>
    dsimp only
    split <;> simp
/-- a store of one word -/
theorem LS_store1 {nL : Nat} {LS LS' : Array Slot} {ls : List sV} {k : Nat} {x : sV} (h : LSok B ad nL LS ls) (hk : k < nL) (h' : lv_has LS' nL ((k, cV B ad x) :: (lvOf B ad ls).filter (fun q => !(q.1 == k) && !(q.1 + 1 == k && q.2.category == 2)))) : LSok B ad nL LS' (setL ls k x) := by
  refine ⟨by rw [setL_len]; exact h.1, h'.1, h'.2.1, fun j y hy h9 => ?_⟩
  rcases setL_get (by rw [h.1]; exact hk) hy h9 with ⟨e1, e2⟩ | ⟨e1, e2, e3⟩
  · subst e1; subst e2
    exact h'.2.2 (_, _) List.mem_cons_self
  · refine h'.2.2 (j, cV B ad y) (List.mem_cons_of_mem _ (List.mem_filter.mpr ⟨lvOf_mem e2 h9, ?_⟩))
    simp only [Bool.and_eq_true, Bool.not_eq_true', beq_eq_false_iff_ne, Bool.and_eq_false_iff]
    refine ⟨e1, ?_⟩
    by_cases hj : j + 1 = k
    · right
      rw [cV_cat (fun q => e3 ⟨hj, q⟩)]
      decide
    · left
      exact hj
/-- a store of two words -/
theorem LS_store2 {nL : Nat} {LS LS' : Array Slot} {ls : List sV} {k : Nat} {x : Int} (h : LSok B ad nL LS ls) (hk : k + 1 < nL) (h' : lv_has LS' nL ((k, cV B ad (1, x)) :: (lvOf B ad ls).filter (fun q => !(q.1 == k) && (!(q.1 == k + 1) && !(q.1 + 1 == k && q.2.category == 2))))) : LSok B ad nL LS' ((setL ls k (1, x)).set (k + 1) (9, 0)) := by
  refine ⟨by rw [List.length_set, setL_len]; exact h.1, h'.1, h'.2.1, fun j y hy h9 => ?_⟩
  by_cases hj1 : k + 1 = j
  · subst hj1
    rw [List.getElem?_set_self (by rw [setL_len, h.1]; exact hk)] at hy
    cases hy
    exact absurd rfl h9
  · rw [List.getElem?_set_ne hj1] at hy
    rcases setL_get (by rw [h.1]; omega) hy h9 with ⟨e1, e2⟩ | ⟨e1, e2, e3⟩
    · subst e1; subst e2
      exact h'.2.2 (_, _) List.mem_cons_self
    · refine h'.2.2 (j, cV B ad y) (List.mem_cons_of_mem _ (List.mem_filter.mpr ⟨lvOf_mem e2 h9, ?_⟩))
      simp only [Bool.and_eq_true, Bool.not_eq_true', beq_eq_false_iff_ne, Bool.and_eq_false_iff]
      refine ⟨e1, fun q => hj1 q.symm, ?_⟩
      by_cases hj : j + 1 = k
      · right
        rw [cV_cat (fun q => e3 ⟨hj, q⟩)]
        decide
      · left
        exact hj
end LocalsOf
