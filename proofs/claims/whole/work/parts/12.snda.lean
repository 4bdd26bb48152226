section TabFacts
theorem lk_all2 {α : Type} {t : List (List (Nat × α))} {p : Nat → Nat × α → Bool} (h : (List.range t.length).all (fun own => (t.getD own []).all (p own)) = true) {own idx : Nat} {x : α} (hx : lk t own idx = some x) : p own (idx, x) = true := by
  unfold lk at hx
  cases hf : (t.getD own []).find? (fun q => q.1 == idx) with
  | none => rw [hf] at hx; cases hx
  | some q =>
    rw [hf] at hx
    cases hx
    have h1 : q ∈ t.getD own [] := List.mem_of_find?_eq_some hf
    have h2 := List.find?_some hf
    have ho : own < t.length := by
      rcases Nat.lt_or_ge own t.length with h | h
      · exact h
      · rw [List.getD_eq_getElem?_getD, List.getElem?_eq_none h] at h1; simp at h1
    have h4 := List.all_eq_true.mp (List.all_eq_true.mp h _ (List.mem_range.mpr ho)) _ h1
    have h5 : q.1 = idx := by simpa using h2
    obtain ⟨q1, q2⟩ := q
    cases h5
    exact h4
def tyF (ci k : Nat) : FieldType := (parseFieldDescriptor (fN ci k).2.2.1).getD .int
def tagTy (t : Nat) (ty : FieldType) : Bool := match t, ty with
  | 0, .int => true
  | 1, .long => true
  | 4, .boolean => true
  | 2, .object _ => true
  | 2, .array _ => true
  | _, _ => false
def fOkB (ci k : Nat) : Bool := inT ((lHint.getD ci []).getD k 0) (u_lay (cN ci) (fN ci) k) && (parseFieldDescriptor (fN ci k).2.2.1).isSome && decide ((fN ci k).2.2.2 = isSt ci k) && decide ((fN ci k).1 = cN ci) && tagTy (fTag ci k) (tyF ci k) && ((List.range (nF ci)).all (fun j => decide (j = k) || decide ((fN ci j).2.1 ≠ (fN ci k).2.1)))
theorem fOk_tab : (List.range 13).all (fun ci => (List.range (nF ci)).all (fOkB ci)) = true := by decide +kernel
theorem fOk {ci k : Nat} (hc : ci < 13) (hk : k < nF ci) : fOkB ci k = true := List.all_eq_true.mp (List.all_eq_true.mp fOk_tab ci (List.mem_range.mpr hc)) k (List.mem_range.mpr hk)
theorem f_in {ci : Nat} (hc : ci < 13) : ∀ w ∈ u_ws (cN ci) (fN ci) (nF ci), w ∈ gT := by
  intro w hw
  unfold u_ws at hw
  obtain ⟨k, hk, rfl⟩ := List.mem_map.mp hw
  have h := fOk hc (List.mem_range.mp hk)
  simp only [fOkB, Bool.and_eq_true] at h
  exact inT_mem h.1.1.1.1.1
theorem f_ty {ci : Nat} (hc : ci < 13) : ∀ k, k < nF ci → parseFieldDescriptor (fN ci k).2.2.1 = some (tyF ci k) := by
  intro k hk
  have h := fOk hc hk
  simp only [fOkB, Bool.and_eq_true] at h
  have h2 := h.1.1.1.1.2
  unfold tyF
  cases hp : parseFieldDescriptor (fN ci k).2.2.1 with
  | none => rw [hp] at h2; cases h2
  | some t => rfl
theorem f_nm {ci : Nat} (hc : ci < 13) : ∀ a, a < nF ci → ∀ b, b < nF ci → a ≠ b → (fN ci a).2.1 ≠ (fN ci b).2.1 := by
  intro a ha b hb hab
  have h := fOk hc hb
  simp only [fOkB, Bool.and_eq_true] at h
  have h2 := List.all_eq_true.mp h.2 a (List.mem_range.mpr ha)
  simp only [Bool.or_eq_true, decide_eq_true_eq] at h2
  rcases h2 with h2 | h2
  · exact absurd h2 hab
  · exact h2
theorem f_fin {ci k : Nat} (hc : ci < 13) (hk : k < nF ci) : (fN ci k).2.2.2 = isSt ci k ∧ (fN ci k).1 = cN ci ∧ tagTy (fTag ci k) (tyF ci k) = true := by
  have h := fOk hc hk
  simp only [fOkB, Bool.and_eq_true, decide_eq_true_eq] at h
  exact ⟨h.1.1.1.2, h.1.1.2, h.1.2⟩
theorem fw_tab : (List.range fTab.length).all (fun own => (fTab.getD own []).all (fun q => inT ((lk fHint own q.1).getD 0) (.fieldLink (cN own) q.1 (cN q.2.1) (fN q.2.1 q.2.2).2.1 (fN q.2.1 q.2.2).2.2.1))) = true := by decide +kernel
theorem fw {own i ci k : Nat} (h : lk fTab own i = some (ci, k)) : Cond.fieldLink (cN own) i (cN ci) (fN ci k).2.1 (fN ci k).2.2.1 ∈ gT := inT_mem (lk_all2 fw_tab h)
theorem cw_tab : (List.range cTab.length).all (fun own => (cTab.getD own []).all (fun q => inT ((lk cHint own q.1).getD 0) (.classLink (cN own) q.1 (cN q.2)) && decide (q.2 < 13))) = true := by decide +kernel
theorem ci_tab : (List.range 13).all (fun ci => inT (iHint.getD ci (0, 0)).1 (.initialized (cN ci)) && inT (iHint.getD ci (0, 0)).2 (.instantiable (cN ci) (nF ci))) = true := by decide +kernel
theorem kw_tab : (List.range kTab.length).all (fun own => (kTab.getD own []).all (fun q => match q.2.1 with
  | 0 => inT ((lk kHint own q.1).getD 0) (.constant (cN own) q.1 (Int32.ofInt q.2.2))
  | 1 => inT ((lk kHint own q.1).getD 0) (.constantLong (cN own) q.1 (Int64.ofInt q.2.2))
  | _ => true)) = true := by decide +kernel
def mH (y k : Nat) : Nat := (mX y).2.2.2.getD k 0
def mwB (own : Nat) (q : Nat × (Nat × Nat)) : Bool := match q.2.1 with
  | 0 => decide (q.2.2 < 313) && inT ((lk mHint own q.1).getD 0) (.methodLink (cN own) q.1 (mN q.2.2)) && decide (mH q.2.2 4 = 0) && decide (mOwn q.2.2 < 13)
  | 3 => decide (q.2.2 < 313) && inT ((lk mHint own q.1).getD 0) (.methodLink (cN own) q.1 (mN q.2.2)) && decide (mH q.2.2 4 = 0) && decide (mOwn q.2.2 = 22)
  | 1 => decide (q.2.2 < 313) && inT ((lk mHint own q.1).getD 0) (.methodLink (cN own) q.1 (mN q.2.2)) && decide (mH q.2.2 4 = 1)
  | 2 => decide (q.2.2 < 313) && inT ((lk mHint own q.1).getD 0) (.methodLink (cN own) q.1 (mN q.2.2)) && decide (mH q.2.2 4 = 2)
  | 8 => inT ((lk mHint own q.1).getD 0) (.methodLink (cN own) q.1 arraycopyName)
  | 9 => inT ((lk mHint own q.1).getD 0) (.methodLink (cN own) q.1 objectInit)
  | _ => true
theorem mw_tab0 : (mTab.getD 0 []).all (mwB 0) = true := by decide +kernel
theorem mw_tab1 : (mTab.getD 1 []).all (mwB 1) = true := by decide +kernel
theorem mw_tab2 : (mTab.getD 2 []).all (mwB 2) = true := by decide +kernel
theorem mw_tab3 : (mTab.getD 3 []).all (mwB 3) = true := by decide +kernel
theorem mw_tab4 : (mTab.getD 4 []).all (mwB 4) = true := by decide +kernel
theorem mw_tab5 : (mTab.getD 5 []).all (mwB 5) = true := by decide +kernel
theorem mw_tab6 : (mTab.getD 6 []).all (mwB 6) = true := by decide +kernel
theorem mw_tab7 : (mTab.getD 7 []).all (mwB 7) = true := by decide +kernel
theorem mw_tab8 : (mTab.getD 8 []).all (mwB 8) = true := by decide +kernel
theorem mw_tab9 : (mTab.getD 9 []).all (mwB 9) = true := by decide +kernel
theorem mw_tab10 : (mTab.getD 10 []).all (mwB 10) = true := by decide +kernel
theorem mw_tab11 : (mTab.getD 11 []).all (mwB 11) = true := by decide +kernel
theorem mw_tab12 : (mTab.getD 12 []).all (mwB 12) = true := by decide +kernel
theorem mw_tab13 : (mTab.getD 13 []).all (mwB 13) = true := by decide +kernel
theorem mw_tab14 : (mTab.getD 14 []).all (mwB 14) = true := by decide +kernel
theorem mw_tab15 : (mTab.getD 15 []).all (mwB 15) = true := by decide +kernel
theorem mw_tab16 : (mTab.getD 16 []).all (mwB 16) = true := by decide +kernel
theorem mw_tab17 : (mTab.getD 17 []).all (mwB 17) = true := by decide +kernel
theorem mw_tab18 : (mTab.getD 18 []).all (mwB 18) = true := by decide +kernel
theorem mw_tab19 : (mTab.getD 19 []).all (mwB 19) = true := by decide +kernel
theorem mw_tab20 : (mTab.getD 20 []).all (mwB 20) = true := by decide +kernel
theorem mw_tab21 : (mTab.getD 21 []).all (mwB 21) = true := by decide +kernel
theorem mw_tab22 : (mTab.getD 22 []).all (mwB 22) = true := by decide +kernel
theorem mw_tab23 : (mTab.getD 23 []).all (mwB 23) = true := by decide +kernel
theorem mw_tab24 : (mTab.getD 24 []).all (mwB 24) = true := by decide +kernel
theorem mw_tab25 : (mTab.getD 25 []).all (mwB 25) = true := by decide +kernel
theorem mw_tab : ∀ own, own < 26 → (mTab.getD own []).all (mwB own) = true
  | 0, _ => mw_tab0
  | 1, _ => mw_tab1
  | 2, _ => mw_tab2
  | 3, _ => mw_tab3
  | 4, _ => mw_tab4
  | 5, _ => mw_tab5
  | 6, _ => mw_tab6
  | 7, _ => mw_tab7
  | 8, _ => mw_tab8
  | 9, _ => mw_tab9
  | 10, _ => mw_tab10
  | 11, _ => mw_tab11
  | 12, _ => mw_tab12
  | 13, _ => mw_tab13
  | 14, _ => mw_tab14
  | 15, _ => mw_tab15
  | 16, _ => mw_tab16
  | 17, _ => mw_tab17
  | 18, _ => mw_tab18
  | 19, _ => mw_tab19
  | 20, _ => mw_tab20
  | 21, _ => mw_tab21
  | 22, _ => mw_tab22
  | 23, _ => mw_tab23
  | 24, _ => mw_tab24
  | 25, _ => mw_tab25
  | n + 26, h => absurd h (by omega)
theorem mw {own idx : Nat} {x : Nat × Nat} (hx : lk mTab own idx = some x) : mwB own (idx, x) = true := by
  have h : (List.range mTab.length).all (fun own => (mTab.getD own []).all (mwB own)) = true := List.all_eq_true.mpr (fun own ho => mw_tab own (Nat.lt_of_lt_of_le (List.mem_range.mp ho) (by decide +kernel)))
  exact lk_all2 h hx
theorem m_kd {y : Nat} (hy : y < 313) : mKdB (mT y, mX y) = true := by
  have h1 := mOk_all y (by omega)
  have hown : (mT y).1 ≠ 25 := by
    have h2 : (List.range 313).all (fun y => decide ((mT y).1 ≠ 25)) = true := by decide +kernel
    have := List.all_eq_true.mp h2 y (List.mem_range.mpr hy)
    simpa using this
  simp only [mOkB, Bool.and_eq_true, Bool.or_eq_true, decide_eq_true_eq] at h1
  rcases h1.2 with h10 | h10
  · exact absurd h10 hown
  · exact h10.2
theorem m_k0 {y : Nat} (hy : y < 313) (hk : mH y 4 = 0) : Cond.instanceMethod (mN y) ∈ gT ∧ Cond.selects (mN y).cls (mN y) (mN y) ∈ gT ∧ (parseMethodDescriptor (mN y).desc).map (fun d => d.parameters.length + 1) = some (mTags y).length := by
  have h := m_kd hy
  unfold mKdB at h
  have hk2 : (mT y, mX y).2.2.2.2.getD 4 9 = 0 := by
    have hl : (mX y).2.2.2.length = 5 := by
      have h2 : (List.range 313).all (fun y => decide ((mX y).2.2.2.length = 5)) = true := by decide +kernel
      have := List.all_eq_true.mp h2 y (List.mem_range.mpr hy)
      simpa using this
    unfold mH at hk
    show (mX y).2.2.2.getD 4 9 = _
    rw [List.getD_eq_getElem?_getD, List.getElem?_eq_getElem (by omega)] at hk ⊢
    exact hk
  rw [hk2] at h
  simp only [Bool.and_eq_true, decide_eq_true_eq] at h
  obtain ⟨⟨h1, h2⟩, h3⟩ := h
  refine ⟨inT_mem h1, ?_, h3⟩
  split at h2
  · exact inT_mem h2
  · exact inP_mem h2
theorem m_k1 {y : Nat} (hy : y < 313) (hk : mH y 4 = 1) : Cond.static (mN y) ∈ gT ∧ (parseMethodDescriptor (mN y).desc).map (fun d => d.parameters.length) = some (mTags y).length := by
  have h := m_kd hy
  unfold mKdB at h
  have hk2 : (mT y, mX y).2.2.2.2.getD 4 9 = 1 := by
    have hl : (mX y).2.2.2.length = 5 := by
      have h2 : (List.range 313).all (fun y => decide ((mX y).2.2.2.length = 5)) = true := by decide +kernel
      have := List.all_eq_true.mp h2 y (List.mem_range.mpr hy)
      simpa using this
    unfold mH at hk
    show (mX y).2.2.2.getD 4 9 = _
    rw [List.getD_eq_getElem?_getD, List.getElem?_eq_getElem (by omega)] at hk ⊢
    exact hk
  rw [hk2] at h
  simp only [Bool.and_eq_true, decide_eq_true_eq] at h
  exact ⟨inT_mem h.1, h.2⟩
theorem m_k2 {y : Nat} (hy : y < 313) (hk : mH y 4 = 2) : Cond.instanceMethod (mN y) ∈ gT ∧ (mN y).name = "<init>" ∧ mRT y = none ∧ (parseMethodDescriptor (mN y).desc).map (fun d => d.parameters.length + 1) = some (mTags y).length ∧ mOwn y < 13 := by
  have h := m_kd hy
  unfold mKdB at h
  have hk2 : (mT y, mX y).2.2.2.2.getD 4 9 = 2 := by
    have hl : (mX y).2.2.2.length = 5 := by
      have h2 : (List.range 313).all (fun y => decide ((mX y).2.2.2.length = 5)) = true := by decide +kernel
      have := List.all_eq_true.mp h2 y (List.mem_range.mpr hy)
      simpa using this
    unfold mH at hk
    show (mX y).2.2.2.getD 4 9 = _
    rw [List.getD_eq_getElem?_getD, List.getElem?_eq_getElem (by omega)] at hk ⊢
    exact hk
  rw [hk2] at h
  simp only [Bool.and_eq_true, decide_eq_true_eq] at h
  obtain ⟨⟨⟨⟨h1, h2⟩, h3⟩, h4⟩, h5⟩ := h
  exact ⟨inT_mem h1, h2, h3, h4, h5⟩
theorem lw_good {w : Cond} (h : w ∈ gT) : (w.onTables && w.keeps) = true ∨ ∃ ty, w = .arrayClass ty := good_of_word (List.mem_filter.mp h).2
theorem zip_all {α β : Type} {l1 : List α} {l2 : List β} {p : α × β → Bool} (h : (l1.zip l2).all p = true) {r : Nat} {d1 : α} {d2 : β} (h1 : r < l1.length) (h2 : r < l2.length) : p (l1.getD r d1, l2.getD r d2) = true := by
  rw [List.getD_eq_getElem?_getD, List.getD_eq_getElem?_getD, List.getElem?_eq_getElem h1, List.getElem?_eq_getElem h2]
  refine List.all_eq_true.mp h _ ?_
  have h3 : r < (l1.zip l2).length := by simp; omega
  have h4 := List.getElem_mem h3
  rw [List.getElem_zip] at h4
  exact h4
end TabFacts
theorem cdAt_lt {c : List (List (Option (ClassFile.Instr × Nat)))} {pc : Nat} {q : ClassFile.Instr × Nat} (h : cdAt c pc = some q) : pc < 16 * c.length := by
  rcases Nat.lt_or_ge (pc / 16) c.length with h1 | h1
  · omega
  · unfold cdAt at h
    rw [List.getD_eq_getElem?_getD (l := c), List.getElem?_eq_none h1] at h
    simp at h
theorem code_ok {y : Nat} (hy : y < 313) {pc len : Nat} {ins : ClassFile.Instr} (h : cdAt (mCode y) pc = some (ins, len)) : okI pc ins len = true ∧ decode (mBytes y) pc = .ok (ins, len) := by
  have h1 := mOk_all y (by omega)
  have hown : (mT y).1 ≠ 25 := by
    have h2 : (List.range 313).all (fun y => decide ((mT y).1 ≠ 25)) = true := by decide +kernel
    have := List.all_eq_true.mp h2 y (List.mem_range.mpr hy)
    simpa using this
  simp only [mOkB, Bool.and_eq_true, Bool.or_eq_true, decide_eq_true_eq] at h1
  have h3 : chkC (mBytes y) (mCode y) = true := by
    rcases h1.1.1.1.1.1.1.1.1.1 with h3 | h3
    · exact absurd h3 hown
    · exact h3
  have h4 := List.all_eq_true.mp h3 pc (List.mem_range.mpr (cdAt_lt h))
  unfold chkP at h4
  rw [h] at h4
  simp only [Bool.and_eq_true] at h4
  refine ⟨h4.1, ?_⟩
  have h5 := h4.2
  split at h5
  · rename_i q' e
    rw [e]
    have : q' = (ins, len) := by simpa using h5
    rw [this]
  · cases h5
section SndDefs
def sLen : List Nat := sTab.map (fun l => l.length)
def sByt : List (List Int32) := sTab.map (fun l => l.map Int32.ofInt)
/-- the text constants, where they lie -/
def vkT (ad : Nat → Nat) (A : Nat → Prop) (U : State) (H : Heap) : Prop := (∀ i : Nat, i < 4 → va_O "java/lang/String" (ad i) A U H ∧ va_OF "java/lang/String" "coder" "B" (.int 0) (ad i) A U H ∧ va_OF "java/lang/String" "value" "[B" (.ref (ad (10 + i))) (ad i) A U H ∧ va_T .byte (ad (10 + i)) (sLen.getD i 0) (fun j => .int ((sByt.getD i []).getD j 0)) A U H) ∧ True
theorem vkT.moved {ad : Nat → Nat} {A : Nat → Prop} {u U : State} {H : Heap} (hvm : u.vm.Alike U.vm) (h : vkT ad A u H) : vkT ad A U H := ⟨fun i hi => ⟨va_O.moved hvm (h.1 i hi).1, va_OF.moved hvm (h.1 i hi).2.1, va_OF.moved hvm (h.1 i hi).2.2.1, va_T.moved hvm (h.1 i hi).2.2.2⟩, trivial⟩
theorem vkT.kept {ad : Nat → Nat} {A : Nat → Prop} {U : State} {H H1 : Heap} (h : vkT ad A U H) (hq : ∀ a : Nat, a < H.size → ¬ A a → H1[a]? = H[a]?) : vkT ad A U H1 := ⟨fun i hi => ⟨(h.1 i hi).1.kept hq, (h.1 i hi).2.1.kept hq, (h.1 i hi).2.2.1.kept hq, (h.1 i hi).2.2.2.kept hq⟩, trivial⟩
def StrF (B : Nat) (ad : Nat → Nat) (U : State) : Prop := vkT ad (fun q => B ≤ q) U U.heap ∧ (va_AO (cN 3) U ∧ va_AO (cN 8) U ∧ va_AO (cN 9) U) ∧ (va_Z "java/lang/String" "COMPACT_STRINGS" "Z" (.int 1) (fun q => B ≤ q) U U.heap ∧ va_Z "jdk/internal/util/Preconditions" "SIOOBE_FORMATTER" "Ljava/util/function/BiFunction;" (if ad 8 = 0 then .null else .ref (ad 8 - 1)) (fun q => B ≤ q) U U.heap) ∧ vk_R "MindPost$Tokens" 71 "places person at home family mood away cares for minds sends day who of kin own if then else end not or and " (ad 0) U ∧ vk_R "MindPost$Tokens" 64 ";:+-*()[]=<>" (ad 1) U ∧ vk_R "MindPostModel" 86 " places person at home family mood away cares for minds sends day if then else end who of kin own and or not " (ad 2) U ∧ vk_R "MindPostModel" 124 ";:+-*()[]=<>" (ad 3) U
theorem StrF_move {B : Nat} {ad : Nat → Nat} {s U : State} {locs : List Loc} (h : StrF B ad s) (hS : va_S (fun q => B ≤ q) s.heap U.heap locs) (hW : s.WarmedH U.vm) : StrF B ad U := by
  obtain ⟨h1, ⟨z1, z2, z3⟩, ⟨z4, z5⟩, h2, h3, h4, h5⟩ := h
  exact ⟨(vkT.moved hW.alike h1).kept (fun a ha hA => hS.2.1 a ha hA), ⟨z1.moved hW.alike, z2.moved hW.alike, z3.moved hW.alike⟩, ⟨(va_Z.moved hW.alike z4).kept (fun a ha hA => hS.2.1 a ha hA), (va_Z.moved hW.alike z5).kept (fun a ha hA => hS.2.1 a ha hA)⟩, h2.warm hW, h3.warm hW, h4.warm hW, h5.warm hW⟩
theorem StrF_calling {B : Nat} {ad : Nat → Nat} {U : State} (g : JFrame) (mk : MethodId) (a : Array Value) (h : StrF B ad U) : StrF B ad (U.calling g mk a) := by
  obtain ⟨h1, ⟨z1, z2, z3⟩, ⟨z4, z5⟩, h2, h3, h4, h5⟩ := h
  exact ⟨vkT.moved (U := U.calling g mk a) (Vm.Alike.refl U.vm) h1, ⟨va_AO.moved (U := U.calling g mk a) (Vm.Alike.refl U.vm) z1, va_AO.moved (U := U.calling g mk a) (Vm.Alike.refl U.vm) z2, va_AO.moved (U := U.calling g mk a) (Vm.Alike.refl U.vm) z3⟩, ⟨va_Z.moved (U := U.calling g mk a) (Vm.Alike.refl U.vm) z4, va_Z.moved (U := U.calling g mk a) (Vm.Alike.refl U.vm) z5⟩, vk_R.same rfl h2, vk_R.same rfl h3, vk_R.same rfl h4, vk_R.same rfl h5⟩
def PcM (B : Nat) (D : va_G) (dA : Nat → ClassId) (ad : Nat → Nat) (as : List sV) (c : Nat) (v : sF) : Array Value → State → Prop := fun a U => a = (as.map (cV B ad)).toArray ∧ U.heap.size = B + c ∧ va_P D vcl (wsOf B dA c v) U.heap ∧ va_K D vcl (tysOf dA) U ∧ StrF B ad U
def QcM (B : Nat) (D : va_G) (dA : Nat → ClassId) (ad : Nat → Nat) (r : Option sV) (c : Nat) (v : sF) : Array Value → State → Outcome → State → Prop := fun _ s o t => o = .returned (r.map (cV B ad)) ∧ va_P D vcl (wsOf B dA c v) t.heap ∧ s.heap.size ≤ t.heap.size ∧ ∀ q : Nat, q < s.heap.size → ¬ B ≤ q → t.heap[q]? = s.heap[q]?
def rmD (d mc ms : Nat) : Room := { frames := d + 8, cells := mc, slots := ms, locals := 64 * d + 512 }
def wsM (y : Nat) : List Cond := .code (mN y) (mBytes y) (mMax y) (mRT y) :: gT
def callMm (B : Nat) (D : va_G) (dA : Nat → ClassId) (ad : Nat → Nat) (l : Launch) (d : Nat) (call : sK) : Prop := ∀ y as c v r c' v', y < 313 → call y as (c, v) r (c', v') → okL c as → as.map (fun x => x.1) = (mTags y).reverse → okM c v → (mFm y = 1 → FullP (c, v)) → Met l (mN y) (wsM y) (rmD d (c' - c) (sl c' - sl c)) (PcM B D dA ad as c v) (QcM B D dA ad r c' v') (c' - c) (sl c' - sl c) (fun q => B ≤ q)
theorem Pc_blind (B : Nat) (D : va_G) (dA : Nat → ClassId) (ad : Nat → Nat) (as : List sV) (c : Nat) (v : sF) : FrameBlind (PcM B D dA ad as c v) := by
  intro a U g mk q
  obtain ⟨q0, q1, qP, qK, qS⟩ := q
  exact ⟨q0, q1, qP, va_K.moved (u := U) (U := U.calling g mk a) (Vm.Alike.refl U.vm) qK, StrF_calling g mk a qS⟩
def okS (nL : Nat) (ins : ClassFile.Instr) : Bool := match ins with
  | .istore_n k => decide ((k : Nat) < nL)
  | .istore k => decide (k < nL)
  | .astore_n k => decide ((k : Nat) < nL)
  | .astore k => decide (k < nL)
  | .lstore_n k => decide ((k : Nat) + 1 < nL)
  | .lstore k => decide (k + 1 < nL)
  | _ => true
def okP (own fm : Nat) (ins : ClassFile.Instr) : Bool := match ins with
  | .putfield i => (match lk fTab own i with
    | some q => decide (fm ≠ 0) || !isSt q.1 q.2 || decide (q.1 = own)
    | none => true)
  | _ => true
theorem tgt_e {pc : Nat} {o : Int} (h : 0 ≤ (pc : Int) + o) : (pc : Int) + o = (tgt pc o : Int) := by unfold tgt; omega
theorem brb_t {b : Bool} {P Q : Prop} (h : brb b P Q) (hb : b = true) : P := by subst hb; exact h
theorem brb_f {b : Bool} {P Q : Prop} (h : brb b P Q) (hb : b = false) : Q := by subst hb; exact h
theorem short_len {st : List sV} (h : short st = true) : st.length ≤ 4 := by
  unfold short at h
  split at h
  · cases h
  · rename_i hn
    match st, hn with
    | [], _ => simp
    | [_], _ => simp
    | [_, _], _ => simp
    | [_, _, _], _ => simp
    | [_, _, _, _], _ => simp
    | a :: b :: c :: d :: e :: r, hn => exact absurd rfl (hn a b c d e r)
theorem cV_cat_le (B : Nat) (ad : Nat → Nat) (x : sV) : (cV B ad x).category ≤ 2 := by
  by_cases h : x.1 = 1
  · obtain ⟨t, x⟩ := x
    dsimp only at h
    subst h
    exact Nat.le_refl 2
  · rw [cV_cat h]; decide
theorem cats_le (B : Nat) (ad : Nat → Nat) (st : List sV) : ((st.map (cV B ad)).map fun v => v.category).sum ≤ 2 * st.length := by
  induction st with
  | nil => simp
  | cons x r ih =>
    have := cV_cat_le B ad x
    simp only [List.map_cons, List.sum_cons, List.length_cons]
    omega
theorem mget_e {t0 : List (Nat × Nat)} : True := trivial
end SndDefs
section SndCall
variable {p : Program} {l : Launch} {e : Env} {R : Room} {s : State} {m : MethodId} {args : Array Value} {below : List Frame} {meth : Method} {cd : Code} {H : Heap} {locs : List Loc} {cells slots : Nat} {Q : State → Prop}
theorem W_sz {g : JFrame} (h : H.size ≤ s.heap.size + cells → W p l e R s m args below meth cd H locs cells slots Q g) : W p l e R s m args below meth cd H locs cells slots Q g := fun T hT X => h (by rw [← hT]; exact X.heapSize) T hT X
theorem x_call {mc ms pc : Nat} {ls : Array Slot} {st0 rest : List Value} {Qa : State → Outcome → State → Prop} {free : Addr → Prop} (hr : va_Run p l e R s m args below meth cd H locs cells slots mc ms (F0 m pc ls st0) rest Qa free)
    (kk : ∀ (v : Option Value) (st₀ t : State) (H1 : Heap) (L : List Loc), st₀.heap = H → t.heap = H1 → Qa st₀ (.returned v) t → (∀ q ∈ L, free q.base) → W p l e R s m args below meth cd H1 (locs ++ L) (cells + mc) (slots + ms) Q (F0 m (pc + 3) ls (v.toList ++ rest))) : W p l e R s m args below meth cd H locs cells slots Q (F0 m pc ls st0) := by
  intro T hT X
  obtain ⟨v, st₀, t, T', L, h0, X', hL, e1, e2, hq, st⟩ := hr T hT X
  obtain ⟨t2, a1, b1⟩ := kk v st₀ t T'.heap L h0 e1.symm hq hL T' rfl X'
  exact ⟨t2, st t2 a1, b1⟩
end SndCall
