section Fin2
theorem law_wp {L : Nat} {xs : Int → Int} (hL : 1 ≤ L ∧ L ≤ 3073) (hx : ∀ j : Int, 0 ≤ j → j < (L : Int) - 1 → -2147483648 ≤ xs j ∧ xs j ≤ 2147483647) : Wp (Ev 120) L xs 313 (fun r μ => r = some (0, 1) ∧ μ.1 ≤ 217) 0 [(4, 0), (9, 0), (9, 0), (9, 0)] [] 0 (fun _ _ => 0) := by
  obtain ⟨h1, h2, h3⟩ := st_ok
  refine E313_0 (c := 0) (cktI (by decide +kernel) (cktI (by decide +kernel) ⟨162, nB4 (zer (fun _ _ => 0) 1), h2, cktI (by decide +kernel) (cktI (by decide +kernel) ⟨181, vS, h3, ?_⟩)⟩))
  exact lw_lp hL hx (fun c v hc => ⟨rfl, hc⟩) 513 0 181 vS (by omega) vS_rl h1 vS_full
theorem law_dec {pc len : Nat} {ins : ClassFile.Instr} (h : cdAt (mCode 313) pc = some (ins, len)) : decode code pc = .ok (ins, len) := by
  have hlt := cdAt_lt h
  have hl := law_len
  have h4 := List.all_eq_true.mp (lawK_all (pc / 64) (by omega)) pc (List.mem_map.mpr ⟨pc % 64, List.mem_range.mpr (Nat.mod_lt _ (by decide)), by omega⟩)
  unfold chkP at h4
  rw [h] at h4
  simp only [Bool.and_eq_true] at h4
  have h5 := h4.2
  split at h5
  · rename_i q' e
    rw [e]
    have : q' = (ins, len) := by simpa using h5
    rw [this]
  · cases h5
def tmS (i : Nat) : Term := if i = 0 then .string "MindPost$Tokens" 71 else if i = 1 then .string "MindPost$Tokens" 64 else if i = 2 then .string "MindPostModel" 86 else .string "MindPostModel" 124
def bsS (i : Nat) : Nat := if i = 0 then 52 else if i = 1 then 164 else if i = 2 then 181 else 296
def fvS (i : Nat) : Term := .field (tmS i) "java/lang/String" "value" "[B"
theorem el_all : (List.range 4).all (fun i => (List.range (sLen.getD i 0)).all (fun j => decide ((flatC (Jvm.Cond.and given_1 narrow_1))[bsS i + j]? = some (Cond.eq (.elem (fvS i) (.int (Int32.ofNat j))) (.int ((sByt.getD i []).getD j 0)))))) = true := by decide +kernel
theorem fx_all : ∀ i : Nat, i < 4 → sLen.getD i 0 < 2 ^ 31 ∧ Cond.exactly (tmS i) "java/lang/String" ∈ flatC (Jvm.Cond.and given_1 narrow_1) ∧ Cond.eq (.field (tmS i) "java/lang/String" "coder" "B") (.int 0) ∈ flatC (Jvm.Cond.and given_1 narrow_1) ∧ Cond.arrayOf (fvS i) .byte ∈ flatC (Jvm.Cond.and given_1 narrow_1) ∧ Cond.eq (.length (fvS i)) (.int (Int32.ofNat (sLen.getD i 0))) ∈ flatC (Jvm.Cond.and given_1 narrow_1)
  | 0, _ => by decide +kernel
  | 1, _ => by decide +kernel
  | 2, _ => by decide +kernel
  | 3, _ => by decide +kernel
  | n + 4, h => absurd h (by omega)
theorem str_of {args : Array Value} {s : State} {A : Nat → Prop} (hgv : (Jvm.Cond.and given_1 narrow_1).before args s = true) (hA : ∀ a : Nat, a < s.heap.size → ¬ A a) : ∃ ad : Nat → Nat × Nat, ∀ i : Nat, i < 4 → (tmS i).eval args s none [] s = some (.ref (ad i).1) ∧ va_O "java/lang/String" (ad i).1 A s s.heap ∧ va_OF "java/lang/String" "coder" "B" (.int 0) (ad i).1 A s s.heap ∧ va_OF "java/lang/String" "value" "[B" (.ref (ad i).2) (ad i).1 A s s.heap ∧ va_T .byte (ad i).2 (sLen.getD i 0) (fun j => .int ((sByt.getD i []).getD j 0)) A s s.heap := by
  have hfl := flat_of_before _ hgv
  have h0 : ∀ i : Nat, ∃ q : Nat × Nat, i < 4 → (tmS i).eval args s none [] s = some (.ref q.1) ∧ va_O "java/lang/String" q.1 A s s.heap ∧ va_OF "java/lang/String" "coder" "B" (.int 0) q.1 A s s.heap ∧ va_OF "java/lang/String" "value" "[B" (.ref q.2) q.1 A s s.heap ∧ va_T .byte q.2 (sLen.getD i 0) (fun j => .int ((sByt.getD i []).getD j 0)) A s s.heap := by
    intro i
    by_cases hi : i < 4
    · obtain ⟨hN, hex, hco, har, hle⟩ := fx_all i hi
      have hel : ∀ j : Nat, j < sLen.getD i 0 → (Cond.eq (.elem (fvS i) (.int (Int32.ofNat j))) (.int ((sByt.getD i []).getD j 0))).before args s = true := fun j hj => by
        have h1 := List.all_eq_true.mp el_all i (List.mem_range.mpr hi)
        have h2 := List.all_eq_true.mp h1 j (List.mem_range.mpr hj)
        exact hfl _ (List.mem_of_getElem? (of_decide_eq_true h2))
      obtain ⟨a, c, cA, kA, q1, q2, q3, q4, q5, q6, -⟩ := Cond.exactly_spec (args := args) (first := s) (o := none) (s := s) (idx := []) (t := tmS i) (cls := "java/lang/String") (hfl _ hex)
      obtain ⟨t, ht, hT⟩ := va_Tof (f := fun j => .int ((sByt.getD i []).getD j 0)) (A := A) hN (hfl _ har) (va_eqt (hfl _ hle)) (fun j hj => va_eqt (hel j hj)) hA
      exact ⟨(a, t), fun _ => ⟨q1, ⟨cA, q3, q5, by rw [q6]; exact q2, hA a (Array.getElem?_eq_some_iff.mp q3).1⟩, vk_OFof q1 (va_eqt (hfl _ hco)) hA, vk_OFof q1 ht hA, hT⟩⟩
    · exact ⟨(0, 0), fun h => absurd h hi⟩
  exact Classical.axiomOfChoice h0
/-- the classes and the arrays at the start -/
theorem k_of {args : Array Value} {s : State} (hts : ∀ w ∈ lw_tbl, w.before args s = true) : ∃ (D : va_G) (dA : Nat → ClassId), va_K D vcl (tysOf dA) s := by
  have hts2 : ∀ w ∈ gT, w.before args s = true := fun w hw => hts w (List.mem_filter.mp hw).1
  have hKc : ∀ k : Nat, ∃ q : ClassId × (Nat → Nat), k < 13 → u_Kn s (cN k) (fN k) (nF k) q.1 q.2 := fun k => by
    by_cases hk : k < 13
    · have h1 := List.all_eq_true.mp ci_tab k (List.mem_range.mpr hk)
      rw [Bool.and_eq_true] at h1
      obtain ⟨cC, iS, hh⟩ := u_known (n := nF k) hts2 (f_in hk) (hts2 _ (inT_mem h1.2))
      exact ⟨(cC, iS), fun _ => hh⟩
    · exact ⟨((0 : Nat), fun _ => 0), fun h => absurd h hk⟩
  obtain ⟨g, hg⟩ := Classical.axiomOfChoice hKc
  have hprim : ∀ {ty : FieldType}, Cond.arrayClass ty ∈ gT → (∀ (cA : ClassId), s.vm.findClass ("[" ++ ty.toString) = some cA → va_RA s cA ty) → ∃ cA : ClassId, ArrOfT s cA ty ∧ va_RA s cA ty := fun {ty} hm hra => by
    obtain ⟨cA, kA, comp, f1, f2, f3⟩ := Cond.arrayClass_spec (hts2 _ hm)
    exact ⟨cA, fun n z => ⟨fun k h => (by cases h), kA, f2, comp, f3⟩, hra cA f1⟩
  have hobj : ∀ {C : String}, Cond.arrayOver (.object C) ∈ lw_tbl → ∃ cA : ClassId, ArrOfT s cA (.object C) ∧ va_RA s cA (.object C) := fun {C} hm => by
    obtain ⟨comp, cA, kA, hcomp, hidx, hkA, hkind, hname⟩ := Cond.arrayOver_spec (hts _ hm)
    exact ⟨cA, fun n z => ⟨fun k h => (by cases h), kA, hkA, comp, hkind⟩, kA, comp, hkA, hkind, hcomp, hname⟩
  obtain ⟨a1, b1⟩ := hprim w_arrI (fun _ h => h)
  obtain ⟨a2, b2⟩ := hprim w_arrL (fun _ h => h)
  obtain ⟨a3, b3⟩ := hprim w_arrB (fun _ h => h)
  obtain ⟨a4, b4⟩ := hprim w_arrZ (fun _ h => h)
  obtain ⟨a5, b5⟩ := hobj (C := cN 3) (by decide +kernel)
  obtain ⟨a6, b6⟩ := hobj (C := cN 8) (by decide +kernel)
  obtain ⟨a7, b7⟩ := hobj (C := cN 9) (by decide +kernel)
  refine ⟨(fun k => (g k).1, fun k => (g k).2), fun k => if k = 1 then a1 else if k = 2 then a2 else if k = 3 then a3 else if k = 4 then a4 else if k = 43 then a5 else if k = 48 then a6 else a7, fun k q hq => ?_, fun k q hq => ?_⟩
  · unfold vcl at hq
    rw [List.getElem?_map] at hq
    by_cases hk : k < 13
    · rw [List.getElem?_range hk] at hq
      cases hq
      exact hg k hk
    · rw [List.getElem?_eq_none (by rw [List.length_range]; omega)] at hq
      cases hq
  · unfold tysOf at hq
    match k, hq with
    | 0, hq => cases hq; exact b1
    | 1, hq => cases hq; exact b2
    | 2, hq => cases hq; exact b3
    | 3, hq => cases hq; exact b4
    | 4, hq => cases hq; exact b5
    | 5, hq => cases hq; exact b6
    | 6, hq => cases hq; exact b7
    | k + 7, hq => simp at hq
set_option maxHeartbeats 4000000 in
set_option maxRecDepth 100000 in
theorem whole_start {p : Program} {e : Env} {s : State} {m : MethodId} {below : List Frame} {meth : Method} {c : Code} (l : Launch) {b L : Nat} {xs : Nat → Int32} (hL : L ≤ 3072) (C0 : lw_At p s m meth c b L xs) : W p l e room_1 s m #[Value.ref b] below meth c s.heap [] 0 0 (lw_Z below #[Value.ref b] s) (entryFrame m ([Value.ref b] : List Value).toArray 4) := by
  obtain ⟨hx, hb, hr, hml, hown, hts, hX, hbl, hlocks, hgv⟩ := id C0
  have hts2 : ∀ w ∈ gT, w.before #[Value.ref b] s = true := fun w hw => hts w (List.mem_filter.mp hw).1
  have hA0 : ∀ a : Nat, a < s.heap.size → ¬ (fun q : Nat => s.heap.size ≤ q) a := fun a h => Nat.not_le.mpr h
  have hfl := flat_of_before _ hgv
  obtain ⟨D, dA, hK⟩ := k_of hts
  obtain ⟨sd, hsd⟩ := str_of (A := fun q => s.heap.size ≤ q) hgv hA0
  obtain ⟨z8, hz8⟩ : ∃ z : Nat, va_Z "jdk/internal/util/Preconditions" "SIOOBE_FORMATTER" "Ljava/util/function/BiFunction;" (if z = 0 then .null else .ref (z - 1)) (fun q => s.heap.size ≤ q) s s.heap := by
    rcases va_Zqof (A := fun q => s.heap.size ≤ q) (hts (.laysStatic "jdk/internal/util/Preconditions" "SIOOBE_FORMATTER" "Ljava/util/function/BiFunction;") (by decide +kernel)) (hts (.initialized "jdk/internal/util/Preconditions") (by decide +kernel)) (hfl (.isRef (.static "jdk/internal/util/Preconditions" "SIOOBE_FORMATTER" "Ljava/util/function/BiFunction;")) (by decide +kernel)) hA0 with h | ⟨t, h⟩
    · exact ⟨0, h⟩
    · exact ⟨t + 1, h⟩
  have hcs : va_Z "java/lang/String" "COMPACT_STRINGS" "Z" (.int 1) (fun q => s.heap.size ≤ q) s s.heap := va_Zof (hts (.laysStatic "java/lang/String" "COMPACT_STRINGS" "Z") (by decide +kernel)) (hts (.initialized "java/lang/String") (by decide +kernel)) (va_eqt (hfl (.eq (.static "java/lang/String" "COMPACT_STRINGS" "Z") (.int 1)) (by decide +kernel))) hA0
  obtain ⟨ad, had⟩ : ∃ ad : Nat → Nat, ad = fun i => if i < 4 then (sd i).1 else if i = 8 then z8 else if i = 9 then b else (sd (i - 10)).2 := ⟨_, rfl⟩
  have ad1 : ∀ i : Nat, i < 4 → ad i = (sd i).1 := fun i hi => by rw [had]; exact if_pos hi
  have ad2 : ∀ i : Nat, i < 4 → ad (10 + i) = (sd i).2 := fun i hi => by
    rw [had]
    show (if 10 + i < 4 then (sd (10 + i)).1 else if 10 + i = 8 then z8 else if 10 + i = 9 then b else (sd (10 + i - 10)).2) = _
    rw [if_neg (by omega), if_neg (by omega), if_neg (by omega), show 10 + i - 10 = i by omega]
  have ad8 : ad 8 = z8 := by rw [had]; rfl
  have ad9 : ad 9 = b := by rw [had]; rfl
  have hSt : StrF s.heap.size ad s := by
    refine ⟨⟨fun i hi => ?_, trivial⟩, ⟨va_AO.of (hts (.arrayOver (.object (cN 3))) (by decide +kernel)), va_AO.of (hts (.arrayOver (.object (cN 8))) (by decide +kernel)), va_AO.of (hts (.arrayOver (.object (cN 9))) (by decide +kernel))⟩, ⟨hcs, by rw [ad8]; exact hz8⟩, ?_, ?_, ?_, ?_⟩
    · rw [ad1 i hi, ad2 i hi]; exact (hsd i hi).2
    · rw [ad1 0 (by decide)]; exact vk_R.of (hts _ (by decide +kernel)) (hsd 0 (by decide)).1
    · rw [ad1 1 (by decide)]; exact vk_R.of (hts _ (by decide +kernel)) (hsd 1 (by decide)).1
    · rw [ad1 2 (by decide)]; exact vk_R.of (hts _ (by decide +kernel)) (hsd 2 (by decide)).1
    · rw [ad1 3 (by decide)]; exact vk_R.of (hts _ (by decide +kernel)) (hsd 3 (by decide)).1
  obtain ⟨xsI, hxsI⟩ : ∃ f : Int → Int, f = fun i => (xs i.toNat).toInt := ⟨_, rfl⟩
  have hrng : ∀ i : Int, -2147483648 ≤ xsI i ∧ xsI i ≤ 2147483647 := fun i => by rw [hxsI]; exact i32_rng _
  obtain ⟨n, hrn⟩ := law_wp (L := L + 1) (xs := xsI) ⟨by omega, by omega⟩ (fun j _ _ => hrng j)
  obtain ⟨r, μ, ⟨hr1, hμ⟩, hrn2⟩ := rn_det hrn
  obtain ⟨cF, vF⟩ := μ
  have hcF : cF ≤ 217 := hμ
  have hsl : sl cF - sl 0 ≤ 7302250 := by
    have h1 := sl_mono hcF
    have h2 : sl 217 ≤ 7302250 := by decide +kernel
    omega
  have hown2 : s.vm.findClass (cN (mOwn 313)) = some m.cls := hown
  have key := (snd_rn (l := l) (e := e) (R := room_1) (s := s) (m := m) (args := #[Value.ref b]) (below := below) (meth := meth) (cd := c) (Q := lw_Z below #[Value.ref b] s) (call := Ev 120) (B := s.heap.size) (D := D) (dA := dA) (ad := ad) (L := L + 1) (xs := xsI) (y := 313) (d := 120) (c0 := 0) (cF := cF) (nL := 4) (vF := vF) (rF := r) (ff := False) (bytes := code) hx hb hml hown2 hts2 hK rfl hSt (fun q => absurd q (by decide +kernel)) (by show 120 + 9 ≤ 2048; decide) (by show 64 * 120 + 576 ≤ 84000; decide) (by show cF - 0 ≤ 600000; omega) hsl (ev_ok 120) (snd_Ev l s.heap.size D dA ad 120) (fun _ => ⟨xs, by rw [ad9]; exact hX, by rw [ad9]; exact hbl, by rw [ad9]; exact Nat.not_le.mpr hbl, by omega, fun i _ _ => by rw [hxsI]⟩) (fun i k rest H locs LS pc cells slots q1 q2 q3 q4 => str_ldc hx hb hown2 hSt i k rest H locs LS pc cells slots q1 q2 q3 q4) ?_ ?_ ?_ (fun pc ins len q => ⟨law_dec q, (ins_ok q).2.1⟩) (by omega) hrng (fun q => absurd q (by decide +kernel)) (fun q => q.elim) hrn2 ⟨Nat.le_refl 0, ?_, fun _ hm => absurd hm List.not_mem_nil, fun a i a1 a2 => absurd a2 (by omega), fun q => q.elim⟩).2 s.heap [] _ ?_ va_S.rf (LS_entry (as := [(4, 0)]) (n := 4) (by decide))
  · rw [lg_entry_eq]
    have e1 : [((4, 0) : sV)].map (cV s.heap.size ad) = [.ref b] := by
      show [Value.ref (ad 9)] = [.ref b]
      rw [ad9]
    rw [e1] at key
    exact key
  · intro x H locs LS pc q1 q2 q3 qP qS
    rw [hr1] at q1
    cases q1
    exact va_forget (fun q hq => qS.2.2 q hq) (W.widen (k := 600000) (n := 7302250) (by omega) hsl (lw_ret hx hb hr hlocks q3))
  · intro x H locs LS pc q1
    rw [hr1] at q1
    cases q1
  · intro H locs LS pc q1
    rw [hr1] at q1
    cases q1
  · intro x hm
    simp only [List.mem_cons, List.not_mem_nil, or_false] at hm
    rcases hm with h | h | h | h <;> (subst h; first | exact rfl | exact trivial | (show _ ∧ _; decide) | simp [okV])
  · intro k q hq
    have : wsOf s.heap.size dA 0 (fun _ _ => 0) = [] := rfl
    rw [this] at hq
    simp at hq
end Fin2
