section Sws
theorem sLen_e {k : Nat} (h : k < 4) : sLen.getD k 0 = (sTab.getD k []).length := by
  match k, h with
  | 0, _ => rfl
  | 1, _ => rfl
  | 2, _ => rfl
  | 3, _ => rfl
theorem sByt_e {k : Nat} (h : k < 4) (j : Nat) : (sByt.getD k []).getD j 0 = Int32.ofInt ((sTab.getD k []).getD j 0) := by
  have e : sByt.getD k [] = (sTab.getD k []).map Int32.ofInt := by
    match k, h with
    | 0, _ => rfl
    | 1, _ => rfl
    | 2, _ => rfl
    | 3, _ => rfl
  rw [e]
  generalize sTab.getD k [] = l
  rw [List.getD_eq_getElem?_getD, List.getElem?_map, List.getD_eq_getElem?_getD]
  cases l[j]? <;> rfl
theorem sf_tab : (List.range sfTab.length).all (fun own => (sfTab.getD own []).all (fun q => decide (own = 22) && inT ((lk fHint own q.1).getD 0) (if q.2 = 0 then .fieldLink "java/lang/String" q.1 "java/lang/String" "value" "[B" else .fieldLink "java/lang/String" q.1 "java/lang/String" "coder" "B"))) = true := by decide +kernel
theorem gs_tab : (List.range gTab.length).all (fun own => (gTab.getD own []).all (fun q => decide (own = 22) && inT ((lk fHint own q.1).getD 0) (if q.2 = 0 then .fieldLink "java/lang/String" q.1 "java/lang/String" "COMPACT_STRINGS" "Z" else .fieldLink "java/lang/String" q.1 "jdk/internal/util/Preconditions" "SIOOBE_FORMATTER" "Ljava/util/function/BiFunction;"))) = true := by decide +kernel
theorem tsw_e {x : Int} {pc : Nat} {d : Int} {go : Nat → Prop} {offs : List Int} : ∀ {lo : Int}, tsw x pc d go lo offs → (∃ (j : Nat) (off : Int), offs[j]? = some off ∧ x = lo + j ∧ go (tgt pc off)) ∨ ((x < lo ∨ lo + offs.length ≤ x) ∧ go (tgt pc d)) := by
  induction offs with
  | nil =>
    intro lo h
    refine Or.inr ⟨?_, h⟩
    simp
    omega
  | cons o r ih =>
    intro lo h
    rcases brb_e h with ⟨e, h⟩ | ⟨e, h⟩
    · exact Or.inl ⟨0, o, rfl, by simpa using e, h⟩
    · have e : ¬ x = lo := by simpa using e
      rcases ih h with ⟨j, off, e1, e2, h⟩ | ⟨e1, h⟩
      · exact Or.inl ⟨j + 1, off, by simpa using e1, by omega, h⟩
      · refine Or.inr ⟨?_, h⟩
        simp only [List.length_cons]
        omega
theorem lsw_e {x : Int} {pc : Nat} {d : Int} {go : Nat → Prop} {ps : List (Int × Int)} (h : lsw x pc d go ps) : ∃ off : Int, Op.lookupswitch.offset ps d x = off ∧ (off = d ∨ ∃ k, (k, off) ∈ ps) ∧ go (tgt pc off) := by
  induction ps with
  | nil => exact ⟨d, rfl, Or.inl rfl, h⟩
  | cons q r ih =>
    obtain ⟨k, o⟩ := q
    rcases brb_e h with ⟨e, h⟩ | ⟨e, h⟩
    · have e : x = k := by simpa using e
      refine ⟨o, ?_, Or.inr ⟨k, List.mem_cons_self⟩, h⟩
      rw [Op.lookupswitch.offset_cons, if_pos e.symm]
    · have e : ¬ x = k := by simpa using e
      obtain ⟨off, e1, e2, h⟩ := ih h
      refine ⟨off, ?_, ?_, h⟩
      · rw [Op.lookupswitch.offset_cons, if_neg (fun q => e q.symm)]
        exact e1
      · rcases e2 with e2 | ⟨k2, e2⟩
        · exact Or.inl e2
        · exact Or.inr ⟨k2, List.mem_cons_of_mem _ e2⟩
end Sws
section CallElims
theorem may_e {fm gm : Nat} {μ : sM} {P : Prop} (h : may fm gm μ P) : P ∧ (gm = 1 → fm = 1 ∨ FullP μ) := by
  unfold may at h
  split at h
  · exact ⟨h, fun _ => Or.inl rfl⟩
  · exact ⟨h, fun q => by cases q⟩
  · exact ⟨h, fun q => by cases q⟩
  · exact ⟨h, fun q => by cases q⟩
  · exact ⟨h, fun q => by cases q⟩
  · exact ⟨h, fun q => by cases q⟩
  · exact ⟨h.2, fun _ => Or.inr h.1⟩
  · exact ⟨h, fun q => by cases q⟩
  · exact h.elim
theorem clR_e {call : sK} {rt y : Nat} {as : List sV} {μ : sM} {k : Option sV → Nat → sF → Prop} (h : clR call rt y as μ k) : ∃ r c v, call y as μ r (c, v) ∧ k r c v := by
  unfold clR at h
  split at h
  · obtain ⟨x, c, v, h1, h2⟩ := h; exact ⟨_, c, v, h1, h2⟩
  · obtain ⟨x, c, v, h1, h2⟩ := h; exact ⟨_, c, v, h1, h2⟩
  · obtain ⟨x, c, v, h1, h2⟩ := h; exact ⟨_, c, v, h1, h2⟩
  · obtain ⟨x, c, v, h1, h2⟩ := h; exact ⟨_, c, v, h1, h2⟩
  · obtain ⟨x, c, v, h1, h2⟩ := h; exact ⟨_, c, v, h1, h2⟩
  · obtain ⟨c, v, h1, h2⟩ := h; exact ⟨_, c, v, h1, h2⟩
  · exact h.elim
theorem endI_e {rt : Nat} {st : List sV} {k : Option sV → Prop} (h : endI rt st k) : ∃ x, st = [(0, x)] ∧ (rt = 0 ∨ (rt = 6 ∧ (x = 0 ∨ x = 1)) ∨ (rt = 7 ∧ -128 ≤ x ∧ x ≤ 127) ∨ (rt = 8 ∧ 0 ≤ x ∧ x ≤ 65535)) ∧ k (some (0, x)) := by
  unfold endI at h
  split at h
  · obtain ⟨x, r, hE, hN⟩ := pI_e h
    clear h
    subst hE
    have h := hN
    clear hN
    obtain ⟨h1, hN⟩ := chk_e h
    clear h
    have h := hN
    clear hN
    have : r = [] := by simpa using h1
    subst this
    exact ⟨x, rfl, Or.inl rfl, h⟩
  · obtain ⟨x, r, hE, hN⟩ := pI_e h
    obtain ⟨h1, h2⟩ := chk_e hN
    simp only [Bool.and_eq_true, Bool.or_eq_true, decide_eq_true_eq, List.isEmpty_iff] at h1
    exact ⟨x, by rw [hE, h1.1], Or.inr (Or.inl ⟨rfl, h1.2⟩), h2⟩
  · obtain ⟨x, r, hE, hN⟩ := pI_e h
    obtain ⟨h1, h2⟩ := chk_e hN
    simp only [Bool.and_eq_true, decide_eq_true_eq, List.isEmpty_iff] at h1
    exact ⟨x, by rw [hE, h1.1], Or.inr (Or.inr (Or.inl ⟨rfl, h1.2⟩)), h2⟩
  · obtain ⟨x, r, hE, hN⟩ := pI_e h
    obtain ⟨h1, h2⟩ := chk_e hN
    simp only [Bool.and_eq_true, decide_eq_true_eq, List.isEmpty_iff] at h1
    exact ⟨x, by rw [hE, h1.1], Or.inr (Or.inr (Or.inr ⟨rfl, h1.2⟩)), h2⟩
  · exact h.elim
theorem endL_e {rt : Nat} {st : List sV} {k : Option sV → Prop} (h : endL rt st k) : ∃ x, st = [(1, x)] ∧ rt = 1 ∧ k (some (1, x)) := by
  unfold endL at h
  split at h
  · obtain ⟨x, r, hE, hN⟩ := pL_e h
    clear h
    subst hE
    have h := hN
    clear hN
    obtain ⟨h1, hN⟩ := chk_e h
    clear h
    have h := hN
    clear hN
    have : r = [] := by simpa using h1
    subst this
    exact ⟨x, rfl, rfl, h⟩
  · exact h.elim
theorem endV_e {rt : Nat} {st : List sV} {k : Option sV → Prop} (h : endV rt st k) : st = [] ∧ rt = 5 ∧ k none := by
  unfold endV at h
  split at h
  · obtain ⟨h1, hN⟩ := chk_e h
    clear h
    have h := hN
    clear hN
    exact ⟨by simpa using h1, rfl, h⟩
  · exact h.elim
theorem ws_fresh {B : Nat} {D : va_G} {dA : Nat → ClassId} {c : Nat} {v : sF} {q : Nat} {E : va_E} {H1 : Heap} (hP : va_P D vcl (wsOf B dA c v ++ [(q, E)]) H1) (hD : va_D (fun q => B ≤ q) (wsOf B dA c v ++ [(q, E)])) (hz : H1.size ≤ B + c + 1) : q = B + c := by
  have hc : (wsOf B dA c v ++ [(q, E)])[c]? = some (q, E) := by
    rw [List.getElem?_append_right (by rw [ws_len]; exact Nat.le_refl c), ws_len]
    simp
  have h1 : q < H1.size := (hP c _ hc).lt
  have h2 : B ≤ q := hD.2 c _ hc
  rcases Nat.lt_or_ge q (B + c) with h3 | h3
  · have hk : (wsOf B dA c v ++ [(q, E)])[q - B]? = some (B + (q - B), cE B dA v (q - B + 1)) := by
      rw [List.getElem?_append_left (by rw [ws_len]; omega), ws_at (by omega)]
    have := hD.1 (q - B) c _ _ hk hc (by show B + (q - B) = q; omega)
    omega
  · omega
theorem ws_sz {B : Nat} {D : va_G} {dA : Nat → ClassId} {c c0 : Nat} {v : sF} {s : State} {H : Heap} {locs : List Loc} (hs0 : s.heap.size = B + c0) (hc : c0 ≤ c) (hP : va_P D vcl (wsOf B dA c v) H) (hS : va_S (fun q => B ≤ q) s.heap H locs) (hz : H.size ≤ s.heap.size + (c - c0)) : H.size = B + c := by
  have h1 := hS.1
  rcases Nat.eq_zero_or_pos c with h0 | h0
  · omega
  · have h2 := (hP (c - 1) _ (ws_at (by omega))).lt
    dsimp only at h2
    omega
theorem w_arrI : Cond.arrayClass .int ∈ gT := inT_mem (h := 66) (by decide +kernel)
theorem w_arrL : Cond.arrayClass .long ∈ gT := inT_mem (h := 368) (by decide +kernel)
theorem w_arrB : Cond.arrayClass .byte ∈ gT := inT_mem (h := 65) (by decide +kernel)
theorem w_arrZ : Cond.arrayClass .boolean ∈ gT := inT_mem (h := 1341) (by decide +kernel)
theorem w_obj1 : Cond.instanceMethod objectInit ∈ gT := inT_mem (h := 28) (by decide +kernel)
theorem w_obj2 : Cond.code objectInit ⟨#[0xb1]⟩ 1 none ∈ gT := inT_mem (h := 29) (by decide +kernel)
theorem w_cp1 : Cond.native arraycopyName ∈ gT := inT_mem (h := 716) (by decide +kernel)
theorem w_cp2 : Cond.static arraycopyName ∈ gT := inT_mem (h := 715) (by decide +kernel)
theorem w_cp3 : Cond.initialized "java/lang/System" ∈ gT := inT_mem (h := 20) (by decide +kernel)
theorem m_facts {y : Nat} (hy : y < 313) : Cond.code (mN y) (mBytes y) (mMax y) (mRT y) ∈ gT ∧ Cond.initialized (mN y).cls ∈ gT ∧ (mN y).cls = cN (mOwn y) ∧ mMax y ≤ 40 ∧ plainFor (mN y) = true ∧ (mN y).cls ≠ "java/lang/invoke/MethodHandle" ∧ (mN y).cls ≠ "java/lang/invoke/VarHandle" ∧ (mFm y = 0 → (mN y).name = "<init>") ∧ ((mTags y).map (fun t => if t = 1 then 2 else 1)).sum ≤ mMax y ∧ mRT y = (match mRet y with
    | 0 => some .int
    | 1 => some .long
    | 6 => some .boolean
    | 7 => some .byte
    | 8 => some .char
    | _ => none) := by
  have h1 := mOk_all y (by omega)
  have hown : (mT y).1 ≠ 25 := by
    have h2 : (List.range 313).all (fun y => decide ((mT y).1 ≠ 25)) = true := by decide +kernel
    have := List.all_eq_true.mp h2 y (List.mem_range.mpr hy)
    simpa using this
  simp only [mOkB, Bool.and_eq_true, Bool.or_eq_true, decide_eq_true_eq] at h1
  obtain ⟨⟨⟨⟨⟨⟨⟨⟨⟨h1, h2⟩, h3⟩, h4⟩, h5⟩, h6⟩, h7⟩, h8⟩, h9⟩, h10⟩ := h1
  rcases h10 with h10 | h10
  · exact absurd h10 hown
  · obtain ⟨⟨⟨⟨a1, a2⟩, a3⟩, a4⟩, a5⟩ := h10
    refine ⟨inT_mem a1, inT_mem a2, h2, h3, h6, h7, h8, fun q => ?_, a3, h4⟩
    rcases h9 with h9 | h9
    · exact absurd q h9
    · exact h9
theorem m_good {y : Nat} (hy : y < 313) : GoodIn gT (wsM y) := by
  intro w hw
  rcases List.mem_cons.mp hw with rfl | h
  · exact ⟨(m_facts hy).1, lw_good (m_facts hy).1⟩
  · exact ⟨h, lw_good h⟩
end CallElims
section SndSi
variable {p : Program} {l : Launch} {e : Env} {R : Room} {s : State} {m : MethodId} {args : Array Value} {below : List Frame} {meth : Method} {cd : Code} {Q : State → Prop}
set_option maxHeartbeats 40000000 in
set_option maxRecDepth 20000 in
theorem snd_si {call : sK} {B : Nat} {D : va_G} {dA : Nat → ClassId} {ad : Nat → Nat} {L : Nat} {xs : Int → Int} {fm own rt d c0 cF nL : Nat} {vF : sF} {rF : Option sV} {ff : Prop} {bytes : ByteArray}
    (hx : p.tables.exec = Jvm.exec) (hb : cd.code = bytes) (hml : cd.maxLocals = nL) (hown : s.vm.findClass (cN own) = some m.cls) (hts : ∀ w ∈ gT, w.before args s = true) (hK : va_K D vcl (tysOf dA) s) (hs0 : s.heap.size = B + c0) (hSt : StrF B ad s) (hini : fm = 0 → meth.name = "<init>") (hRf : d + 9 ≤ R.frames) (hRl : 64 * d + 576 ≤ R.locals) (hRc : cF - c0 ≤ R.cells) (hRs : sl cF - sl c0 ≤ R.slots)
    (hcall : callOk call) (hM : callMm B D dA ad l d call)
    (hscr : 0 < L → ∃ xs' : Nat → Int32, va_X (ad 9) (L - 1) xs' s s.heap ∧ ad 9 < s.heap.size ∧ ¬ B ≤ ad 9 ∧ L ≤ 3073 ∧ ∀ i : Int, 0 ≤ i → i < (L : Int) - 1 → xs i = (xs' i.toNat).toInt)
    (hs3 : ∀ (i k : Nat) (rest : List Value) (H : Heap) (locs : List Loc) (LS : Array Slot) (pc cells slots : Nat), lk kTab own i = some (3, (k : Int)) → k < 4 → decode bytes pc = .ok (.ldc i, 2) → W p l e R s m args below meth cd H locs cells slots Q (F0 m (pc + 2) LS (.ref (ad k) :: rest)) → W p l e R s m args below meth cd H locs cells slots Q (F0 m pc LS rest))
    (hendI : ∀ (x : Int) (H : Heap) (locs : List Loc) (LS : Array Slot) (pc : Nat), rF = some (0, x) → (rt = 0 ∨ (rt = 6 ∧ (x = 0 ∨ x = 1)) ∨ (rt = 7 ∧ -128 ≤ x ∧ x ≤ 127) ∨ (rt = 8 ∧ 0 ≤ x ∧ x ≤ 65535)) → decode bytes pc = .ok (.ireturn, 1) → va_P D vcl (wsOf B dA cF vF) H → va_S (fun q => B ≤ q) s.heap H locs → W p l e R s m args below meth cd H locs (cF - c0) (sl cF - sl c0) Q (F0 m pc LS [.int (Int32.ofInt x)]))
    (hendL : ∀ (x : Int) (H : Heap) (locs : List Loc) (LS : Array Slot) (pc : Nat), rF = some (1, x) → rt = 1 → decode bytes pc = .ok (.lreturn, 1) → va_P D vcl (wsOf B dA cF vF) H → va_S (fun q => B ≤ q) s.heap H locs → W p l e R s m args below meth cd H locs (cF - c0) (sl cF - sl c0) Q (F0 m pc LS [.long (Int64.ofInt x)]))
    (hendV : ∀ (H : Heap) (locs : List Loc) (LS : Array Slot) (pc : Nat), rF = none → rt = 5 → decode bytes pc = .ok (.return_, 1) → va_P D vcl (wsOf B dA cF vF) H → va_S (fun q => B ≤ q) s.heap H locs → W p l e R s m args below meth cd H locs (cF - c0) (sl cF - sl c0) Q (F0 m pc LS []))
    {ins : ClassFile.Instr} {len pc : Nat} (hdec : decode bytes pc = .ok (ins, len)) (hok : okI pc ins len = true) (hsto : okS nL ins = true) (hpf : okP own fm ins = true) {ls st : List sV} {c : Nat} {v : sF} (hI : Inv c0 ff ls st c v) (hf1 : fm = 1 → ff)
    (h : si call L xs fm own rt ins len pc ls st c v (fun pc ls st c v => c ≤ cF ∧ ∀ (H : Heap) (locs : List Loc) (LS : Array Slot), va_P D vcl (wsOf B dA c v) H → va_S (fun q => B ≤ q) s.heap H locs → LSok B ad nL LS ls → W p l e R s m args below meth cd H locs (c - c0) (sl c - sl c0) Q (F0 m pc LS (st.map (cV B ad)))) (fun r μ => r = rF ∧ μ = (cF, vF)))
    {H : Heap} {locs : List Loc} {LS : Array Slot} (hP : va_P D vcl (wsOf B dA c v) H) (hS : va_S (fun q => B ≤ q) s.heap H locs) (hLS : LSok B ad nL LS ls) : W p l e R s m args below meth cd H locs (c - c0) (sl c - sl c0) Q (F0 m pc LS (st.map (cV B ad))) := by
  obtain ⟨hc, hls, hst, hMm, hFf⟩ := hI
  have hD : va_D (fun q => B ≤ q) (wsOf B dA c v) := ws_D c v
  have hlv := lvOf_has hLS
  have hBs : B ≤ s.heap.size := by omega
  have hA : ∀ q : Nat, s.heap.size ≤ q → B ≤ q := fun q hq => by omega
  cases ins <;> first
    | (unfold si at h; exact h.elim)
    | skip
  all_goals unfold si at h
  all_goals dsimp only at h
  case iconst i =>
    simp only [okI, Bool.and_eq_true, decide_eq_true_eq, beq_iff_eq] at hok
    obtain ⟨hok, rfl⟩ := hok
    exact lv_iconst hx hb hdec rfl (h.2 H locs LS hP hS hLS)
  case bipush i =>
    simp only [okI, Bool.and_eq_true, decide_eq_true_eq, beq_iff_eq] at hok
    obtain ⟨hok, rfl⟩ := hok
    exact lv_bipush hx hb hdec (o_bip hok) (h.2 H locs LS hP hS hLS)
  case sipush i =>
    simp only [okI, Bool.and_eq_true, decide_eq_true_eq, beq_iff_eq] at hok
    obtain ⟨hok, rfl⟩ := hok
    exact lv_sipush hx hb hdec (o_sip hok) (h.2 H locs LS hP hS hLS)
  case lconst k =>
    obtain rfl : len = 1 := by simpa [okI] using hok
    refine lv_lconst hx hb hdec ?_ (h.2 H locs LS hP hS hLS)
    rfl
  case ldc i =>
    obtain rfl : len = 2 := by simpa [okI] using hok
    split at h
    · rename_i x e1
      have hw := lk_all2 kw_tab e1
      exact lv_ldc hx hb hown (hts _ (inT_mem hw)) hdec (h.2 H locs LS hP hS hLS)
    · rename_i x e1
      have hw := lk_all kTab_ok e1
      simp only [Bool.and_eq_true, Bool.or_eq_true, decide_eq_true_eq] at hw
      have hz : x = ((x.toNat : Nat) : Int) := by omega
      exact hs3 i x.toNat _ H locs LS pc _ _ (by rw [e1, ← hz]) (by omega) hdec (h.2 H locs LS hP hS hLS)
    · exact h.elim
  case ldc_w i =>
    obtain rfl : len = 3 := by simpa [okI] using hok
    split at h
    · rename_i x e1
      have hw := lk_all2 kw_tab e1
      exact lv_ldcw hx hb hown (hts _ (inT_mem hw)) hdec (h.2 H locs LS hP hS hLS)
    · exact h.elim
  case ldc2_w i =>
    obtain rfl : len = 3 := by simpa [okI] using hok
    split at h
    · rename_i x e1
      have hw := lk_all2 kw_tab e1
      exact lv_ldc2 hx hb hown (hts _ (inT_mem hw)) hdec (h.2 H locs LS hP hS hLS)
    · exact h.elim
  case iload_n k =>
    obtain rfl : len = 1 := by simpa [okI] using hok
    obtain ⟨a, e1, h⟩ := gI_e h
    exact lv_iload_n hx hb hdec rfl (hLS.2.2.2 _ _ e1 (show (0 : Nat) ≠ 9 by decide)) (h.2 H locs LS hP hS hLS)
  case iload k =>
    obtain rfl : len = 2 := by simpa [okI] using hok
    obtain ⟨a, e1, h⟩ := gI_e h
    exact lv_iload hx hb hdec (hLS.2.2.2 _ _ e1 (show (0 : Nat) ≠ 9 by decide)) (h.2 H locs LS hP hS hLS)
  case lload_n k =>
    obtain rfl : len = 1 := by simpa [okI] using hok
    obtain ⟨a, e1, h⟩ := gL_e h
    exact lv_lload_n hx hb hdec rfl (hLS.2.2.2 _ _ e1 (show (1 : Nat) ≠ 9 by decide)) (h.2 H locs LS hP hS hLS)
  case lload k =>
    obtain rfl : len = 2 := by simpa [okI] using hok
    obtain ⟨a, e1, h⟩ := gL_e h
    exact lv_lload hx hb hdec (hLS.2.2.2 _ _ e1 (show (1 : Nat) ≠ 9 by decide)) (h.2 H locs LS hP hS hLS)
  case aload_n k =>
    obtain rfl : len = 1 := by simpa [okI] using hok
    obtain ⟨⟨t, a⟩, e1, ht, h⟩ := gA_e h
    have hg := h.2 H locs LS hP hS hLS
    have hl := hLS.2.2.2 _ _ e1 (show t ≠ 9 by intro q; subst q; simp at ht)
    rw [List.map_cons] at hg
    have hv : cV B ad (t, a) = .null ∨ ∃ q, cV B ad (t, a) = .ref q := by
      rcases ht with ht | ht | ht | ht | ht <;> (dsimp only at ht; subst ht)
      · by_cases ha : a = 0
        · exact Or.inl (by show (if a = 0 then Value.null else _) = _; rw [if_pos ha])
        · exact Or.inr ⟨_, by show (if a = 0 then Value.null else _) = _; rw [if_neg ha]⟩
      · exact Or.inr ⟨_, rfl⟩
      · exact Or.inr ⟨_, rfl⟩
      · exact Or.inr ⟨_, rfl⟩
      · by_cases ha : ad 8 = 0
        · exact Or.inl (by show (if ad 8 = 0 then Value.null else _) = _; rw [if_pos ha])
        · exact Or.inr ⟨_, by show (if ad 8 = 0 then Value.null else _) = _; rw [if_neg ha]⟩
    rcases hv with hv | ⟨q, hv⟩
    · rw [hv] at hg hl
      exact lv_aload_nN hx hb hdec rfl hl hg
    · rw [hv] at hg hl
      exact lv_aload_n hx hb hdec rfl hl hg
  case aload k =>
    obtain rfl : len = 2 := by simpa [okI] using hok
    obtain ⟨⟨t, a⟩, e1, ht, h⟩ := gA_e h
    have hg := h.2 H locs LS hP hS hLS
    have hl := hLS.2.2.2 _ _ e1 (show t ≠ 9 by intro q; subst q; simp at ht)
    rw [List.map_cons] at hg
    have hv : cV B ad (t, a) = .null ∨ ∃ q, cV B ad (t, a) = .ref q := by
      rcases ht with ht | ht | ht | ht | ht <;> (dsimp only at ht; subst ht)
      · by_cases ha : a = 0
        · exact Or.inl (by show (if a = 0 then Value.null else _) = _; rw [if_pos ha])
        · exact Or.inr ⟨_, by show (if a = 0 then Value.null else _) = _; rw [if_neg ha]⟩
      · exact Or.inr ⟨_, rfl⟩
      · exact Or.inr ⟨_, rfl⟩
      · exact Or.inr ⟨_, rfl⟩
      · by_cases ha : ad 8 = 0
        · exact Or.inl (by show (if ad 8 = 0 then Value.null else _) = _; rw [if_pos ha])
        · exact Or.inr ⟨_, by show (if ad 8 = 0 then Value.null else _) = _; rw [if_neg ha]⟩
    rcases hv with hv | ⟨q, hv⟩
    · rw [hv] at hg hl
      exact lv_aloadN hx hb hdec hl hg
    · rw [hv] at hg hl
      exact lv_aload hx hb hdec hl hg
  case istore_n k =>
    obtain rfl : len = 1 := by simpa [okI] using hok
    obtain ⟨a, r, hE, hN⟩ := pI_e h
    clear h
    subst hE
    have h := hN
    clear hN
    have hk : (k : Nat) < nL := by simpa [okS] using hsto
    exact lv_istore_n hx hb hdec rfl hlv hk rfl (fun ls' hl' => h.2 H locs ls' hP hS (LS_store1 (x := (0, a)) hLS hk hl'))
  case istore k =>
    obtain rfl : len = 2 := by simpa [okI] using hok
    obtain ⟨a, r, hE, hN⟩ := pI_e h
    clear h
    subst hE
    have h := hN
    clear hN
    have hk : (k : Nat) < nL := by simpa [okS] using hsto
    exact lv_istore hx hb hdec hlv hk rfl (fun ls' hl' => h.2 H locs ls' hP hS (LS_store1 (x := (0, a)) hLS hk hl'))
  case lstore_n k =>
    obtain rfl : len = 1 := by simpa [okI] using hok
    obtain ⟨a, r, hE, hN⟩ := pL_e h
    clear h
    subst hE
    have h := hN
    clear hN
    have hk : (k : Nat) + 1 < nL := by simpa [okS] using hsto
    exact lv_lstore_n hx hb hdec rfl hlv hk rfl (fun ls' hl' => h.2 H locs ls' hP hS (LS_store2 hLS hk hl'))
  case lstore k =>
    obtain rfl : len = 2 := by simpa [okI] using hok
    obtain ⟨a, r, hE, hN⟩ := pL_e h
    clear h
    subst hE
    have h := hN
    clear hN
    have hk : (k : Nat) + 1 < nL := by simpa [okS] using hsto
    exact lv_lstore hx hb hdec hlv hk rfl (fun ls' hl' => h.2 H locs ls' hP hS (LS_store2 hLS hk hl'))
  case astore_n k =>
    obtain rfl : len = 1 := by simpa [okI] using hok
    obtain ⟨a, r, hE, hN⟩ := pR_e h
    clear h
    subst hE
    have h := hN
    clear hN
    have hk : (k : Nat) < nL := by simpa [okS] using hsto
    by_cases ha : a = 0
    · have hv : cV B ad (2, a) = .null := by show (if a = 0 then Value.null else _) = _; rw [if_pos ha]
      rw [List.map_cons, hv]
      exact lv_astore_nN hx hb hdec rfl hlv hk rfl (fun ls' hl' => h.2 H locs ls' hP hS (LS_store1 (x := (2, a)) hLS hk (by rw [hv]; exact hl')))
    · have hv : cV B ad (2, a) = .ref (rA B a) := by show (if a = 0 then Value.null else _) = _; rw [if_neg ha]
      rw [List.map_cons, hv]
      exact lv_astore_n hx hb hdec rfl hlv hk rfl (fun ls' hl' => h.2 H locs ls' hP hS (LS_store1 (x := (2, a)) hLS hk (by rw [hv]; exact hl')))
  case astore k =>
    obtain rfl : len = 2 := by simpa [okI] using hok
    obtain ⟨a, r, hE, hN⟩ := pR_e h
    clear h
    subst hE
    have h := hN
    clear hN
    have hk : (k : Nat) < nL := by simpa [okS] using hsto
    by_cases ha : a = 0
    · have hv : cV B ad (2, a) = .null := by show (if a = 0 then Value.null else _) = _; rw [if_pos ha]
      rw [List.map_cons, hv]
      exact lv_astoreN hx hb hdec hlv hk rfl (fun ls' hl' => h.2 H locs ls' hP hS (LS_store1 (x := (2, a)) hLS hk (by rw [hv]; exact hl')))
    · have hv : cV B ad (2, a) = .ref (rA B a) := by show (if a = 0 then Value.null else _) = _; rw [if_neg ha]
      rw [List.map_cons, hv]
      exact lv_astore hx hb hdec hlv hk rfl (fun ls' hl' => h.2 H locs ls' hP hS (LS_store1 (x := (2, a)) hLS hk (by rw [hv]; exact hl')))
  case iinc k n =>
    obtain rfl : len = 3 := by simpa [okI] using hok
    obtain ⟨a, e1, h⟩ := gI_e h
    have hk : k < nL := by rw [← hLS.1]; exact (List.getElem?_eq_some_iff.mp e1).1
    obtain ⟨j, hj⟩ := List.getElem?_of_mem (lvOf_mem (B := B) (ad := ad) e1 (show (0 : Nat) ≠ 9 by decide))
    exact lv_iinc (x := Int32.ofInt a) (v := Int32.ofInt (w32 (a + n))) hx hb hdec hlv hj (by rw [o32_w, Int32.ofInt_add]) hk rfl (fun ls' hl' => h.2 H locs ls' hP hS (LS_store1 (x := (0, w32 (a + n))) hLS hk hl'))
  case iadd =>
    obtain rfl : len = 1 := by simpa [okI] using hok
    obtain ⟨b, r, hE, hN⟩ := pI_e h
    clear h
    subst hE
    have h := hN
    clear hN
    obtain ⟨a, r2, hE, hN⟩ := pI_e h
    clear h
    subst hE
    have h := hN
    clear hN
    have hra : okV c (0, a) := okL_hd (okL_tl hst)
    have hrb : okV c (0, b) := okL_hd hst
    have hg := h.2 H locs LS hP hS hLS
    refine lv_iadd hx hb hdec ?_
    rw [← o32_add]
    exact hg
  case isub =>
    obtain rfl : len = 1 := by simpa [okI] using hok
    obtain ⟨b, r, hE, hN⟩ := pI_e h
    clear h
    subst hE
    have h := hN
    clear hN
    obtain ⟨a, r2, hE, hN⟩ := pI_e h
    clear h
    subst hE
    have h := hN
    clear hN
    have hra : okV c (0, a) := okL_hd (okL_tl hst)
    have hrb : okV c (0, b) := okL_hd hst
    have hg := h.2 H locs LS hP hS hLS
    refine lv_isub hx hb hdec ?_
    rw [← o32_sub]
    exact hg
  case imul =>
    obtain rfl : len = 1 := by simpa [okI] using hok
    obtain ⟨b, r, hE, hN⟩ := pI_e h
    clear h
    subst hE
    have h := hN
    clear hN
    obtain ⟨a, r2, hE, hN⟩ := pI_e h
    clear h
    subst hE
    have h := hN
    clear hN
    have hra : okV c (0, a) := okL_hd (okL_tl hst)
    have hrb : okV c (0, b) := okL_hd hst
    have hg := h.2 H locs LS hP hS hLS
    refine lv_imul hx hb hdec ?_
    rw [← o32_mul]
    exact hg
  case ladd =>
    obtain rfl : len = 1 := by simpa [okI] using hok
    obtain ⟨b, r, hE, hN⟩ := pL_e h
    clear h
    subst hE
    have h := hN
    clear hN
    obtain ⟨a, r2, hE, hN⟩ := pL_e h
    clear h
    subst hE
    have h := hN
    clear hN
    have hra : okV c (1, a) := okL_hd (okL_tl hst)
    have hrb : okV c (1, b) := okL_hd hst
    have hg := h.2 H locs LS hP hS hLS
    refine lv_ladd hx hb hdec ?_
    rw [← o64_add]
    exact hg
  case lsub =>
    obtain rfl : len = 1 := by simpa [okI] using hok
    obtain ⟨b, r, hE, hN⟩ := pL_e h
    clear h
    subst hE
    have h := hN
    clear hN
    obtain ⟨a, r2, hE, hN⟩ := pL_e h
    clear h
    subst hE
    have h := hN
    clear hN
    have hra : okV c (1, a) := okL_hd (okL_tl hst)
    have hrb : okV c (1, b) := okL_hd hst
    have hg := h.2 H locs LS hP hS hLS
    refine lv_lsub hx hb hdec ?_
    rw [← o64_sub]
    exact hg
  case lmul =>
    obtain rfl : len = 1 := by simpa [okI] using hok
    obtain ⟨b, r, hE, hN⟩ := pL_e h
    clear h
    subst hE
    have h := hN
    clear hN
    obtain ⟨a, r2, hE, hN⟩ := pL_e h
    clear h
    subst hE
    have h := hN
    clear hN
    have hra : okV c (1, a) := okL_hd (okL_tl hst)
    have hrb : okV c (1, b) := okL_hd hst
    have hg := h.2 H locs LS hP hS hLS
    refine lv_lmul hx hb hdec ?_
    rw [← o64_mul]
    exact hg
  case idiv =>
    obtain rfl : len = 1 := by simpa [okI] using hok
    obtain ⟨b, r, hE, hN⟩ := pI_e h
    clear h
    subst hE
    have h := hN
    clear hN
    obtain ⟨a, r2, hE, hN⟩ := pI_e h
    clear h
    subst hE
    have h := hN
    clear hN
    obtain ⟨hz, hN⟩ := chk_e h
    clear h
    have h := hN
    clear hN
    have hz : ¬ b = 0 := by simpa using hz
    have hra : okV c (0, a) := okL_hd (okL_tl hst)
    have hrb : okV c (0, b) := okL_hd hst
    have hg := h.2 H locs LS hP hS hLS
    refine lv_idiv hx hb hdec (fun q => hz ((eq32 hrb (by decide)).mp q)) ?_
    rw [← o32_div hra hrb]
    exact hg
  case irem =>
    obtain rfl : len = 1 := by simpa [okI] using hok
    obtain ⟨b, r, hE, hN⟩ := pI_e h
    clear h
    subst hE
    have h := hN
    clear hN
    obtain ⟨a, r2, hE, hN⟩ := pI_e h
    clear h
    subst hE
    have h := hN
    clear hN
    obtain ⟨hz, hN⟩ := chk_e h
    clear h
    have h := hN
    clear hN
    have hz : ¬ b = 0 := by simpa using hz
    have hra : okV c (0, a) := okL_hd (okL_tl hst)
    have hrb : okV c (0, b) := okL_hd hst
    have hg := h.2 H locs LS hP hS hLS
    refine lv_irem hx hb hdec (fun q => hz ((eq32 hrb (by decide)).mp q)) ?_
    rw [← o32_rem hra hrb]
    exact hg
  case ldiv =>
    obtain rfl : len = 1 := by simpa [okI] using hok
    obtain ⟨b, r, hE, hN⟩ := pL_e h
    clear h
    subst hE
    have h := hN
    clear hN
    obtain ⟨a, r2, hE, hN⟩ := pL_e h
    clear h
    subst hE
    have h := hN
    clear hN
    obtain ⟨hz, hN⟩ := chk_e h
    clear h
    have h := hN
    clear hN
    have hz : ¬ b = 0 := by simpa using hz
    have hra : okV c (1, a) := okL_hd (okL_tl hst)
    have hrb : okV c (1, b) := okL_hd hst
    have hg := h.2 H locs LS hP hS hLS
    refine lv_ldiv hx hb hdec (fun q => hz ((eq64 hrb (by decide)).mp q)) ?_
    rw [← o64_div hra hrb]
    exact hg
  case lrem =>
    obtain rfl : len = 1 := by simpa [okI] using hok
    obtain ⟨b, r, hE, hN⟩ := pL_e h
    clear h
    subst hE
    have h := hN
    clear hN
    obtain ⟨a, r2, hE, hN⟩ := pL_e h
    clear h
    subst hE
    have h := hN
    clear hN
    obtain ⟨hz, hN⟩ := chk_e h
    clear h
    have h := hN
    clear hN
    have hz : ¬ b = 0 := by simpa using hz
    have hra : okV c (1, a) := okL_hd (okL_tl hst)
    have hrb : okV c (1, b) := okL_hd hst
    have hg := h.2 H locs LS hP hS hLS
    refine lv_lrem hx hb hdec (fun q => hz ((eq64 hrb (by decide)).mp q)) ?_
    rw [← o64_rem hra hrb]
    exact hg
  case iand =>
    obtain rfl : len = 1 := by simpa [okI] using hok
    obtain ⟨b, r, hE, hN⟩ := pI_e h
    clear h
    subst hE
    have h := hN
    clear hN
    obtain ⟨a, r2, hE, hN⟩ := pI_e h
    clear h
    subst hE
    have h := hN
    clear hN
    have hg := h.2 H locs LS hP hS hLS
    refine lv_iand hx hb hdec ?_
    have e9 : Int32.ofInt (iand a b) = _ := o32_t _
    rw [← e9]
    exact hg
  case ior =>
    obtain rfl : len = 1 := by simpa [okI] using hok
    obtain ⟨b, r, hE, hN⟩ := pI_e h
    clear h
    subst hE
    have h := hN
    clear hN
    obtain ⟨a, r2, hE, hN⟩ := pI_e h
    clear h
    subst hE
    have h := hN
    clear hN
    have hg := h.2 H locs LS hP hS hLS
    refine lv_ior hx hb hdec ?_
    have e9 : Int32.ofInt (ior a b) = _ := o32_t _
    rw [← e9]
    exact hg
  case ixor =>
    obtain rfl : len = 1 := by simpa [okI] using hok
    obtain ⟨b, r, hE, hN⟩ := pI_e h
    clear h
    subst hE
    have h := hN
    clear hN
    obtain ⟨a, r2, hE, hN⟩ := pI_e h
    clear h
    subst hE
    have h := hN
    clear hN
    have hg := h.2 H locs LS hP hS hLS
    refine lv_ixor hx hb hdec ?_
    have e9 : Int32.ofInt (ixor a b) = _ := o32_t _
    rw [← e9]
    exact hg
  case ishl =>
    obtain rfl : len = 1 := by simpa [okI] using hok
    obtain ⟨b, r, hE, hN⟩ := pI_e h
    clear h
    subst hE
    have h := hN
    clear hN
    obtain ⟨a, r2, hE, hN⟩ := pI_e h
    clear h
    subst hE
    have h := hN
    clear hN
    have hg := h.2 H locs LS hP hS hLS
    refine lv_ishl hx hb hdec ?_
    have e9 : Int32.ofInt (ishl a b) = _ := o32_t _
    rw [← e9]
    exact hg
  case ishr =>
    obtain rfl : len = 1 := by simpa [okI] using hok
    obtain ⟨b, r, hE, hN⟩ := pI_e h
    clear h
    subst hE
    have h := hN
    clear hN
    obtain ⟨a, r2, hE, hN⟩ := pI_e h
    clear h
    subst hE
    have h := hN
    clear hN
    have hg := h.2 H locs LS hP hS hLS
    refine lv_ishr hx hb hdec ?_
    have e9 : Int32.ofInt (ishr a b) = _ := o32_t _
    rw [← e9]
    exact hg
  case land =>
    obtain rfl : len = 1 := by simpa [okI] using hok
    obtain ⟨b, r, hE, hN⟩ := pL_e h
    clear h
    subst hE
    have h := hN
    clear hN
    obtain ⟨a, r2, hE, hN⟩ := pL_e h
    clear h
    subst hE
    have h := hN
    clear hN
    have hg := h.2 H locs LS hP hS hLS
    refine lv_land hx hb hdec ?_
    have e9 : Int64.ofInt (land a b) = _ := o64_t _
    rw [← e9]
    exact hg
  case lor =>
    obtain rfl : len = 1 := by simpa [okI] using hok
    obtain ⟨b, r, hE, hN⟩ := pL_e h
    clear h
    subst hE
    have h := hN
    clear hN
    obtain ⟨a, r2, hE, hN⟩ := pL_e h
    clear h
    subst hE
    have h := hN
    clear hN
    have hg := h.2 H locs LS hP hS hLS
    refine lv_lor hx hb hdec ?_
    have e9 : Int64.ofInt (lor a b) = _ := o64_t _
    rw [← e9]
    exact hg
  case iushr =>
    obtain rfl : len = 1 := by simpa [okI] using hok
    obtain ⟨b, r, hE, hN⟩ := pI_e h
    clear h
    subst hE
    have h := hN
    clear hN
    obtain ⟨a, r2, hE, hN⟩ := pI_e h
    clear h
    subst hE
    have h := hN
    clear hN
    exact lv_iushr hx hb hdec (o32_t _).symm (h.2 H locs LS hP hS hLS)
  case lshl =>
    obtain rfl : len = 1 := by simpa [okI] using hok
    obtain ⟨b, r, hE, hN⟩ := pI_e h
    clear h
    subst hE
    have h := hN
    clear hN
    obtain ⟨a, r2, hE, hN⟩ := pL_e h
    clear h
    subst hE
    have h := hN
    clear hN
    exact lv_lshl hx hb hdec (o64_t _).symm (h.2 H locs LS hP hS hLS)
  case lshr =>
    obtain rfl : len = 1 := by simpa [okI] using hok
    obtain ⟨b, r, hE, hN⟩ := pI_e h
    clear h
    subst hE
    have h := hN
    clear hN
    obtain ⟨a, r2, hE, hN⟩ := pL_e h
    clear h
    subst hE
    have h := hN
    clear hN
    exact lv_lshr hx hb hdec (o64_t _).symm (h.2 H locs LS hP hS hLS)
  case lcmp =>
    obtain rfl : len = 1 := by simpa [okI] using hok
    obtain ⟨b, r, hE, hN⟩ := pL_e h
    clear h
    subst hE
    have h := hN
    clear hN
    obtain ⟨a, r2, hE, hN⟩ := pL_e h
    clear h
    subst hE
    have h := hN
    clear hN
    have hg := h.2 H locs LS hP hS hLS
    refine W.lcmp hx hb hdec ?_
    rw [o_lcmp (okL_hd (okL_tl hst)) (okL_hd hst)]
    exact hg
  case ineg =>
    obtain rfl : len = 1 := by simpa [okI] using hok
    obtain ⟨a, r, hE, hN⟩ := pI_e h
    clear h
    subst hE
    have h := hN
    clear hN
    have hg := h.2 H locs LS hP hS hLS
    refine lv_ineg hx hb hdec ?_
    rw [← o32_neg]
    exact hg
  case i2l =>
    obtain rfl : len = 1 := by simpa [okI] using hok
    obtain ⟨a, r, hE, hN⟩ := pI_e h
    clear h
    subst hE
    have h := hN
    clear hN
    exact lv_i2l hx hb hdec (o_i2l (okL_hd hst)) (h.2 H locs LS hP hS hLS)
  case l2i =>
    obtain rfl : len = 1 := by simpa [okI] using hok
    obtain ⟨a, r, hE, hN⟩ := pL_e h
    clear h
    subst hE
    have h := hN
    clear hN
    exact lv_l2i hx hb hdec (o_l2i (okL_hd hst)) (h.2 H locs LS hP hS hLS)
  case i2b =>
    obtain rfl : len = 1 := by simpa [okI] using hok
    obtain ⟨a, r, hE, hN⟩ := pI_e h
    clear h
    subst hE
    have h := hN
    clear hN
    exact lv_i2b hx hb hdec (o_i2b (okL_hd hst)) (h.2 H locs LS hP hS hLS)
  case i2s =>
    obtain rfl : len = 1 := by simpa [okI] using hok
    obtain ⟨a, r, hE, hN⟩ := pI_e h
    clear h
    subst hE
    have h := hN
    clear hN
    exact lv_i2s hx hb hdec (o_i2s (okL_hd hst)) (h.2 H locs LS hP hS hLS)
  case i2c =>
    obtain rfl : len = 1 := by simpa [okI] using hok
    obtain ⟨a, r, hE, hN⟩ := pI_e h
    clear h
    subst hE
    have h := hN
    clear hN
    exact lv_i2c hx hb hdec (o_i2c (okL_hd hst)) (h.2 H locs LS hP hS hLS)
  case dup =>
    obtain rfl : len = 1 := by simpa [okI] using hok
    split at h
    · exact lv_dup hx hb hdec rfl (h.2 H locs LS hP hS hLS)
    · exact lv_dup hx hb hdec (cV_cat (show (2 : Nat) ≠ 1 by decide)) (h.2 H locs LS hP hS hLS)
    · exact h.elim
  case dup2 =>
    obtain rfl : len = 1 := by simpa [okI] using hok
    split at h
    · exact lv_dup2_11 hx hb hdec rfl (cV_cat (show (2 : Nat) ≠ 1 by decide)) (h.2 H locs LS hP hS hLS)
    · exact h.elim
  case pop =>
    obtain rfl : len = 1 := by simpa [okI] using hok
    split at h
    · exact lv_pop hx hb hdec rfl (h.2 H locs LS hP hS hLS)
    · exact lv_pop hx hb hdec (cV_cat (show (2 : Nat) ≠ 1 by decide)) (h.2 H locs LS hP hS hLS)
    · exact h.elim
  case pop2 =>
    obtain rfl : len = 1 := by simpa [okI] using hok
    split at h
    · exact lv_pop2_2 hx hb hdec rfl (h.2 H locs LS hP hS hLS)
    · exact h.elim
  case ifCond cc o =>
    simp only [okI, Bool.and_eq_true, decide_eq_true_eq, beq_iff_eq] at hok
    obtain ⟨hok, rfl⟩ := hok
    obtain ⟨a, r, hE, hN⟩ := pI_e h
    clear h
    subst hE
    have h := hN
    clear hN
    obtain ⟨b, hb0⟩ : ∃ b : Int, b = 0 := ⟨0, rfl⟩
    rw [← hb0] at h
    have hra : okV c (0, a) := okL_hd hst
    have hrb : okV c (0, b) := by rw [hb0]; exact ⟨by decide, by decide⟩
    cases cc with
    | eq => exact lv_if_eq (tgt := tgt pc o) hx hb hdec (tgt_e hok) (fun hq => (brb_t h (show (decide (a = b)) = true from decide_eq_true ((eq32 hra hrb).mp (by rw [hb0]; exact hq)))).2 H locs LS hP hS hLS) (fun hq => (brb_f h (show (decide (a = b)) = false from decide_eq_false (fun z => hq (by have z2 := (eq32 hra hrb).mpr z; rw [hb0] at z2; exact z2)))).2 H locs LS hP hS hLS)
    | ne => exact lv_if_ne (tgt := tgt pc o) hx hb hdec (tgt_e hok) (fun hq => (brb_t h (show (!decide (a = b)) = true from by rw [decide_eq_false (fun z => hq (by have z2 := (eq32 hra hrb).mpr z; rw [hb0] at z2; exact z2))]; rfl)).2 H locs LS hP hS hLS) (fun hq => (brb_f h (show (!decide (a = b)) = false from by rw [decide_eq_true ((eq32 hra hrb).mp (by rw [hb0]; exact hq))]; rfl)).2 H locs LS hP hS hLS)
    | lt => exact lv_if_lt (tgt := tgt pc o) hx hb hdec (tgt_e hok) (fun hq => (brb_t h (show (decide (a < b)) = true from decide_eq_true ((lt32 hra hrb).mp (by rw [hb0]; exact hq)))).2 H locs LS hP hS hLS) (fun hq => (brb_f h (show (decide (a < b)) = false from decide_eq_false (fun z => hq (by have z2 := (lt32 hra hrb).mpr z; rw [hb0] at z2; exact z2)))).2 H locs LS hP hS hLS)
    | ge => exact lv_if_ge (tgt := tgt pc o) hx hb hdec (tgt_e hok) (fun hq => (brb_t h (show (decide (b ≤ a)) = true from decide_eq_true ((le32 hrb hra).mp (by rw [hb0]; exact hq)))).2 H locs LS hP hS hLS) (fun hq => (brb_f h (show (decide (b ≤ a)) = false from decide_eq_false (fun z => hq (by have z2 := (le32 hrb hra).mpr z; rw [hb0] at z2; exact z2)))).2 H locs LS hP hS hLS)
    | gt => exact lv_if_gt (tgt := tgt pc o) hx hb hdec (tgt_e hok) (fun hq => (brb_t h (show (decide (b < a)) = true from decide_eq_true ((lt32 hrb hra).mp (by rw [hb0]; exact hq)))).2 H locs LS hP hS hLS) (fun hq => (brb_f h (show (decide (b < a)) = false from decide_eq_false (fun z => hq (by have z2 := (lt32 hrb hra).mpr z; rw [hb0] at z2; exact z2)))).2 H locs LS hP hS hLS)
    | le => exact lv_if_le (tgt := tgt pc o) hx hb hdec (tgt_e hok) (fun hq => (brb_t h (show (decide (a ≤ b)) = true from decide_eq_true ((le32 hra hrb).mp (by rw [hb0]; exact hq)))).2 H locs LS hP hS hLS) (fun hq => (brb_f h (show (decide (a ≤ b)) = false from decide_eq_false (fun z => hq (by have z2 := (le32 hra hrb).mpr z; rw [hb0] at z2; exact z2)))).2 H locs LS hP hS hLS)
  case if_icmp cc o =>
    simp only [okI, Bool.and_eq_true, decide_eq_true_eq, beq_iff_eq] at hok
    obtain ⟨hok, rfl⟩ := hok
    obtain ⟨b, r, hE, hN⟩ := pI_e h
    clear h
    subst hE
    have h := hN
    clear hN
    obtain ⟨a, r2, hE, hN⟩ := pI_e h
    clear h
    subst hE
    have h := hN
    clear hN
    have hra : okV c (0, a) := okL_hd (okL_tl hst)
    have hrb : okV c (0, b) := okL_hd hst
    cases cc with
    | eq => exact lv_icmp_eq (tgt := tgt pc o) hx hb hdec (tgt_e hok) (fun hq => (brb_t h (show (decide (a = b)) = true from decide_eq_true ((eq32 hra hrb).mp hq))).2 H locs LS hP hS hLS) (fun hq => (brb_f h (show (decide (a = b)) = false from decide_eq_false (fun z => hq ((eq32 hra hrb).mpr z)))).2 H locs LS hP hS hLS)
    | ne => exact lv_icmp_ne (tgt := tgt pc o) hx hb hdec (tgt_e hok) (fun hq => (brb_t h (show (!decide (a = b)) = true from by rw [decide_eq_false (fun z => hq ((eq32 hra hrb).mpr z))]; rfl)).2 H locs LS hP hS hLS) (fun hq => (brb_f h (show (!decide (a = b)) = false from by rw [decide_eq_true ((eq32 hra hrb).mp hq)]; rfl)).2 H locs LS hP hS hLS)
    | lt => exact lv_icmp_lt (tgt := tgt pc o) hx hb hdec (tgt_e hok) (fun hq => (brb_t h (show (decide (a < b)) = true from decide_eq_true ((lt32 hra hrb).mp hq))).2 H locs LS hP hS hLS) (fun hq => (brb_f h (show (decide (a < b)) = false from decide_eq_false (fun z => hq ((lt32 hra hrb).mpr z)))).2 H locs LS hP hS hLS)
    | ge => exact lv_icmp_ge (tgt := tgt pc o) hx hb hdec (tgt_e hok) (fun hq => (brb_t h (show (decide (b ≤ a)) = true from decide_eq_true ((le32 hrb hra).mp hq))).2 H locs LS hP hS hLS) (fun hq => (brb_f h (show (decide (b ≤ a)) = false from decide_eq_false (fun z => hq ((le32 hrb hra).mpr z)))).2 H locs LS hP hS hLS)
    | gt => exact lv_icmp_gt (tgt := tgt pc o) hx hb hdec (tgt_e hok) (fun hq => (brb_t h (show (decide (b < a)) = true from decide_eq_true ((lt32 hrb hra).mp hq))).2 H locs LS hP hS hLS) (fun hq => (brb_f h (show (decide (b < a)) = false from decide_eq_false (fun z => hq ((lt32 hrb hra).mpr z)))).2 H locs LS hP hS hLS)
    | le => exact lv_icmp_le (tgt := tgt pc o) hx hb hdec (tgt_e hok) (fun hq => (brb_t h (show (decide (a ≤ b)) = true from decide_eq_true ((le32 hra hrb).mp hq))).2 H locs LS hP hS hLS) (fun hq => (brb_f h (show (decide (a ≤ b)) = false from decide_eq_false (fun z => hq ((le32 hra hrb).mpr z)))).2 H locs LS hP hS hLS)
  case ifnull o =>
    simp only [okI, Bool.and_eq_true, decide_eq_true_eq, beq_iff_eq] at hok
    obtain ⟨hok, rfl⟩ := hok
    obtain ⟨a, r, hE, hN⟩ := pR_e h
    clear h
    subst hE
    have h := hN
    clear hN
    by_cases ha : a = 0
    · have hv : cV B ad (2, a) = .null := by show (if a = 0 then Value.null else _) = _; rw [if_pos ha]
      rw [List.map_cons, hv]
      exact lv_ifnullN (tgt := tgt pc o) hx hb hdec (tgt_e hok) ((brb_t h (decide_eq_true ha)).2 H locs LS hP hS hLS)
    · have hv : cV B ad (2, a) = .ref (rA B a) := by show (if a = 0 then Value.null else _) = _; rw [if_neg ha]
      rw [List.map_cons, hv]
      exact lv_ifnull hx hb hdec ((brb_f h (decide_eq_false ha)).2 H locs LS hP hS hLS)
  case ifnonnull o =>
    simp only [okI, Bool.and_eq_true, decide_eq_true_eq, beq_iff_eq] at hok
    obtain ⟨hok, rfl⟩ := hok
    obtain ⟨a, r, hE, hN⟩ := pR_e h
    clear h
    subst hE
    have h := hN
    clear hN
    by_cases ha : a = 0
    · have hv : cV B ad (2, a) = .null := by show (if a = 0 then Value.null else _) = _; rw [if_pos ha]
      rw [List.map_cons, hv]
      exact lv_ifnonnullN hx hb hdec ((brb_t h (decide_eq_true ha)).2 H locs LS hP hS hLS)
    · have hv : cV B ad (2, a) = .ref (rA B a) := by show (if a = 0 then Value.null else _) = _; rw [if_neg ha]
      rw [List.map_cons, hv]
      exact lv_ifnonnull (tgt := tgt pc o) hx hb hdec (tgt_e hok) ((brb_f h (decide_eq_false ha)).2 H locs LS hP hS hLS)
  case goto o =>
    simp only [okI, Bool.and_eq_true, decide_eq_true_eq, beq_iff_eq] at hok
    obtain ⟨hok, rfl⟩ := hok
    exact lv_goto (tgt := tgt pc o) hx hb hdec (tgt_e hok) (h.2 H locs LS hP hS hLS)
  case tableswitch df lo hi offs =>
    simp only [okI, Bool.and_eq_true, decide_eq_true_eq] at hok
    obtain ⟨x, r, hE, hN⟩ := pI_e h
    clear h
    subst hE
    have h := hN
    clear hN
    have hrx : okV c (0, x) := okL_hd hst
    rcases tsw_e h with ⟨j, off, e1, e2, h⟩ | ⟨e1, h⟩
    · have hj : j < offs.toList.length := (List.getElem?_eq_some_iff.mp e1).1
      have hoff : 0 ≤ (pc : Int) + off := by
        have := List.all_eq_true.mp hok.1.1.1.2 off (List.mem_of_getElem? e1)
        simpa using this
      refine lv_tableIn (off := off) (tgt := tgt pc off) hx hb hdec (by rw [t32 hrx]; omega) (by rw [t32 hrx]; omega) ?_ (tgt_e hoff) (h.2 H locs LS hP hS hLS)
      rw [t32 hrx, e2, show (lo + (j : Int) - lo).toNat = j by omega]
      rw [← Array.getElem?_toList]
      exact e1
    · refine lv_tableOut (tgt := tgt pc df) hx hb hdec ?_ (tgt_e hok.1.1.1.1) (h.2 H locs LS hP hS hLS)
      rw [t32 hrx]
      omega
  case lookupswitch df ps =>
    simp only [okI, Bool.and_eq_true, decide_eq_true_eq] at hok
    obtain ⟨x, r, hE, hN⟩ := pI_e h
    clear h
    subst hE
    have h := hN
    clear hN
    have hrx : okV c (0, x) := okL_hd hst
    obtain ⟨off, e1, e2, h⟩ := lsw_e h
    have hoff : 0 ≤ (pc : Int) + off := by
      rcases e2 with e2 | e2
      · rw [e2]; exact hok.1.1
      · obtain ⟨k, hk⟩ := e2
        have := List.all_eq_true.mp hok.1.2 _ hk
        simp only [Bool.and_eq_true, decide_eq_true_eq] at this
        exact this.1.1
    exact lv_lookup (off := off) (tgt := tgt pc off) hx hb hdec hok.2 (by rw [t32 hrx]; exact e1) (tgt_e hoff) (h.2 H locs LS hP hS hLS)
  case getfield i =>
    obtain rfl : len = 3 := by simpa [okI] using hok
    split at h
    · rename_i ci k e1
      have ht := lk_all fTab_ok e1
      simp only [Bool.and_eq_true, Bool.or_eq_true, decide_eq_true_eq] at ht
      have hcc : ci < 13 := ht.1.1
      obtain ⟨a, r, hE, hN⟩ := pR_e h
      clear h
      subst hE
      have h := hN
      clear hN
      obtain ⟨h1, hN⟩ := ckt_e h
      clear h
      have h := hN
      clear hN
      have hta : tyT a = 10 + ci := by simpa using h1
      have ha1 : 1 ≤ a := ty_pos (by omega)
      have hac : a ≤ c := (okL_hd hst).2
      have ha0 : a ≠ 0 := by omega
      have hv : cV B ad (2, a) = .ref (rA B a) := by show (if a = 0 then Value.null else _) = _; rw [if_neg ha0]
      have han : ((a.toNat : Nat) : Int) = a := by omega
      have hget := ws_get (B := B) (dA := dA) (v := v) ha1 hac
      rw [cE_obj (ci := ci) (by rw [han]; exact hta) hcc] at hget
      have hfl := flds_get B v a.toNat (ci := ci) (j := k) ht.1.2
      rw [han] at hfl
      have hrow : ∀ (W2 : W p l e R s m args below meth cd H locs (c - c0) (sl c - sl c0) Q (F0 m (pc + 3) LS (cM B (fTag ci k % 4) (v a k) :: r.map (cV B ad)))), W p l e R s m args below meth cd H locs (c - c0) (sl c - sl c0) Q (F0 m pc LS (((2, a) :: r).map (cV B ad))) := by
        intro W2
        rw [List.map_cons, hv]
        exact va_get hx hb hts (f_in hcc) hown hK hP (a.toNat - 1) hget (vcl_get hcc) k ht.1.2 (hts _ (fw e1)) (fun x hq => by rw [(f_fin hcc ht.1.2).2.1] at hq; exact hq) hfl hdec W2
      apply hrow
      split at h
      · rename_i o e2
        have e3 : fm = 1 ∧ (stTab.getD ci []).getD k (0, 0) = (1, o) := by
          unfold rdF at e2
          split at e2
          · exact ⟨rfl, e2⟩
          · cases e2
        have hg := h.2 H locs LS hP hS hLS
        have hf := (hFf (hf1 e3.1)).2.1 a ci k ha1 hac hta hcc
        dsimp only at hf
        unfold stF at hf
        rw [e3.2] at hf
        rw [stTab_tag ci hcc k ht.1.2 (by rw [e3.2]; exact (by decide : (1 : Nat) ≠ 0)), hf]
        exact hg
      · rename_i o e2
        have e3 : fm = 1 ∧ (stTab.getD ci []).getD k (0, 0) = (2, o) := by
          unfold rdF at e2
          split at e2
          · exact ⟨rfl, e2⟩
          · cases e2
        have hg := h.2 H locs LS hP hS hLS
        have hf := (hFf (hf1 e3.1)).2.1 a ci k ha1 hac hta hcc
        dsimp only at hf
        unfold stF at hf
        rw [e3.2] at hf
        rw [stTab_tag ci hcc k ht.1.2 (by rw [e3.2]; exact (by decide : (2 : Nat) ≠ 0)), hf]
        exact hg
      · have hg := h.2 H locs LS hP hS hLS
        have hm4 : fTag ci k % 4 < 3 := by omega
        rw [List.map_cons] at hg
        have hcv : cV B ad (fTag ci k % 4, v a k) = cM B (fTag ci k % 4) (v a k) := by
          generalize fTag ci k % 4 = t at hm4
          match t, hm4 with
          | 0, _ => rfl
          | 1, _ => rfl
          | 2, _ => rfl
        rw [hcv] at hg
        exact hg
    · split at h
      · rename_i e1 e2
        obtain ⟨k, r, hE, hN⟩ := pS_e h
        clear h
        subst hE
        have h := hN
        clear hN
        have hk := okL_hd hst
        have hkk : k.toNat < 4 := by have := hk.2; have := hk.1; dsimp only at *; omega
        have hw := lk_all2 sf_tab e2
        simp only [Bool.and_eq_true, decide_eq_true_eq] at hw
        obtain ⟨hw1, hw2⟩ := hw
        subst hw1
        exact vk_getf hx hb (hSt.1.1 k.toNat hkk).2.2.1 hS hown (hts _ (inT_mem hw2)) (fun _ q => q) hdec (h.2 H locs LS hP hS hLS)
      · rename_i e1 e2
        obtain ⟨k, r, hE, hN⟩ := pS_e h
        clear h
        subst hE
        have h := hN
        clear hN
        have hk := okL_hd hst
        have hkk : k.toNat < 4 := by have := hk.2; have := hk.1; dsimp only at *; omega
        have hw := lk_all2 sf_tab e2
        simp only [Bool.and_eq_true, decide_eq_true_eq] at hw
        obtain ⟨hw1, hw2⟩ := hw
        subst hw1
        exact vk_getf hx hb (hSt.1.1 k.toNat hkk).2.1 hS hown (hts _ (inT_mem hw2)) (fun _ q => q) hdec (h.2 H locs LS hP hS hLS)
      · exact h.elim
  case getstatic i =>
    obtain rfl : len = 3 := by simpa [okI] using hok
    split at h
    · rename_i e2
      have hw := lk_all2 gs_tab e2
      simp only [Bool.and_eq_true, decide_eq_true_eq] at hw
      obtain ⟨hw1, hw2⟩ := hw
      subst hw1
      exact va_gets hx hb hSt.2.2.1.1 hS hown (hts _ (inT_mem hw2)) (fun _ q => q) hdec (h.2 H locs LS hP hS hLS)
    · rename_i e2
      have hw := lk_all2 gs_tab e2
      simp only [Bool.and_eq_true, decide_eq_true_eq] at hw
      obtain ⟨hw1, hw2⟩ := hw
      subst hw1
      exact va_gets hx hb hSt.2.2.1.2 hS hown (hts _ (inT_mem hw2)) (fun _ q => q) hdec (h.2 H locs LS hP hS hLS)
    · exact h.elim
  case putfield i =>
    obtain rfl : len = 3 := by simpa [okI] using hok
    split at h
    · rename_i ci k e1
      have ht := lk_all fTab_ok e1
      simp only [Bool.and_eq_true, Bool.or_eq_true, decide_eq_true_eq] at ht
      have hcc : ci < 13 := ht.1.1
      obtain ⟨h0, hN⟩ := ckt_e h
      clear h
      have h := hN
      clear hN
      have hs : fm = 0 ∨ isSt ci k = false := by
        rcases Bool.or_eq_true _ _ |>.mp h0 with q | q
        · exact Or.inl (by simpa using q)
        · exact Or.inr (by simpa using q)
      have hdecl : fm = 0 → isSt ci k = true → cN ci = cN own := fun q1 q2 => by
        simp only [okP, e1, Bool.or_eq_true, decide_eq_true_eq, Bool.not_eq_true'] at hpf
        rcases hpf with (z | z) | z
        · exact absurd q1 z
        · rw [q2] at z; cases z
        · rw [z]
      split at h
      · rename_i et
        obtain ⟨x, r, hE, hN⟩ := pI_e h
        clear h
        subst hE
        have h := hN
        clear hN
        obtain ⟨a, r, hE, hN⟩ := pR_e h
        clear h
        subst hE
        have h := hN
        clear hN
        obtain ⟨h1, hN⟩ := ckt_e h
        clear h
        have h := hN
        clear hN
        have hta : tyT a = 10 + ci := by simpa using h1
        have ha1 : 1 ≤ a := ty_pos (by omega)
        have hac : a ≤ c := (okL_hd (okL_tl hst)).2
        have ha0 : a ≠ 0 := by omega
        have hv : cV B ad (2, a) = .ref (rA B a) := by show (if a = 0 then Value.null else _) = _; rw [if_neg ha0]
        have han : ((a.toNat : Nat) : Int) = a := by omega
        have hget := ws_get (B := B) (dA := dA) (v := v) ha1 hac
        rw [cE_obj (ci := ci) (by rw [han]; exact hta) hcc] at hget
        have hrx : okV c (0, x) := okL_hd hst
        have hnf : narrow (tyF ci k) (cM B (fTag ci k % 4) x) = cM B (fTag ci k % 4) x ∧ fits (tyF ci k) (cM B (fTag ci k % 4) x) = true := by
          have hty := (f_fin hcc ht.1.2).2.2
          rw [et] at hty ⊢
          generalize tyF ci k = ty at hty ⊢
          cases ty <;> first | exact ⟨rfl, rfl⟩ | cases hty
        have hgo := h.2
        have hset : wsOf B dA c (up v a k x) = (wsOf B dA c v).set (a.toNat - 1) (rA B a, .inr (ci, (flds B v a.toNat ci).set k (cM B (fTag ci k % 4) x))) := by
          rw [ws_chg ha1 hac (up_off (v := v) (a := a) (i := k) (x := x)), cE_obj (ci := ci) (by rw [han]; exact hta) hcc]
          have := flds_up B v a.toNat (ci := ci) (j := k) x ht.1.2
          rw [han] at this
          rw [this]
        have hcx : cV B ad (0, x) = cM B (fTag ci k % 4) x := by rw [et]; rfl
        rw [List.map_cons, List.map_cons, hv, hcx]
        by_cases hs2 : isSt ci k = true
        · have hfm : fm = 0 := by
            rcases hs with q | q
            · exact q
            · rw [hs2] at q; cases q
          exact va_putF hx hb hts (f_in hcc) (tyF ci) (f_ty hcc) (f_nm hcc) hown hK hP hD hS (a.toNat - 1) hget (vcl_get hcc) k ht.1.2 (hts _ (fw e1)) (fun x hq => by rw [(f_fin hcc ht.1.2).2.1] at hq; exact hq) (by rw [(f_fin hcc ht.1.2).1]; exact hs2) (hini hfm) (by rw [(f_fin hcc ht.1.2).2.1]; exact hdecl hfm hs2) (f_ty hcc k ht.1.2) hnf.1 hnf.2 (by rw [flds_len]; exact ht.1.2) hdec (fun H1 locs1 qP qD qS => hgo H1 locs1 LS (by rw [hset]; exact qP) qS hLS)
        · exact va_put hx hb hts (f_in hcc) (tyF ci) (f_ty hcc) (f_nm hcc) hown hK hP hD hS (a.toNat - 1) hget (vcl_get hcc) k ht.1.2 (hts _ (fw e1)) (fun x hq => by rw [(f_fin hcc ht.1.2).2.1] at hq; exact hq) (by rw [(f_fin hcc ht.1.2).1]; simpa using hs2) (f_ty hcc k ht.1.2) hnf.1 hnf.2 (by rw [flds_len]; exact ht.1.2) hdec (fun H1 locs1 qP qD qS => hgo H1 locs1 LS (by rw [hset]; exact qP) qS hLS)
      · rename_i et
        obtain ⟨x, r, hE, hN⟩ := pL_e h
        clear h
        subst hE
        have h := hN
        clear hN
        obtain ⟨a, r, hE, hN⟩ := pR_e h
        clear h
        subst hE
        have h := hN
        clear hN
        obtain ⟨h1, hN⟩ := ckt_e h
        clear h
        have h := hN
        clear hN
        have hta : tyT a = 10 + ci := by simpa using h1
        have ha1 : 1 ≤ a := ty_pos (by omega)
        have hac : a ≤ c := (okL_hd (okL_tl hst)).2
        have ha0 : a ≠ 0 := by omega
        have hv : cV B ad (2, a) = .ref (rA B a) := by show (if a = 0 then Value.null else _) = _; rw [if_neg ha0]
        have han : ((a.toNat : Nat) : Int) = a := by omega
        have hget := ws_get (B := B) (dA := dA) (v := v) ha1 hac
        rw [cE_obj (ci := ci) (by rw [han]; exact hta) hcc] at hget
        have hrx : okV c (1, x) := okL_hd hst
        have hnf : narrow (tyF ci k) (cM B (fTag ci k % 4) x) = cM B (fTag ci k % 4) x ∧ fits (tyF ci k) (cM B (fTag ci k % 4) x) = true := by
          have hty := (f_fin hcc ht.1.2).2.2
          rw [et] at hty ⊢
          generalize tyF ci k = ty at hty ⊢
          cases ty <;> first | exact ⟨rfl, rfl⟩ | cases hty
        have hgo := h.2
        have hset : wsOf B dA c (up v a k x) = (wsOf B dA c v).set (a.toNat - 1) (rA B a, .inr (ci, (flds B v a.toNat ci).set k (cM B (fTag ci k % 4) x))) := by
          rw [ws_chg ha1 hac (up_off (v := v) (a := a) (i := k) (x := x)), cE_obj (ci := ci) (by rw [han]; exact hta) hcc]
          have := flds_up B v a.toNat (ci := ci) (j := k) x ht.1.2
          rw [han] at this
          rw [this]
        have hcx : cV B ad (1, x) = cM B (fTag ci k % 4) x := by rw [et]; rfl
        rw [List.map_cons, List.map_cons, hv, hcx]
        by_cases hs2 : isSt ci k = true
        · have hfm : fm = 0 := by
            rcases hs with q | q
            · exact q
            · rw [hs2] at q; cases q
          exact va_putF hx hb hts (f_in hcc) (tyF ci) (f_ty hcc) (f_nm hcc) hown hK hP hD hS (a.toNat - 1) hget (vcl_get hcc) k ht.1.2 (hts _ (fw e1)) (fun x hq => by rw [(f_fin hcc ht.1.2).2.1] at hq; exact hq) (by rw [(f_fin hcc ht.1.2).1]; exact hs2) (hini hfm) (by rw [(f_fin hcc ht.1.2).2.1]; exact hdecl hfm hs2) (f_ty hcc k ht.1.2) hnf.1 hnf.2 (by rw [flds_len]; exact ht.1.2) hdec (fun H1 locs1 qP qD qS => hgo H1 locs1 LS (by rw [hset]; exact qP) qS hLS)
        · exact va_put hx hb hts (f_in hcc) (tyF ci) (f_ty hcc) (f_nm hcc) hown hK hP hD hS (a.toNat - 1) hget (vcl_get hcc) k ht.1.2 (hts _ (fw e1)) (fun x hq => by rw [(f_fin hcc ht.1.2).2.1] at hq; exact hq) (by rw [(f_fin hcc ht.1.2).1]; simpa using hs2) (f_ty hcc k ht.1.2) hnf.1 hnf.2 (by rw [flds_len]; exact ht.1.2) hdec (fun H1 locs1 qP qD qS => hgo H1 locs1 LS (by rw [hset]; exact qP) qS hLS)
      · rename_i et
        obtain ⟨x, r, hE, hN⟩ := pR_e h
        clear h
        subst hE
        have h := hN
        clear hN
        obtain ⟨a, r, hE, hN⟩ := pR_e h
        clear h
        subst hE
        have h := hN
        clear hN
        obtain ⟨h1, hN⟩ := ckt_e h
        clear h
        have h := hN
        clear hN
        have hta : tyT a = 10 + ci := by simpa using h1
        have ha1 : 1 ≤ a := ty_pos (by omega)
        have hac : a ≤ c := (okL_hd (okL_tl hst)).2
        have ha0 : a ≠ 0 := by omega
        have hv : cV B ad (2, a) = .ref (rA B a) := by show (if a = 0 then Value.null else _) = _; rw [if_neg ha0]
        have han : ((a.toNat : Nat) : Int) = a := by omega
        have hget := ws_get (B := B) (dA := dA) (v := v) ha1 hac
        rw [cE_obj (ci := ci) (by rw [han]; exact hta) hcc] at hget
        have hrx : okV c (2, x) := okL_hd hst
        have hnf : narrow (tyF ci k) (cM B (fTag ci k % 4) x) = cM B (fTag ci k % 4) x ∧ fits (tyF ci k) (cM B (fTag ci k % 4) x) = true := by
          have hty := (f_fin hcc ht.1.2).2.2
          rw [et] at hty ⊢
          generalize tyF ci k = ty at hty ⊢
          show narrow ty (if x = 0 then Value.null else .ref (rA B x)) = (if x = 0 then Value.null else .ref (rA B x)) ∧ fits ty (if x = 0 then Value.null else .ref (rA B x)) = true
          split <;> (cases ty <;> first | exact ⟨rfl, rfl⟩ | cases hty)
        have hgo := h.2
        have hset : wsOf B dA c (up v a k x) = (wsOf B dA c v).set (a.toNat - 1) (rA B a, .inr (ci, (flds B v a.toNat ci).set k (cM B (fTag ci k % 4) x))) := by
          rw [ws_chg ha1 hac (up_off (v := v) (a := a) (i := k) (x := x)), cE_obj (ci := ci) (by rw [han]; exact hta) hcc]
          have := flds_up B v a.toNat (ci := ci) (j := k) x ht.1.2
          rw [han] at this
          rw [this]
        have hcx : cV B ad (2, x) = cM B (fTag ci k % 4) x := by rw [et]; rfl
        rw [List.map_cons, List.map_cons, hv, hcx]
        by_cases hs2 : isSt ci k = true
        · have hfm : fm = 0 := by
            rcases hs with q | q
            · exact q
            · rw [hs2] at q; cases q
          exact va_putF hx hb hts (f_in hcc) (tyF ci) (f_ty hcc) (f_nm hcc) hown hK hP hD hS (a.toNat - 1) hget (vcl_get hcc) k ht.1.2 (hts _ (fw e1)) (fun x hq => by rw [(f_fin hcc ht.1.2).2.1] at hq; exact hq) (by rw [(f_fin hcc ht.1.2).1]; exact hs2) (hini hfm) (by rw [(f_fin hcc ht.1.2).2.1]; exact hdecl hfm hs2) (f_ty hcc k ht.1.2) hnf.1 hnf.2 (by rw [flds_len]; exact ht.1.2) hdec (fun H1 locs1 qP qD qS => hgo H1 locs1 LS (by rw [hset]; exact qP) qS hLS)
        · exact va_put hx hb hts (f_in hcc) (tyF ci) (f_ty hcc) (f_nm hcc) hown hK hP hD hS (a.toNat - 1) hget (vcl_get hcc) k ht.1.2 (hts _ (fw e1)) (fun x hq => by rw [(f_fin hcc ht.1.2).2.1] at hq; exact hq) (by rw [(f_fin hcc ht.1.2).1]; simpa using hs2) (f_ty hcc k ht.1.2) hnf.1 hnf.2 (by rw [flds_len]; exact ht.1.2) hdec (fun H1 locs1 qP qD qS => hgo H1 locs1 LS (by rw [hset]; exact qP) qS hLS)
      · rename_i et
        obtain ⟨x, r, hE, hN⟩ := pI_e h
        clear h
        subst hE
        have h := hN
        clear hN
        obtain ⟨a, r, hE, hN⟩ := pR_e h
        clear h
        subst hE
        have h := hN
        clear hN
        obtain ⟨h1, hN⟩ := ckt_e h
        clear h
        have h := hN
        clear hN
        have hta : tyT a = 10 + ci := by simpa using h1
        have ha1 : 1 ≤ a := ty_pos (by omega)
        have hac : a ≤ c := (okL_hd (okL_tl hst)).2
        have ha0 : a ≠ 0 := by omega
        have hv : cV B ad (2, a) = .ref (rA B a) := by show (if a = 0 then Value.null else _) = _; rw [if_neg ha0]
        have han : ((a.toNat : Nat) : Int) = a := by omega
        have hget := ws_get (B := B) (dA := dA) (v := v) ha1 hac
        rw [cE_obj (ci := ci) (by rw [han]; exact hta) hcc] at hget
        obtain ⟨hbool, hN⟩ := chk_e h
        clear h
        have h := hN
        clear hN
        have hrx : okV c (0, x) := okL_hd hst
        have hnf : narrow (tyF ci k) (cM B (fTag ci k % 4) x) = cM B (fTag ci k % 4) x ∧ fits (tyF ci k) (cM B (fTag ci k % 4) x) = true := by
          have hty := (f_fin hcc ht.1.2).2.2
          rw [et] at hty ⊢
          generalize tyF ci k = ty at hty ⊢
          simp only [Bool.or_eq_true, decide_eq_true_eq] at hbool
          rcases hbool with rfl | rfl <;> (cases ty <;> first | exact ⟨rfl, rfl⟩ | cases hty)
        have hgo := h.2
        have hset : wsOf B dA c (up v a k x) = (wsOf B dA c v).set (a.toNat - 1) (rA B a, .inr (ci, (flds B v a.toNat ci).set k (cM B (fTag ci k % 4) x))) := by
          rw [ws_chg ha1 hac (up_off (v := v) (a := a) (i := k) (x := x)), cE_obj (ci := ci) (by rw [han]; exact hta) hcc]
          have := flds_up B v a.toNat (ci := ci) (j := k) x ht.1.2
          rw [han] at this
          rw [this]
        have hcx : cV B ad (0, x) = cM B (fTag ci k % 4) x := by rw [et]; rfl
        rw [List.map_cons, List.map_cons, hv, hcx]
        by_cases hs2 : isSt ci k = true
        · have hfm : fm = 0 := by
            rcases hs with q | q
            · exact q
            · rw [hs2] at q; cases q
          exact va_putF hx hb hts (f_in hcc) (tyF ci) (f_ty hcc) (f_nm hcc) hown hK hP hD hS (a.toNat - 1) hget (vcl_get hcc) k ht.1.2 (hts _ (fw e1)) (fun x hq => by rw [(f_fin hcc ht.1.2).2.1] at hq; exact hq) (by rw [(f_fin hcc ht.1.2).1]; exact hs2) (hini hfm) (by rw [(f_fin hcc ht.1.2).2.1]; exact hdecl hfm hs2) (f_ty hcc k ht.1.2) hnf.1 hnf.2 (by rw [flds_len]; exact ht.1.2) hdec (fun H1 locs1 qP qD qS => hgo H1 locs1 LS (by rw [hset]; exact qP) qS hLS)
        · exact va_put hx hb hts (f_in hcc) (tyF ci) (f_ty hcc) (f_nm hcc) hown hK hP hD hS (a.toNat - 1) hget (vcl_get hcc) k ht.1.2 (hts _ (fw e1)) (fun x hq => by rw [(f_fin hcc ht.1.2).2.1] at hq; exact hq) (by rw [(f_fin hcc ht.1.2).1]; simpa using hs2) (f_ty hcc k ht.1.2) hnf.1 hnf.2 (by rw [flds_len]; exact ht.1.2) hdec (fun H1 locs1 qP qD qS => hgo H1 locs1 LS (by rw [hset]; exact qP) qS hLS)
      · exact h.elim
    · exact h.elim
  case iaload =>
    obtain rfl : len = 1 := by simpa [okI] using hok
    obtain ⟨i, r, hE, hN⟩ := pI_e h
    clear h
    subst hE
    have h := hN
    clear hN
    split at h
    · rename_i a r
      obtain ⟨h1, hN⟩ := ckt_e h
      clear h
      have h := hN
      clear hN
      obtain ⟨h2, hN⟩ := chk_e h
      clear h
      have h := hN
      clear hN
      have h2 := inb_iff.mp h2
      have hln := ln_ok a
      have h1 : tyT a = 1 := by simpa using h1
      have ha1 : 1 ≤ a := ty_pos (by omega)
      have hac : a ≤ c := (okL_hd (okL_tl hst)).2
      have ha0 : a ≠ 0 := by omega
      have hv : cV B ad (2, a) = .ref (rA B a) := by show (if a = 0 then Value.null else _) = _; rw [if_neg ha0]
      have han : ((a.toNat : Nat) : Int) = a := by omega
      have hget := ws_get (B := B) (dA := dA) (v := v) ha1 hac
      have hin := inb_in h2 (by omega)
      have hcl : (Int32.ofInt i).toNatClampNeg = i.toNat := clamp32 h2.1 (by omega)
      have hin2 : ((i.toNat : Nat) : Int) = i := by omega
      rw [cE_int (by rw [han]; exact Or.inl h1), han, h1] at hget
      have hg := h.2 H locs LS hP hS hLS
      rw [List.map_cons, List.map_cons, hv]
      refine va_iald hx hb hK hP (a.toNat - 1) 0 hget rfl hin hdec ?_
      rw [hcl, hin2]
      exact hg
    · rename_i z r
      obtain ⟨h2, hN⟩ := chk_e h
      clear h
      have h := hN
      clear hN
      have h2 := inb_iff.mp h2
      obtain ⟨xs', hX, hbl, hbA, hL3, hxe⟩ := hscr (by omega)
      have hg := h.2 H locs LS hP hS hLS
      rw [hxe i h2.1 h2.2] at hg
      refine va_sld (L := L - 1) hx hb hX hbl hbA hS ?_ hdec ?_
      · rw [vp_in_iff, t32 (by omega)]; omega
      · rw [clamp32 h2.1 (by omega)]
        rw [List.map_cons, show cV B ad (0, (xs' i.toNat).toInt) = .int (Int32.ofInt (xs' i.toNat).toInt) from rfl, o32_t] at hg
        exact hg
    · exact h.elim
  case arraylength =>
    obtain rfl : len = 1 := by simpa [okI] using hok
    split at h
    · rename_i a r
      obtain ⟨h1, hN⟩ := ckt_e h
      clear h
      have h := hN
      clear hN
      have hln := ln_ok a
      have h1 : tyT a = 1 ∨ tyT a = 3 := by simpa using h1
      have ha1 : 1 ≤ a := ty_pos (by omega)
      have hac : a ≤ c := (okL_hd hst).2
      have ha0 : a ≠ 0 := by omega
      have hv : cV B ad (2, a) = .ref (rA B a) := by show (if a = 0 then Value.null else _) = _; rw [if_neg ha0]
      have han : ((a.toNat : Nat) : Int) = a := by omega
      have hget := ws_get (B := B) (dA := dA) (v := v) ha1 hac
      rw [cE_int (by rw [han]; omega), han] at hget
      have hg := h.2 H locs LS hP hS hLS
      rw [List.map_cons, hv]
      have hlen : Int32.ofNat (lnT a).toNat = Int32.ofInt (lnT a) := by
        rw [show Int32.ofInt (lnT a) = Int32.ofInt (((lnT a).toNat : Nat) : Int) by rw [Int.toNat_of_nonneg hln.1]]
        rfl
      rcases h1 with h1 | h1
      · rw [h1] at hget
        exact va_alen hx hb hK hP (a.toNat - 1) 0 hget (ty := .int) rfl hlen hdec hg
      · rw [h1] at hget
        exact va_alen hx hb hK hP (a.toNat - 1) 2 hget (ty := .byte) rfl hlen hdec hg
    · rename_i z r
      obtain ⟨h1, hN⟩ := ckt_e h
      clear h
      have h := hN
      clear hN
      have h1 : 0 < L := by simpa using h1
      obtain ⟨xs', hX, hbl, hbA, hL3, hxe⟩ := hscr h1
      have hg := h.2 H locs LS hP hS hLS
      refine va_slen (L := L - 1) hx hb hX hbl hbA hS hdec ?_
      have hlen : Int32.ofNat (L - 1) = Int32.ofInt ((L : Int) - 1) := by
        rw [show (L : Int) - 1 = ((L - 1 : Nat) : Int) by omega]
        rfl
      rw [hlen]
      exact hg
    · rename_i k r
      have hk := okL_hd hst
      have hkk : k.toNat < 4 := by have := hk.2; have := hk.1; dsimp only at *; omega
      refine va_tlen hx hb (hSt.1.1 k.toNat hkk).2.2.2 hS ?_ hdec (h.2 H locs LS hP hS hLS)
      rw [sLen_e hkk]
      rfl
    · exact h.elim
  case baload =>
    obtain rfl : len = 1 := by simpa [okI] using hok
    obtain ⟨i, r, hE, hN⟩ := pI_e h
    clear h
    subst hE
    have h := hN
    clear hN
    split at h
    · rename_i a r
      obtain ⟨h1, hN⟩ := ckt_e h
      clear h
      have h := hN
      clear hN
      obtain ⟨h2, hN⟩ := chk_e h
      clear h
      have h := hN
      clear hN
      have h2 := inb_iff.mp h2
      have hln := ln_ok a
      have h1 : tyT a = 3 ∨ tyT a = 4 := by simpa using h1
      have ha1 : 1 ≤ a := ty_pos (by omega)
      have hac : a ≤ c := (okL_hd (okL_tl hst)).2
      have ha0 : a ≠ 0 := by omega
      have hv : cV B ad (2, a) = .ref (rA B a) := by show (if a = 0 then Value.null else _) = _; rw [if_neg ha0]
      have han : ((a.toNat : Nat) : Int) = a := by omega
      have hget := ws_get (B := B) (dA := dA) (v := v) ha1 hac
      have hin := inb_in h2 (by omega)
      have hcl : (Int32.ofInt i).toNatClampNeg = i.toNat := clamp32 h2.1 (by omega)
      have hin2 : ((i.toNat : Nat) : Int) = i := by omega
      rw [cE_int (by rw [han]; omega), han] at hget
      have hg := h.2 H locs LS hP hS hLS
      rw [List.map_cons, List.map_cons, hv]
      rcases h1 with h1 | h1
      · rw [h1] at hget
        refine va_bald hx hb hK hP (a.toNat - 1) 2 hget rfl hin hdec ?_
        rw [hcl, hin2]
        exact hg
      · rw [h1] at hget
        refine va_zald hx hb hK hP (a.toNat - 1) 3 hget rfl hin hdec ?_
        rw [hcl, hin2]
        exact hg
    · rename_i k r
      obtain ⟨h2, hN⟩ := chk_e h
      clear h
      have h := hN
      clear hN
      have h2 := inb_iff.mp h2
      have hk := okL_hd (okL_tl hst)
      have hkk : k.toNat < 4 := by have := hk.2; have := hk.1; dsimp only at *; omega
      have hsl := sLen_ok k.toNat
      refine va_tb hx hb (hSt.1.1 k.toNat hkk).2.2.2 hS ?_ ?_ hdec (h.2 H locs LS hP hS hLS)
      · rw [sLen_e hkk, vp_in_iff, t32 (by omega)]
        omega
      · rw [clamp32 h2.1 (by omega), sByt_e hkk]
        rfl
    · exact h.elim
  case laload =>
    obtain rfl : len = 1 := by simpa [okI] using hok
    obtain ⟨i, r, hE, hN⟩ := pI_e h
    clear h
    subst hE
    have h := hN
    clear hN
    obtain ⟨a, r, hE, hN⟩ := pR_e h
    clear h
    subst hE
    have h := hN
    clear hN
    obtain ⟨h1, hN⟩ := ckt_e h
    clear h
    have h := hN
    clear hN
    obtain ⟨h2, hN⟩ := chk_e h
    clear h
    have h := hN
    clear hN
    have h2 := inb_iff.mp h2
    have hln := ln_ok a
    have h1 : tyT a = 2 := by simpa using h1
    have ha1 : 1 ≤ a := ty_pos (by omega)
    have hac : a ≤ c := (okL_hd (okL_tl hst)).2
    have ha0 : a ≠ 0 := by omega
    have hv : cV B ad (2, a) = .ref (rA B a) := by show (if a = 0 then Value.null else _) = _; rw [if_neg ha0]
    have han : ((a.toNat : Nat) : Int) = a := by omega
    have hget := ws_get (B := B) (dA := dA) (v := v) ha1 hac
    have hin := inb_in h2 (by omega)
    have hcl : (Int32.ofInt i).toNatClampNeg = i.toNat := clamp32 h2.1 (by omega)
    have hin2 : ((i.toNat : Nat) : Int) = i := by omega
    rw [cE_long (by rw [han]; exact h1), han] at hget
    have hg := h.2 H locs LS hP hS hLS
    rw [List.map_cons, List.map_cons, hv]
    refine va_lald hx hb hK hP (a.toNat - 1) 1 hget rfl hin hdec ?_
    rw [hcl, hin2]
    exact hg
  case aaload =>
    obtain rfl : len = 1 := by simpa [okI] using hok
    obtain ⟨i, r, hE, hN⟩ := pI_e h
    clear h
    subst hE
    have h := hN
    clear hN
    obtain ⟨a, r, hE, hN⟩ := pR_e h
    clear h
    subst hE
    have h := hN
    clear hN
    obtain ⟨h1, hN⟩ := ckt_e h
    clear h
    have h := hN
    clear hN
    obtain ⟨h2, hN⟩ := chk_e h
    clear h
    have h := hN
    clear hN
    have h2 := inb_iff.mp h2
    have hln := ln_ok a
    have h1 : 40 ≤ tyT a := by simpa using h1
    have ha1 : 1 ≤ a := ty_pos (by omega)
    have hac : a ≤ c := (okL_hd (okL_tl hst)).2
    have ha0 : a ≠ 0 := by omega
    have hv : cV B ad (2, a) = .ref (rA B a) := by show (if a = 0 then Value.null else _) = _; rw [if_neg ha0]
    have han : ((a.toNat : Nat) : Int) = a := by omega
    have hget := ws_get (B := B) (dA := dA) (v := v) ha1 hac
    have hin := inb_in h2 (by omega)
    have hcl : (Int32.ofInt i).toNatClampNeg = i.toNat := clamp32 h2.1 (by omega)
    have hin2 : ((i.toNat : Nat) : Int) = i := by omega
    rw [cE_ref (by rw [han]; exact h1), han] at hget
    rw [List.map_cons, List.map_cons, hv]
    have hw : W p l e R s m args below meth cd H locs (c - c0) (sl c - sl c0) Q (F0 m (pc + 1) LS (cM B 2 (v a i) :: r.map (cV B ad))) := by
      split at h
      · rename_i b s2 e4
        unfold rdA at e4
        split at e4
        · have h5 := (hFf (hf1 rfl)).2.2 a i ha1 hac h2.1 h2.2
          dsimp only at h5
          unfold stA at h5
          cases hq : stArr.find? (fun q => q.1 == a) with
          | none => rw [hq] at e4; cases e4
          | some q =>
            rw [hq] at e4 h5
            obtain ⟨q1, q2, q3⟩ := q
            cases e4
            dsimp only at h5
            rw [h5]
            exact h.2 H locs LS hP hS hLS
        · cases e4
      · exact h.2 H locs LS hP hS hLS
    have hrf : va_rf (rO B (v a ((i.toNat : Nat) : Int))) = cM B 2 (v a i) := by rw [rO_rf, hin2]
    rcases ty_ref h1 with h3 | h3 | h3
    · rw [h3] at hget
      refine va_aldq (C := cN 3) hx hb hK hP (a.toNat - 1) 4 hget rfl hin hdec ?_
      rw [hcl, hrf]
      exact hw
    · rw [h3] at hget
      refine va_aldq (C := cN 8) hx hb hK hP (a.toNat - 1) 5 hget rfl hin hdec ?_
      rw [hcl, hrf]
      exact hw
    · rw [h3] at hget
      refine va_aldq (C := cN 9) hx hb hK hP (a.toNat - 1) 6 hget rfl hin hdec ?_
      rw [hcl, hrf]
      exact hw
  case iastore =>
    obtain rfl : len = 1 := by simpa [okI] using hok
    obtain ⟨x, r, hE, hN⟩ := pI_e h
    clear h
    subst hE
    have h := hN
    clear hN
    obtain ⟨i, r, hE, hN⟩ := pI_e h
    clear h
    subst hE
    have h := hN
    clear hN
    obtain ⟨a, r, hE, hN⟩ := pR_e h
    clear h
    subst hE
    have h := hN
    clear hN
    obtain ⟨h1, hN⟩ := ckt_e h
    clear h
    have h := hN
    clear hN
    obtain ⟨h2, hN⟩ := chk_e h
    clear h
    have h := hN
    clear hN
    have h2 := inb_iff.mp h2
    have hln := ln_ok a
    have h1 : tyT a = 1 := by simpa using h1
    have ha1 : 1 ≤ a := ty_pos (by omega)
    have hac : a ≤ c := (okL_hd (okL_tl (okL_tl hst))).2
    have ha0 : a ≠ 0 := by omega
    have hv : cV B ad (2, a) = .ref (rA B a) := by show (if a = 0 then Value.null else _) = _; rw [if_neg ha0]
    have han : ((a.toNat : Nat) : Int) = a := by omega
    have hget := ws_get (B := B) (dA := dA) (v := v) ha1 hac
    have hin := inb_in h2 (by omega)
    have hcl : (Int32.ofInt i).toNatClampNeg = i.toNat := clamp32 h2.1 (by omega)
    have hin2 : ((i.toNat : Nat) : Int) = i := by omega
    have hset : ∀ y : Int, wsOf B dA c (up v a i y) = (wsOf B dA c v).set (a.toNat - 1) (rA B a, .inl (dA (tyT a), (lnT a).toNat, .inl (upd (fun j => Int32.ofInt (v a j)) i.toNat (Int32.ofInt y)))) := by
      intro y
      rw [ws_chg ha1 hac (up_off (v := v) (a := a) (i := i) (x := y)), cE_int (by rw [han]; omega), han]
      congr 6
      funext j
      unfold up upd
      by_cases hj : j = i.toNat
      · rw [if_pos ⟨rfl, by omega⟩, if_pos hj]
      · rw [if_neg (by omega), if_neg hj]
    have hgo := h.2
    rw [cE_int (by rw [han]; omega), han] at hget
    rw [List.map_cons, List.map_cons, List.map_cons, hv]
    rw [h1] at hset hget
    exact va_iast (x := Int32.ofInt x) hx hb hK hP hD hS (a.toNat - 1) 0 hget rfl hin hdec (fun H1 locs1 qP qD qS => hgo H1 locs1 LS (by rw [hset, ← hcl]; exact qP) qS hLS)
  case bastore =>
    obtain rfl : len = 1 := by simpa [okI] using hok
    obtain ⟨x, r, hE, hN⟩ := pI_e h
    clear h
    subst hE
    have h := hN
    clear hN
    obtain ⟨i, r, hE, hN⟩ := pI_e h
    clear h
    subst hE
    have h := hN
    clear hN
    obtain ⟨a, r, hE, hN⟩ := pR_e h
    clear h
    subst hE
    have h := hN
    clear hN
    obtain ⟨h1, hN⟩ := ckt_e h
    clear h
    have h := hN
    clear hN
    obtain ⟨h2, hN⟩ := chk_e h
    clear h
    have h := hN
    clear hN
    have h2 := inb_iff.mp h2
    have hln := ln_ok a
    have h1 : tyT a = 3 ∨ (tyT a = 4 ∧ (x = 0 ∨ x = 1)) := by simpa using h1
    have ha1 : 1 ≤ a := ty_pos (by omega)
    have hac : a ≤ c := (okL_hd (okL_tl (okL_tl hst))).2
    have ha0 : a ≠ 0 := by omega
    have hv : cV B ad (2, a) = .ref (rA B a) := by show (if a = 0 then Value.null else _) = _; rw [if_neg ha0]
    have han : ((a.toNat : Nat) : Int) = a := by omega
    have hget := ws_get (B := B) (dA := dA) (v := v) ha1 hac
    have hin := inb_in h2 (by omega)
    have hcl : (Int32.ofInt i).toNatClampNeg = i.toNat := clamp32 h2.1 (by omega)
    have hin2 : ((i.toNat : Nat) : Int) = i := by omega
    have hset : ∀ y : Int, wsOf B dA c (up v a i y) = (wsOf B dA c v).set (a.toNat - 1) (rA B a, .inl (dA (tyT a), (lnT a).toNat, .inl (upd (fun j => Int32.ofInt (v a j)) i.toNat (Int32.ofInt y)))) := by
      intro y
      rw [ws_chg ha1 hac (up_off (v := v) (a := a) (i := i) (x := y)), cE_int (by rw [han]; omega), han]
      congr 6
      funext j
      unfold up upd
      by_cases hj : j = i.toNat
      · rw [if_pos ⟨rfl, by omega⟩, if_pos hj]
      · rw [if_neg (by omega), if_neg hj]
    have hgo := h.2
    rw [cE_int (by rw [han]; omega), han] at hget
    rw [List.map_cons, List.map_cons, List.map_cons, hv]
    have hrx : okV c (0, x) := okL_hd hst
    rcases h1 with h1 | ⟨h1, h1x⟩
    · rw [h1] at hset hget
      exact va_bast (x := Int32.ofInt x) hx hb hK hP hD hS (a.toNat - 1) 2 hget rfl hin hdec (fun H1 locs1 qP qD qS => hgo H1 locs1 LS (by rw [hset, ← hcl, ← o_i2b hrx, ← vp_nar_byte]; exact qP) qS hLS)
    · rw [h1] at hset hget
      refine va_zast (x := Int32.ofInt x) hx hb hK hP hD hS (a.toNat - 1) 3 hget rfl hin hdec (fun H1 locs1 qP qD qS => hgo H1 locs1 LS ?_ qS hLS)
      have hz : vp_nar .boolean (Int32.ofInt x) = Int32.ofInt (w8 x) := by rcases h1x with rfl | rfl <;> rfl
      rw [hset, ← hcl, ← hz]
      exact qP
  case lastore =>
    obtain rfl : len = 1 := by simpa [okI] using hok
    obtain ⟨x, r, hE, hN⟩ := pL_e h
    clear h
    subst hE
    have h := hN
    clear hN
    obtain ⟨i, r, hE, hN⟩ := pI_e h
    clear h
    subst hE
    have h := hN
    clear hN
    obtain ⟨a, r, hE, hN⟩ := pR_e h
    clear h
    subst hE
    have h := hN
    clear hN
    obtain ⟨h1, hN⟩ := ckt_e h
    clear h
    have h := hN
    clear hN
    obtain ⟨h2, hN⟩ := chk_e h
    clear h
    have h := hN
    clear hN
    have h2 := inb_iff.mp h2
    have hln := ln_ok a
    have h1 : tyT a = 2 := by simpa using h1
    have ha1 : 1 ≤ a := ty_pos (by omega)
    have hac : a ≤ c := (okL_hd (okL_tl (okL_tl hst))).2
    have ha0 : a ≠ 0 := by omega
    have hv : cV B ad (2, a) = .ref (rA B a) := by show (if a = 0 then Value.null else _) = _; rw [if_neg ha0]
    have han : ((a.toNat : Nat) : Int) = a := by omega
    have hget := ws_get (B := B) (dA := dA) (v := v) ha1 hac
    have hin := inb_in h2 (by omega)
    have hcl : (Int32.ofInt i).toNatClampNeg = i.toNat := clamp32 h2.1 (by omega)
    have hin2 : ((i.toNat : Nat) : Int) = i := by omega
    have hset : wsOf B dA c (up v a i x) = (wsOf B dA c v).set (a.toNat - 1) (rA B a, .inl (dA 2, (lnT a).toNat, .inr (.inl (vp_updL (fun j => Int64.ofInt (v a j)) i.toNat (Int64.ofInt x))))) := by
      rw [ws_chg ha1 hac (up_off (v := v) (a := a) (i := i) (x := x)), cE_long (by rw [han]; exact h1), han]
      congr 7
      funext j
      unfold up vp_updL
      by_cases hj : j = i.toNat
      · rw [if_pos ⟨rfl, by omega⟩, if_pos hj]
      · rw [if_neg (by omega), if_neg hj]
    have hgo := h.2
    rw [cE_long (by rw [han]; exact h1), han] at hget
    rw [List.map_cons, List.map_cons, List.map_cons, hv]
    exact va_last (x := Int64.ofInt x) hx hb hK hP hD hS (a.toNat - 1) 1 hget rfl hin hdec (fun H1 locs1 qP qD qS => hgo H1 locs1 LS (by rw [hset, ← hcl]; exact qP) qS hLS)
  case aastore =>
    obtain rfl : len = 1 := by simpa [okI] using hok
    obtain ⟨h0, hN⟩ := ckt_e h
    clear h
    have h := hN
    clear hN
    obtain ⟨x, r, hE, hN⟩ := pR_e h
    clear h
    subst hE
    have h := hN
    clear hN
    obtain ⟨i, r, hE, hN⟩ := pI_e h
    clear h
    subst hE
    have h := hN
    clear hN
    obtain ⟨a, r, hE, hN⟩ := pR_e h
    clear h
    subst hE
    have h := hN
    clear hN
    obtain ⟨h1, hN⟩ := ckt_e h
    clear h
    have h := hN
    clear hN
    obtain ⟨h2, hN⟩ := chk_e h
    clear h
    have h := hN
    clear hN
    have h2 := inb_iff.mp h2
    have hln := ln_ok a
    have h1 : 40 ≤ tyT a ∧ tyT x + 30 = tyT a := by simpa using h1
    have ha1 : 1 ≤ a := ty_pos (by have := h1.1; omega)
    have hac : a ≤ c := (okL_hd (okL_tl (okL_tl hst))).2
    have ha0 : a ≠ 0 := by omega
    have hv : cV B ad (2, a) = .ref (rA B a) := by show (if a = 0 then Value.null else _) = _; rw [if_neg ha0]
    have han : ((a.toNat : Nat) : Int) = a := by omega
    have hget := ws_get (B := B) (dA := dA) (v := v) ha1 hac
    have hin := inb_in h2 (by omega)
    have hcl : (Int32.ofInt i).toNatClampNeg = i.toNat := clamp32 h2.1 (by omega)
    have hin2 : ((i.toNat : Nat) : Int) = i := by omega
    have hx1 : 1 ≤ x := ty_pos (by omega)
    have hxc : x ≤ c := (okL_hd hst).2
    have hx0 : x ≠ 0 := by omega
    have hvx : cV B ad (2, x) = .ref (rA B x) := by show (if x = 0 then Value.null else _) = _; rw [if_neg hx0]
    have hxn : ((x.toNat : Nat) : Int) = x := by omega
    have hset : wsOf B dA c (up v a i x) = (wsOf B dA c v).set (a.toNat - 1) (rA B a, .inl (dA (tyT a), (lnT a).toNat, .inr (.inr (.inr (.inr (va_up (fun j => rO B (v a j)) i.toNat (some (rA B x)))))))) := by
      rw [ws_chg ha1 hac (up_off (v := v) (a := a) (i := i) (x := x)), cE_ref (by rw [han]; exact h1.1), han]
      congr 9
      funext j
      unfold up va_up
      by_cases hj : j = i.toNat
      · rw [if_pos ⟨rfl, by omega⟩, if_pos hj]
        unfold rO
        rw [if_neg hx0]
      · rw [if_neg (by omega), if_neg hj]
    have hgo := h.2
    rw [cE_ref (by rw [han]; exact h1.1), han] at hget
    rw [List.map_cons, List.map_cons, List.map_cons, hv, hvx]
    have hgx := ws_get (B := B) (dA := dA) (v := v) hx1 hxc
    rcases ty_ref h1.1 with h3 | h3 | h3
    · rw [h3] at hget hset
      rw [cE_obj (ci := 3) (by rw [hxn]; omega) (by decide)] at hgx
      exact va_astq (r := (cN 3, fN 3, nF 3)) hx hb hK hP hD hS (a.toNat - 1) 4 (x.toNat - 1) 3 hget rfl hgx (vcl_get (by decide)) hin hdec (fun H1 locs1 qP qD qS => hgo H1 locs1 LS (by rw [hset, ← hcl]; exact qP) qS hLS)
    · rw [h3] at hget hset
      rw [cE_obj (ci := 8) (by rw [hxn]; omega) (by decide)] at hgx
      exact va_astq (r := (cN 8, fN 8, nF 8)) hx hb hK hP hD hS (a.toNat - 1) 5 (x.toNat - 1) 8 hget rfl hgx (vcl_get (by decide)) hin hdec (fun H1 locs1 qP qD qS => hgo H1 locs1 LS (by rw [hset, ← hcl]; exact qP) qS hLS)
    · rw [h3] at hget hset
      rw [cE_obj (ci := 9) (by rw [hxn]; omega) (by decide)] at hgx
      exact va_astq (r := (cN 9, fN 9, nF 9)) hx hb hK hP hD hS (a.toNat - 1) 6 (x.toNat - 1) 9 hget rfl hgx (vcl_get (by decide)) hin hdec (fun H1 locs1 qP qD qS => hgo H1 locs1 LS (by rw [hset, ← hcl]; exact qP) qS hLS)
  case new i =>
    obtain rfl : len = 3 := by simpa [okI] using hok
    split at h
    · rename_i ci e1
      obtain ⟨h0, hN⟩ := ckt_e h
      clear h
      have h := hN
      clear hN
      obtain ⟨h1, hN⟩ := ckt_e h
      clear h
      have h := hN
      clear hN
      have hta : tyT ((c : Int) + 1) = 10 + ci := by simpa using h1
      have hcw := lk_all2 cw_tab e1
      simp only [Bool.and_eq_true, decide_eq_true_eq] at hcw
      have hcc : ci < 13 := hcw.2
      have hci := List.all_eq_true.mp ci_tab ci (List.mem_range.mpr hcc)
      simp only [Bool.and_eq_true] at hci
      have hln : lnT ((c : Int) + 1) = nF ci := ty_obj hta hcc
      have hcF := h.1
      have hsl : sl (c + 1) = sl c + nF ci := by
        show sl c + (lnT ((c : Int) + 1)).toNat = _
        rw [hln]; simp
      have hsm := sl_mono hcF
      have hsm2 := sl_mono hc
      refine va_new (ci := ci) (fs := flds B (zer v ((c : Int) + 1)) (c + 1) ci) hx hb hts (f_in hcc) (tyF ci) (f_ty hcc) hown (hts _ (inT_mem hcw.1)) (hts _ (inT_mem hci.2)) (hts _ (inT_mem hci.1)) hK hP hD hS hA (vcl_get hcc) (fun j hj => ?_) (by omega) (by omega) hdec (fun q H1 qP qD qS => W_sz (fun hsz => ?_))
      · unfold vp_V
        rw [List.getD_eq_getElem?_getD, flds_get B _ _ hj]
        have hz : zer v ((c : Int) + 1) ((c + 1 : Nat) : Int) j = 0 := by
          unfold zer
          rw [if_pos (by omega)]
        rw [hz]
        have hty := (f_fin hcc hj).2.2
        generalize fTag ci j = t at hty
        generalize tyF ci j = ty at hty
        unfold tagTy at hty
        split at hty <;> first | rfl | cases hty
      · have hq : q = B + c := ws_fresh qP qD (by omega)
        subst hq
        have hg := h.2 H1 locs LS (by
          rw [ws_new, cE_obj (ci := ci) (by rw [show (((c + 1 : Nat) : Nat) : Int) = (c : Int) + 1 by omega]; exact hta) hcc]
          exact qP) qS hLS
        rw [show c + 1 - c0 = c - c0 + 1 by omega, show sl (c + 1) - sl c0 = sl c - sl c0 + nF ci by omega] at hg
        have hv : cV B ad (2, (c : Int) + 1) = .ref (B + c) := by
          show (if (c : Int) + 1 = 0 then Value.null else .ref (rA B ((c : Int) + 1))) = _
          rw [if_neg (by omega)]
          unfold rA
          rw [show B + (((c : Int) + 1).toNat - 1) = B + c by omega]
        rw [List.map_cons, hv] at hg
        exact hg
    · exact h.elim
  case newarray t =>
    simp only [okI, Bool.and_eq_true, decide_eq_true_eq, beq_iff_eq] at hok
    obtain ⟨rfl, hat⟩ := hok
    obtain ⟨n, r, hE, hN⟩ := pI_e h
    clear h
    subst hE
    have h := hN
    clear hN
    obtain ⟨h1, hN⟩ := ckt_e h
    clear h
    have h := hN
    clear hN
    simp only [Bool.and_eq_true, beq_iff_eq] at h1
    obtain rfl : lnT ((c : Int) + 1) = n := h1.2
    have hcF := h.1
    have hsl : sl (c + 1) = sl c + (lnT ((c : Int) + 1)).toNat := rfl
    have hsm := sl_mono hcF
    have hsm2 := sl_mono hc
    have hlo := ln_ok ((c : Int) + 1)
    have hnc : (((c + 1 : Nat) : Nat) : Int) = (c : Int) + 1 := by omega
    have hv : cV B ad (2, (c : Int) + 1) = .ref (B + c) := by
      show (if (c : Int) + 1 = 0 then Value.null else .ref (rA B ((c : Int) + 1))) = _
      rw [if_neg (by omega)]
      unfold rA
      rw [show B + (((c : Int) + 1).toNat - 1) = B + c by omega]
    have hneg : ¬ Int32.ofInt (lnT ((c : Int) + 1)) < 0 := fun q => by
      rw [z32, lt32 (by omega) (by decide)] at q
      omega
    have hcl : (Int32.ofInt (lnT ((c : Int) + 1))).toNatClampNeg = (lnT ((c : Int) + 1)).toNat := clamp32 hlo.1 (by omega)
    cases t with
    | int =>
      have hta : tyT ((c : Int) + 1) = 1 := h1.1.2
      refine va_newa (atype := .int) (a0 := ((lnT ((c : Int) + 1)).toNat, .inl (fun _ => 0))) hx hb (hts _ w_arrI) rfl hK hP hD hS hA (fun cA => rfl) hneg hcl (Nat.le_trans (Nat.mul_le_mul_left _ (show componentBytes _ ≤ 8 by decide)) (by omega)) (by omega) (by omega) hdec (fun q cA H1 qK qP qD qS => W_sz (fun hsz => ?_))
      have hq : q = B + c := ws_fresh qP qD (by omega)
      subst hq
      have hcA : cA = dA 1 := by
        have q1 := (qK.2 7 (cA, .int) rfl).2
        have q2 := (hK.2 0 (dA 1, .int) rfl).2
        exact Option.some.inj (q1.symm.trans q2)
      subst hcA
      have hg := h.2 H1 locs LS (by
        rw [ws_new, cE_int (by rw [hnc]; exact Or.inl hta), hnc]
        have hzf : ∀ j : Nat, zer v ((c : Int) + 1) ((c : Int) + 1) (j : Int) = 0 := fun j => by
          unfold zer
          rw [if_pos rfl]
        simp only [hzf]
        rw [hta]
        exact qP) qS hLS
      rw [show c + 1 - c0 = c - c0 + 1 by omega, show sl (c + 1) - sl c0 = sl c - sl c0 + (lnT ((c : Int) + 1)).toNat by omega] at hg
      rw [List.map_cons, hv] at hg
      exact hg
    | long =>
      have hta : tyT ((c : Int) + 1) = 2 := h1.1.2
      refine va_newa (atype := .long) (a0 := ((lnT ((c : Int) + 1)).toNat, .inr (.inl (fun _ => 0)))) hx hb (hts _ w_arrL) rfl hK hP hD hS hA (fun cA => rfl) hneg hcl (Nat.le_trans (Nat.mul_le_mul_left _ (show componentBytes _ ≤ 8 by decide)) (by omega)) (by omega) (by omega) hdec (fun q cA H1 qK qP qD qS => W_sz (fun hsz => ?_))
      have hq : q = B + c := ws_fresh qP qD (by omega)
      subst hq
      have hcA : cA = dA 2 := by
        have q1 := (qK.2 7 (cA, .long) rfl).2
        have q2 := (hK.2 1 (dA 2, .long) rfl).2
        exact Option.some.inj (q1.symm.trans q2)
      subst hcA
      have hg := h.2 H1 locs LS (by
        rw [ws_new, cE_long (by rw [hnc]; exact hta), hnc]
        have hzf : ∀ j : Nat, zer v ((c : Int) + 1) ((c : Int) + 1) (j : Int) = 0 := fun j => by
          unfold zer
          rw [if_pos rfl]
        simp only [hzf]
        
        exact qP) qS hLS
      rw [show c + 1 - c0 = c - c0 + 1 by omega, show sl (c + 1) - sl c0 = sl c - sl c0 + (lnT ((c : Int) + 1)).toNat by omega] at hg
      rw [List.map_cons, hv] at hg
      exact hg
    | byte =>
      have hta : tyT ((c : Int) + 1) = 3 := h1.1.2
      refine va_newa (atype := .byte) (a0 := ((lnT ((c : Int) + 1)).toNat, .inl (fun _ => 0))) hx hb (hts _ w_arrB) rfl hK hP hD hS hA (fun cA => rfl) hneg hcl (Nat.le_trans (Nat.mul_le_mul_left _ (show componentBytes _ ≤ 8 by decide)) (by omega)) (by omega) (by omega) hdec (fun q cA H1 qK qP qD qS => W_sz (fun hsz => ?_))
      have hq : q = B + c := ws_fresh qP qD (by omega)
      subst hq
      have hcA : cA = dA 3 := by
        have q1 := (qK.2 7 (cA, .byte) rfl).2
        have q2 := (hK.2 2 (dA 3, .byte) rfl).2
        exact Option.some.inj (q1.symm.trans q2)
      subst hcA
      have hg := h.2 H1 locs LS (by
        rw [ws_new, cE_int (by rw [hnc]; exact Or.inr (Or.inl hta)), hnc]
        have hzf : ∀ j : Nat, zer v ((c : Int) + 1) ((c : Int) + 1) (j : Int) = 0 := fun j => by
          unfold zer
          rw [if_pos rfl]
        simp only [hzf]
        rw [hta]
        exact qP) qS hLS
      rw [show c + 1 - c0 = c - c0 + 1 by omega, show sl (c + 1) - sl c0 = sl c - sl c0 + (lnT ((c : Int) + 1)).toNat by omega] at hg
      rw [List.map_cons, hv] at hg
      exact hg
    | boolean =>
      have hta : tyT ((c : Int) + 1) = 4 := h1.1.2
      refine va_newa (atype := .boolean) (a0 := ((lnT ((c : Int) + 1)).toNat, .inl (fun _ => 0))) hx hb (hts _ w_arrZ) rfl hK hP hD hS hA (fun cA => rfl) hneg hcl (Nat.le_trans (Nat.mul_le_mul_left _ (show componentBytes _ ≤ 8 by decide)) (by omega)) (by omega) (by omega) hdec (fun q cA H1 qK qP qD qS => W_sz (fun hsz => ?_))
      have hq : q = B + c := ws_fresh qP qD (by omega)
      subst hq
      have hcA : cA = dA 4 := by
        have q1 := (qK.2 7 (cA, .boolean) rfl).2
        have q2 := (hK.2 3 (dA 4, .boolean) rfl).2
        exact Option.some.inj (q1.symm.trans q2)
      subst hcA
      have hg := h.2 H1 locs LS (by
        rw [ws_new, cE_int (by rw [hnc]; exact Or.inr (Or.inr hta)), hnc]
        have hzf : ∀ j : Nat, zer v ((c : Int) + 1) ((c : Int) + 1) (j : Int) = 0 := fun j => by
          unfold zer
          rw [if_pos rfl]
        simp only [hzf]
        rw [hta]
        exact qP) qS hLS
      rw [show c + 1 - c0 = c - c0 + 1 by omega, show sl (c + 1) - sl c0 = sl c - sl c0 + (lnT ((c : Int) + 1)).toNat by omega] at hg
      rw [List.map_cons, hv] at hg
      exact hg
    | _ => exact absurd hat (by decide)
  case anewarray i =>
    obtain rfl : len = 3 := by simpa [okI] using hok
    split at h
    · rename_i ci e1
      obtain ⟨n, r, hE, hN⟩ := pI_e h
      clear h
      subst hE
      have h := hN
      clear hN
      obtain ⟨h1, hN⟩ := ckt_e h
      clear h
      have h := hN
      clear hN
      simp only [Bool.and_eq_true, beq_iff_eq] at h1
      obtain rfl : lnT ((c : Int) + 1) = n := h1.2
      have hcw := lk_all2 cw_tab e1
      simp only [Bool.and_eq_true, decide_eq_true_eq] at hcw
      have hta : tyT ((c : Int) + 1) = 40 + ci := h1.1.2
      have hcF := h.1
      have hsl : sl (c + 1) = sl c + (lnT ((c : Int) + 1)).toNat := rfl
      have hsm := sl_mono hcF
      have hsm2 := sl_mono hc
      have hlo := ln_ok ((c : Int) + 1)
      have hnc : (((c + 1 : Nat) : Nat) : Int) = (c : Int) + 1 := by omega
      have hv : cV B ad (2, (c : Int) + 1) = .ref (B + c) := by
        show (if (c : Int) + 1 = 0 then Value.null else .ref (rA B ((c : Int) + 1))) = _
        rw [if_neg (by omega)]
        unfold rA
        rw [show B + (((c : Int) + 1).toNat - 1) = B + c by omega]
      have hneg : ¬ Int32.ofInt (lnT ((c : Int) + 1)) < 0 := fun q => by
        rw [z32, lt32 (by omega) (by decide)] at q
        omega
      have hcl : (Int32.ofInt (lnT ((c : Int) + 1))).toNatClampNeg = (lnT ((c : Int) + 1)).toNat := clamp32 hlo.1 (by omega)
      rcases ty_ref (a := (c : Int) + 1) (by omega) with h3 | h3 | h3
      · obtain rfl : ci = 3 := by omega
        refine va_newq (C := cN 3) hx hb hown (hts _ (inT_mem hcw.1)) hSt.2.1.1 hK hP hD hS hA hneg hcl (by omega) (by omega) (by omega) hdec (fun q cA H1 qK qP qD qS => W_sz (fun hsz => ?_))
        have hq : q = B + c := ws_fresh qP qD (by omega)
        subst hq
        have hcA : cA = dA 43 := by
          have q1 := (qK.2 7 (cA, .object (cN 3)) rfl).2
          have q2 := (hK.2 4 (dA 43, .object (cN 3)) rfl).2
          exact Option.some.inj ((by obtain ⟨_, _, _, _, _, q1⟩ := q1; obtain ⟨_, _, _, _, _, q2⟩ := q2; exact q1.symm.trans q2))
        subst hcA
        have hg := h.2 H1 locs LS (by
          rw [ws_new, cE_ref (by rw [hnc]; omega), hnc]
          have hzf : ∀ j : Nat, zer v ((c : Int) + 1) ((c : Int) + 1) (j : Int) = 0 := fun j => by
            unfold zer
            rw [if_pos rfl]
          simp only [hzf]
          rw [hta]
          exact qP) qS hLS
        rw [show c + 1 - c0 = c - c0 + 1 by omega, show sl (c + 1) - sl c0 = sl c - sl c0 + (lnT ((c : Int) + 1)).toNat by omega] at hg
        rw [List.map_cons, hv] at hg
        exact hg
      · obtain rfl : ci = 8 := by omega
        refine va_newq (C := cN 8) hx hb hown (hts _ (inT_mem hcw.1)) hSt.2.1.2.1 hK hP hD hS hA hneg hcl (by omega) (by omega) (by omega) hdec (fun q cA H1 qK qP qD qS => W_sz (fun hsz => ?_))
        have hq : q = B + c := ws_fresh qP qD (by omega)
        subst hq
        have hcA : cA = dA 48 := by
          have q1 := (qK.2 7 (cA, .object (cN 8)) rfl).2
          have q2 := (hK.2 5 (dA 48, .object (cN 8)) rfl).2
          exact Option.some.inj ((by obtain ⟨_, _, _, _, _, q1⟩ := q1; obtain ⟨_, _, _, _, _, q2⟩ := q2; exact q1.symm.trans q2))
        subst hcA
        have hg := h.2 H1 locs LS (by
          rw [ws_new, cE_ref (by rw [hnc]; omega), hnc]
          have hzf : ∀ j : Nat, zer v ((c : Int) + 1) ((c : Int) + 1) (j : Int) = 0 := fun j => by
            unfold zer
            rw [if_pos rfl]
          simp only [hzf]
          rw [hta]
          exact qP) qS hLS
        rw [show c + 1 - c0 = c - c0 + 1 by omega, show sl (c + 1) - sl c0 = sl c - sl c0 + (lnT ((c : Int) + 1)).toNat by omega] at hg
        rw [List.map_cons, hv] at hg
        exact hg
      · obtain rfl : ci = 9 := by omega
        refine va_newq (C := cN 9) hx hb hown (hts _ (inT_mem hcw.1)) hSt.2.1.2.2 hK hP hD hS hA hneg hcl (by omega) (by omega) (by omega) hdec (fun q cA H1 qK qP qD qS => W_sz (fun hsz => ?_))
        have hq : q = B + c := ws_fresh qP qD (by omega)
        subst hq
        have hcA : cA = dA 49 := by
          have q1 := (qK.2 7 (cA, .object (cN 9)) rfl).2
          have q2 := (hK.2 6 (dA 49, .object (cN 9)) rfl).2
          exact Option.some.inj ((by obtain ⟨_, _, _, _, _, q1⟩ := q1; obtain ⟨_, _, _, _, _, q2⟩ := q2; exact q1.symm.trans q2))
        subst hcA
        have hg := h.2 H1 locs LS (by
          rw [ws_new, cE_ref (by rw [hnc]; omega), hnc]
          have hzf : ∀ j : Nat, zer v ((c : Int) + 1) ((c : Int) + 1) (j : Int) = 0 := fun j => by
            unfold zer
            rw [if_pos rfl]
          simp only [hzf]
          rw [hta]
          exact qP) qS hLS
        rw [show c + 1 - c0 = c - c0 + 1 by omega, show sl (c + 1) - sl c0 = sl c - sl c0 + (lnT ((c : Int) + 1)).toNat by omega] at hg
        rw [List.map_cons, hv] at hg
        exact hg
    · exact h.elim
  case invokevirtual i =>
    obtain rfl : len = 3 := by simpa [okI] using hok
    split at h
    · rename_i y e1
      obtain ⟨bs, r, hE, hbt, hN⟩ := popA_e _ h
      clear h
      subst hE
      have h := hN
      clear hN
      rw [List.append_nil] at h
      obtain ⟨a, As, hbs, h⟩ := hd2_e h
      obtain ⟨h1, hN⟩ := ckt_e h
      clear h
      have h := hN
      clear hN
      obtain ⟨hN, hfull⟩ := may_e h
      clear h
      have h := hN
      clear hN
      obtain ⟨r1, c1, v1, hcl, hgo⟩ := clR_e h
      have hmw := mw e1
      simp only [mwB, Bool.and_eq_true, decide_eq_true_eq] at hmw
      have has : okL c bs.reverse := fun x hx => hst x (List.mem_append_left _ (List.mem_reverse.mp hx))
      have htg : bs.reverse.map (fun x => x.1) = (mTags y).reverse := by rw [List.map_reverse, hbt]
      have hblen : bs.length = (mTags y).length := by rw [← hbt, List.length_map]
      obtain ⟨⟨⟨hy, hl1⟩, hkd⟩, hl5⟩ := hmw
      obtain ⟨hl2, hsel, hl4⟩ := m_k0 hy hkd
      obtain ⟨m1, m2, m3, m4, m5, m6, m7, -⟩ := m_facts hy
      obtain ⟨q1c, -⟩ := hcall y bs.reverse c v r1 c1 v1 hcl has hMm (fun q => by
        rcases hfull q with z | z
        · exact hFf (hf1 z)
        · exact z)
      have hMet := hM y bs.reverse c v r1 c1 v1 hy hcl has htg hMm (fun q => by
        rcases hfull q with z | z
        · exact hFf (hf1 z)
        · exact z)
      have hcF := hgo.1
      have hsm := sl_mono hcF
      have hsm1 := sl_mono q1c
      have hsm2 := sl_mono hc
      have hsh : r.length ≤ 4 := short_len (by simp only [Bool.and_eq_true] at h1; exact h1.1)
      have hcat := cats_le B ad r
      refine W_sz (fun hsz => ?_)
      have hHs := ws_sz hs0 hc hP hS hsz
      have hmap : (bs ++ r).map (cV B ad) = ((bs.reverse.map (cV B ad))).reverse ++ r.map (cV B ad) := by simp
      have hU : ∀ U : State, U.heap = H → s.WarmedH U.vm → PcM B D dA ad bs.reverse c v ((bs.reverse.map (cV B ad)).toArray) U := fun U hU hW => ⟨rfl, by rw [hU]; exact hHs, by rw [hU]; exact hP, va_K.moved hW.alike hK, StrF_move hSt (by rw [hU]; exact hS) hW⟩
      have hroom : d + 8 + 1 ≤ R.frames ∧ 8 + (mMax y + 11) + (64 * d + 512) ≤ R.locals := ⟨by omega, by omega⟩
      have hta : tyT a = 10 + mOwn y := by simp only [Bool.and_eq_true, beq_iff_eq] at h1; exact h1.2
      have ha1 : 1 ≤ a := ty_pos (by omega)
      have hac : a ≤ c := by
        have := has (2, a) (by rw [hbs]; exact List.mem_cons_self)
        exact this.2
      have ha0 : a ≠ 0 := by omega
      have hv : cV B ad (2, a) = .ref (rA B a) := by show (if a = 0 then Value.null else _) = _; rw [if_neg ha0]
      have han : ((a.toNat : Nat) : Int) = a := by omega
      have hget := ws_get (B := B) (dA := dA) (v := v) ha1 hac
      rw [cE_obj (ci := mOwn y) (by rw [han]; exact hta) hl5] at hget
      have hAs : As.length + 1 = (mTags y).length := by
        have := congrArg List.length hbs
        simp at this
        omega
      have hn4 : (parseMethodDescriptor (mN y).desc).map (fun d => d.parameters.length) = some As.length := by
        cases hp : parseMethodDescriptor (mN y).desc with
        | none => rw [hp] at hl4; cases hl4
        | some sg =>
          rw [hp] at hl4
          have : sg.parameters.length + 1 = (mTags y).length := Option.some.inj hl4
          show some sg.parameters.length = some As.length
          congr 1
          omega
      have hcb : CallB R s args (cN own) i (mN y) (mBytes y) (mMax y) (mRT y) (wsM y) (rmD d (c1 - c) (sl c1 - sl c)) (c1 - c) (sl c1 - sl c) As.length := callB_of (ws' := gT) _ hts (m_good hy) (rfl) rfl rfl (hts _ m2) (hts _ (inT_mem hl1)) ⟨m6, m7, hn4⟩ hroom
      have hrv : bs.reverse.map (cV B ad) = .ref (rA B a) :: As.map (cV B ad) := by rw [hbs, List.map_cons, hv]
      rw [hrv] at hU hmap
      rw [hmap, List.reverse_cons, List.append_assoc]
      obtain ⟨rr, z1, cell, z2, z3, z4, z5⟩ := hP (a.toNat - 1) _ hget
      have hrr : rr = (cN (mOwn y), fN (mOwn y), nF (mOwn y)) := Option.some.inj (z1.symm.trans (vcl_get hl5))
      have hfc := (hK.1 (mOwn y) _ (vcl_get hl5)).2.1
      refine x_call (va_runV (As := As.map (cV B ad)) (rest := r.map (cV B ad)) (b := rA B a) (C := (mN y).cls) ⟨hx, hb, hml, hown, hts⟩ hMet ⟨hcb, hts _ hl2, hts _ hsel⟩ ⟨Pc_blind _ _ _ _ _ _ _, ⟨cell, z2, by rw [z4]; rfl, by rw [m3, z3]; exact hfc⟩, hU⟩ rfl (by simp) hLS.2.1 rfl (by show 2 * 0 + _ ≤ 8; omega) hdec ⟨by omega, by omega⟩) (fun rv st₀ t H1 Lk e3 e4 hq hL => ?_)
      obtain ⟨q0, q1, q2, q3⟩ := hq
      have hv0 : rv = r1.map (cV B ad) := by cases q0; rfl
      subst hv0
      have hg := hgo.2 H1 (locs ++ Lk) LS (by rw [← e4]; exact q1) ⟨Nat.le_trans hS.1 (by rw [← e3, ← e4]; exact q2), fun q z1 z2 => by
          rw [← e4, q3 q (by rw [e3]; exact Nat.lt_of_lt_of_le z1 hS.1) z2, e3]
          exact hS.2.1 q z1 z2, fun q hq => by
          rcases List.mem_append.mp hq with z | z
          · exact hS.2.2 q z
          · exact hL q z⟩ hLS
      rw [show c1 - c0 = c - c0 + (c1 - c) by omega, show sl c1 - sl c0 = sl c - sl c0 + (sl c1 - sl c) by omega] at hg
      have hpu : (pushR r1 r).map (cV B ad) = (r1.map (cV B ad)).toList ++ r.map (cV B ad) := by cases r1 <;> rfl
      rw [hpu] at hg
      exact hg
    · rename_i y e1
      obtain ⟨bs, r, hE, hbt, hN⟩ := popA_e _ h
      clear h
      subst hE
      have h := hN
      clear hN
      rw [List.append_nil] at h
      obtain ⟨⟨a, As, hbs⟩, h⟩ := hd3_e h
      obtain ⟨h1, hN⟩ := ckt_e h
      clear h
      have h := hN
      clear hN
      obtain ⟨h, hfull⟩ := may_e h
      obtain ⟨r1, c1, v1, hcl, hgo⟩ := clR_e h
      have hmw := mw e1
      simp only [mwB, Bool.and_eq_true, decide_eq_true_eq] at hmw
      have has : okL c bs.reverse := fun x hx => hst x (List.mem_append_left _ (List.mem_reverse.mp hx))
      have htg : bs.reverse.map (fun x => x.1) = (mTags y).reverse := by rw [List.map_reverse, hbt]
      have hblen : bs.length = (mTags y).length := by rw [← hbt, List.length_map]
      obtain ⟨⟨⟨hy, hl1⟩, hkd⟩, hl5⟩ := hmw
      obtain ⟨hl2, hsel, hl4⟩ := m_k0 hy hkd
      obtain ⟨m1, m2, m3, m4, m5, m6, m7, -⟩ := m_facts hy
      obtain ⟨q1c, -⟩ := hcall y bs.reverse c v r1 c1 v1 hcl has hMm (fun q => by
        rcases hfull q with z | z
        · exact hFf (hf1 z)
        · exact z)
      have hMet := hM y bs.reverse c v r1 c1 v1 hy hcl has htg hMm (fun q => by
        rcases hfull q with z | z
        · exact hFf (hf1 z)
        · exact z)
      have hcF := hgo.1
      have hsm := sl_mono hcF
      have hsm1 := sl_mono q1c
      have hsm2 := sl_mono hc
      have hsh : r.length ≤ 4 := short_len h1
      have hcat := cats_le B ad r
      refine W_sz (fun hsz => ?_)
      have hHs := ws_sz hs0 hc hP hS hsz
      have hmap : (bs ++ r).map (cV B ad) = ((bs.reverse.map (cV B ad))).reverse ++ r.map (cV B ad) := by simp
      have hU : ∀ U : State, U.heap = H → s.WarmedH U.vm → PcM B D dA ad bs.reverse c v ((bs.reverse.map (cV B ad)).toArray) U := fun U hU hW => ⟨rfl, by rw [hU]; exact hHs, by rw [hU]; exact hP, va_K.moved hW.alike hK, StrF_move hSt (by rw [hU]; exact hS) hW⟩
      have hroom : d + 8 + 1 ≤ R.frames ∧ 8 + (mMax y + 11) + (64 * d + 512) ≤ R.locals := ⟨by omega, by omega⟩
      have hk := has (3, a) (by rw [hbs]; exact List.mem_cons_self)
      have hkk : a.toNat < 4 := by have := hk.2; have := hk.1; dsimp only at *; omega
      have hAs : As.length + 1 = (mTags y).length := by
        have := congrArg List.length hbs
        simp at this
        omega
      have hn4 : (parseMethodDescriptor (mN y).desc).map (fun d => d.parameters.length) = some As.length := by
        cases hp : parseMethodDescriptor (mN y).desc with
        | none => rw [hp] at hl4; cases hl4
        | some sg =>
          rw [hp] at hl4
          have : sg.parameters.length + 1 = (mTags y).length := Option.some.inj hl4
          show some sg.parameters.length = some As.length
          congr 1
          omega
      have hcb : CallB R s args (cN own) i (mN y) (mBytes y) (mMax y) (mRT y) (wsM y) (rmD d (c1 - c) (sl c1 - sl c)) (c1 - c) (sl c1 - sl c) As.length := callB_of (ws' := gT) _ hts (m_good hy) rfl rfl rfl (hts _ m2) (hts _ (inT_mem hl1)) ⟨m6, m7, hn4⟩ hroom
      have hrv : bs.reverse.map (cV B ad) = .ref (ad a.toNat) :: As.map (cV B ad) := by rw [hbs, List.map_cons]; rfl
      rw [hrv] at hU hmap
      rw [hmap, List.reverse_cons, List.append_assoc]
      obtain ⟨cell, z2, z3, z4, -⟩ := (hSt.1.1 _ hkk).1.kept hS.2.1
      refine x_call (va_runV (As := As.map (cV B ad)) (rest := r.map (cV B ad)) (b := ad a.toNat) (C := (mN y).cls) ⟨hx, hb, hml, hown, hts⟩ hMet ⟨hcb, hts _ hl2, hts _ hsel⟩ ⟨Pc_blind _ _ _ _ _ _ _, ⟨cell, z2, z3, by rw [m3, hl5]; exact z4⟩, hU⟩ rfl (by simp) hLS.2.1 rfl (by show 2 * 0 + _ ≤ 8; omega) hdec ⟨by omega, by omega⟩) (fun rv st₀ t H1 Lk e3 e4 hq hL => ?_)
      obtain ⟨q0, q1, q2, q3⟩ := hq
      have hv0 : rv = r1.map (cV B ad) := by cases q0; rfl
      subst hv0
      have hg := hgo.2 H1 (locs ++ Lk) LS (by rw [← e4]; exact q1) ⟨Nat.le_trans hS.1 (by rw [← e3, ← e4]; exact q2), fun q z1 z2 => by
          rw [← e4, q3 q (by rw [e3]; exact Nat.lt_of_lt_of_le z1 hS.1) z2, e3]
          exact hS.2.1 q z1 z2, fun q hq => by
          rcases List.mem_append.mp hq with z | z
          · exact hS.2.2 q z
          · exact hL q z⟩ hLS
      rw [show c1 - c0 = c - c0 + (c1 - c) by omega, show sl c1 - sl c0 = sl c - sl c0 + (sl c1 - sl c) by omega] at hg
      have hpu : (pushR r1 r).map (cV B ad) = (r1.map (cV B ad)).toList ++ r.map (cV B ad) := by cases r1 <;> rfl
      rw [hpu] at hg
      exact hg
    · exact h.elim
  case invokestatic i =>
    obtain rfl : len = 3 := by simpa [okI] using hok
    split at h
    · rename_i y e1
      obtain ⟨bs, r, hE, hbt, hN⟩ := popA_e _ h
      clear h
      subst hE
      have h := hN
      clear hN
      rw [List.append_nil] at h
      obtain ⟨h1, hN⟩ := ckt_e h
      clear h
      have h := hN
      clear hN
      obtain ⟨hN, hfull⟩ := may_e h
      clear h
      have h := hN
      clear hN
      obtain ⟨r1, c1, v1, hcl, hgo⟩ := clR_e h
      have hmw := mw e1
      simp only [mwB, Bool.and_eq_true, decide_eq_true_eq] at hmw
      have has : okL c bs.reverse := fun x hx => hst x (List.mem_append_left _ (List.mem_reverse.mp hx))
      have htg : bs.reverse.map (fun x => x.1) = (mTags y).reverse := by rw [List.map_reverse, hbt]
      have hblen : bs.length = (mTags y).length := by rw [← hbt, List.length_map]
      obtain ⟨⟨hy, hl1⟩, hkd⟩ := hmw
      obtain ⟨hl2, hl4⟩ := m_k1 hy hkd
      obtain ⟨m1, m2, m3, m4, m5, m6, m7, -⟩ := m_facts hy
      obtain ⟨q1c, -⟩ := hcall y bs.reverse c v r1 c1 v1 hcl has hMm (fun q => by
        rcases hfull q with z | z
        · exact hFf (hf1 z)
        · exact z)
      have hMet := hM y bs.reverse c v r1 c1 v1 hy hcl has htg hMm (fun q => by
        rcases hfull q with z | z
        · exact hFf (hf1 z)
        · exact z)
      have hcF := hgo.1
      have hsm := sl_mono hcF
      have hsm1 := sl_mono q1c
      have hsm2 := sl_mono hc
      have hsh : r.length ≤ 4 := short_len (by simpa using h1)
      have hcat := cats_le B ad r
      refine W_sz (fun hsz => ?_)
      have hHs := ws_sz hs0 hc hP hS hsz
      have hmap : (bs ++ r).map (cV B ad) = ((bs.reverse.map (cV B ad))).reverse ++ r.map (cV B ad) := by simp
      have hU : ∀ U : State, U.heap = H → s.WarmedH U.vm → PcM B D dA ad bs.reverse c v ((bs.reverse.map (cV B ad)).toArray) U := fun U hU hW => ⟨rfl, by rw [hU]; exact hHs, by rw [hU]; exact hP, va_K.moved hW.alike hK, StrF_move hSt (by rw [hU]; exact hS) hW⟩
      have hroom : d + 8 + 1 ≤ R.frames ∧ 8 + (mMax y + 11) + (64 * d + 512) ≤ R.locals := ⟨by omega, by omega⟩
      have hcb : CallB R s args (cN own) i (mN y) (mBytes y) (mMax y) (mRT y) (wsM y) (rmD d (c1 - c) (sl c1 - sl c)) (c1 - c) (sl c1 - sl c) (mTags y).length := callB_of _ hts (m_good hy) rfl rfl rfl (hts _ m2) (hts _ (inT_mem hl1)) ⟨m6, m7, hl4⟩ hroom
      rw [hmap]
      refine x_call (va_runS (As := bs.reverse.map (cV B ad)) (rest := r.map (cV B ad)) ⟨hx, hb, hml, hown, hts⟩ hMet ⟨hcb, hts _ hl2⟩ ⟨Pc_blind _ _ _ _ _ _ _, hU⟩ rfl (by simp [hblen]) hLS.2.1 rfl (by show 2 * 0 + _ ≤ 8; omega) hdec ⟨by omega, by omega⟩) (fun rv st₀ t H1 Lk e3 e4 hq hL => ?_)
      obtain ⟨q0, q1, q2, q3⟩ := hq
      have hv0 : rv = r1.map (cV B ad) := by cases q0; rfl
      subst hv0
      have hg := hgo.2 H1 (locs ++ Lk) LS (by rw [← e4]; exact q1) ⟨Nat.le_trans hS.1 (by rw [← e3, ← e4]; exact q2), fun q z1 z2 => by
          rw [← e4, q3 q (by rw [e3]; exact Nat.lt_of_lt_of_le z1 hS.1) z2, e3]
          exact hS.2.1 q z1 z2, fun q hq => by
          rcases List.mem_append.mp hq with z | z
          · exact hS.2.2 q z
          · exact hL q z⟩ hLS
      rw [show c1 - c0 = c - c0 + (c1 - c) by omega, show sl c1 - sl c0 = sl c - sl c0 + (sl c1 - sl c) by omega] at hg
      have hpu : (pushR r1 r).map (cV B ad) = (r1.map (cV B ad)).toList ++ r.map (cV B ad) := by cases r1 <;> rfl
      rw [hpu] at hg
      exact hg
    · rename_i z e1
      obtain ⟨n, r, hE, hN⟩ := pI_e h
      clear h
      subst hE
      have h := hN
      clear hN
      obtain ⟨dp, r, hE, hN⟩ := pI_e h
      clear h
      subst hE
      have h := hN
      clear hN
      obtain ⟨de, r, hE, hN⟩ := pR_e h
      clear h
      subst hE
      have h := hN
      clear hN
      obtain ⟨sp, r, hE, hN⟩ := pI_e h
      clear h
      subst hE
      have h := hN
      clear hN
      obtain ⟨so, r, hE, hN⟩ := pR_e h
      clear h
      subst hE
      have h := hN
      clear hN
      obtain ⟨h1, hN⟩ := ckt_e h
      clear h
      have h := hN
      clear hN
      obtain ⟨h2, hN⟩ := chk_e h
      clear h
      have h := hN
      clear hN
      simp only [Bool.and_eq_true, Bool.or_eq_true, beq_iff_eq, Bool.not_eq_true', decide_eq_false_iff_not] at h1
      simp only [Bool.and_eq_true, decide_eq_true_eq] at h2
      obtain ⟨⟨h1a, h1b⟩, h1c⟩ := h1
      obtain ⟨⟨⟨⟨h2a, h2b⟩, h2c⟩, h2d⟩, h2e⟩ := h2
      have hmw := mw e1
      simp only [mwB] at hmw
      have hsh : r.length ≤ 4 := short_len h1b
      have hcat := cats_le B ad r
      have hl1 := ln_ok so
      have hl2 := ln_ok de
      have hso1 : 1 ≤ so := ty_pos (by omega)
      have hde1 : 1 ≤ de := ty_pos (by omega)
      have hsoc : so ≤ c := (okL_hd (okL_tl (okL_tl (okL_tl (okL_tl hst))))).2
      have hdec2 : de ≤ c := (okL_hd (okL_tl (okL_tl hst))).2
      have hvs : cV B ad (2, so) = .ref (rA B so) := by show (if so = 0 then Value.null else _) = _; rw [if_neg (by omega)]
      have hvd : cV B ad (2, de) = .ref (rA B de) := by show (if de = 0 then Value.null else _) = _; rw [if_neg (by omega)]
      have hsn : ((so.toNat : Nat) : Int) = so := by omega
      have hdn : ((de.toNat : Nat) : Int) = de := by omega
      have hgs := ws_get (B := B) (dA := dA) (v := v) hso1 hsoc
      have hgd := ws_get (B := B) (dA := dA) (v := v) hde1 hdec2
      have hcn : (Int32.ofInt n).toNatClampNeg = n.toNat := clamp32 h2a (by omega)
      have hcs : (Int32.ofInt sp).toNatClampNeg = sp.toNat := clamp32 h2b (by omega)
      have hcd : (Int32.ofInt dp).toNatClampNeg = dp.toNat := clamp32 h2c (by omega)
      have ng : ∀ x : Int, 0 ≤ x → x ≤ 2147483647 → ¬ Int32.ofInt x < 0 := fun x q1 q2 q => by
        rw [z32, lt32 (by omega) (by decide)] at q
        omega
      have hnat : nativeFrameWords "java/lang/System" "arraycopy" 5 + 11 ≤ 56 := by decide
      have hgo := h.2
      rw [List.map_cons, List.map_cons, List.map_cons, List.map_cons, List.map_cons, hvs, hvd]
      rcases h1a with ⟨t1, t2⟩ | ⟨t1, t2⟩
      · rw [cE_int (by rw [hsn]; exact Or.inl t1), hsn, t1] at hgs
        rw [cE_int (by rw [hdn]; exact Or.inl t2), hdn, t2] at hgd
        have hset : wsOf B dA c (cpy v so sp de dp n) = (wsOf B dA c v).set (de.toNat - 1) (rA B de, .inl (dA 1, (lnT de).toNat, .inl (va_cpy (fun j => Int32.ofInt (v so j)) (fun j => Int32.ofInt (v de j)) sp.toNat dp.toNat n.toNat))) := by
          rw [ws_chg hde1 hdec2 (cpy_off (v := v) (s := so) (sp := sp) (d := de) (dp := dp) (n := n)), cE_int (by rw [hdn]; exact Or.inl t2), hdn, t2]
          congr 6
          funext j
          unfold cpy va_cpy
          by_cases hj : dp.toNat ≤ j ∧ j < dp.toNat + n.toNat
          · rw [if_pos ⟨rfl, by omega, by omega⟩, if_pos hj, show sp + ((j : Int) - dp) = ((sp.toNat + (j - dp.toNat) : Nat) : Int) by omega]
          · rw [if_neg (by omega), if_neg hj]
        refine va_copyi (ty := .int) hx hb (by rw [hml]; exact hLS.2.1.symm) hown (hts _ (inT_mem hmw)) (hts _ w_cp1) (hts _ w_cp2) (hts _ w_cp3) hK hP hD hS (so.toNat - 1) (de.toNat - 1) 0 0 hgs hgd rfl rfl rfl (ng _ h2b (by omega)) (ng _ h2c (by omega)) (ng _ h2a (by omega)) (by rw [hcs, hcn]; omega) (by rw [hcd, hcn]; omega) (fun _ _ => rfl) (by omega) (by omega) hdec (fun H1 locs1 qP qD qS => hgo H1 locs1 LS ?_ qS hLS)
        rw [hset, ← hcn, ← hcs, ← hcd]
        exact qP
      · rw [cE_long (by rw [hsn]; exact t1), hsn] at hgs
        rw [cE_long (by rw [hdn]; exact t2), hdn] at hgd
        have hset : wsOf B dA c (cpy v so sp de dp n) = (wsOf B dA c v).set (de.toNat - 1) (rA B de, .inl (dA 2, (lnT de).toNat, .inr (.inl (va_cpy (fun j => Int64.ofInt (v so j)) (fun j => Int64.ofInt (v de j)) sp.toNat dp.toNat n.toNat)))) := by
          rw [ws_chg hde1 hdec2 (cpy_off (v := v) (s := so) (sp := sp) (d := de) (dp := dp) (n := n)), cE_long (by rw [hdn]; exact t2), hdn]
          congr 7
          funext j
          unfold cpy va_cpy
          by_cases hj : dp.toNat ≤ j ∧ j < dp.toNat + n.toNat
          · rw [if_pos ⟨rfl, by omega, by omega⟩, if_pos hj, show sp + ((j : Int) - dp) = ((sp.toNat + (j - dp.toNat) : Nat) : Int) by omega]
          · rw [if_neg (by omega), if_neg hj]
        refine va_copyl (ty := .long) hx hb (by rw [hml]; exact hLS.2.1.symm) hown (hts _ (inT_mem hmw)) (hts _ w_cp1) (hts _ w_cp2) (hts _ w_cp3) hK hP hD hS (so.toNat - 1) (de.toNat - 1) 1 1 hgs hgd rfl rfl rfl (ng _ h2b (by omega)) (ng _ h2c (by omega)) (ng _ h2a (by omega)) (by rw [hcs, hcn]; omega) (by rw [hcd, hcn]; omega) (fun _ _ => rfl) (by omega) (by omega) hdec (fun H1 locs1 qP qD qS => hgo H1 locs1 LS ?_ qS hLS)
        rw [hset, ← hcn, ← hcs, ← hcd]
        exact qP
    · exact h.elim
  case invokespecial i =>
    obtain rfl : len = 3 := by simpa [okI] using hok
    split at h
    · rename_i y e1
      obtain ⟨bs, r, hE, hbt, hN⟩ := popA_e _ h
      clear h
      subst hE
      have h := hN
      clear hN
      rw [List.append_nil] at h
      obtain ⟨a, As, hbs, h⟩ := hd2_e h
      obtain ⟨h1, hN⟩ := ckt_e h
      clear h
      have h := hN
      clear hN
      obtain ⟨hN, hfull⟩ := may_e h
      clear h
      have h := hN
      clear hN
      obtain ⟨r1, c1, v1, hcl, hgo⟩ := clR_e h
      have hmw := mw e1
      simp only [mwB, Bool.and_eq_true, decide_eq_true_eq] at hmw
      have has : okL c bs.reverse := fun x hx => hst x (List.mem_append_left _ (List.mem_reverse.mp hx))
      have htg : bs.reverse.map (fun x => x.1) = (mTags y).reverse := by rw [List.map_reverse, hbt]
      have hblen : bs.length = (mTags y).length := by rw [← hbt, List.length_map]
      obtain ⟨⟨hy, hl1⟩, hkd⟩ := hmw
      obtain ⟨hl2, hl3, hl6, hl4, hl5⟩ := m_k2 hy hkd
      obtain ⟨m1, m2, m3, m4, m5, m6, m7, -⟩ := m_facts hy
      obtain ⟨q1c, -⟩ := hcall y bs.reverse c v r1 c1 v1 hcl has hMm (fun q => by
        rcases hfull q with z | z
        · exact hFf (hf1 z)
        · exact z)
      have hMet := hM y bs.reverse c v r1 c1 v1 hy hcl has htg hMm (fun q => by
        rcases hfull q with z | z
        · exact hFf (hf1 z)
        · exact z)
      have hcF := hgo.1
      have hsm := sl_mono hcF
      have hsm1 := sl_mono q1c
      have hsm2 := sl_mono hc
      have hsh : r.length ≤ 4 := short_len (by simp only [Bool.and_eq_true] at h1; exact h1.1)
      have hcat := cats_le B ad r
      refine W_sz (fun hsz => ?_)
      have hHs := ws_sz hs0 hc hP hS hsz
      have hmap : (bs ++ r).map (cV B ad) = ((bs.reverse.map (cV B ad))).reverse ++ r.map (cV B ad) := by simp
      have hU : ∀ U : State, U.heap = H → s.WarmedH U.vm → PcM B D dA ad bs.reverse c v ((bs.reverse.map (cV B ad)).toArray) U := fun U hU hW => ⟨rfl, by rw [hU]; exact hHs, by rw [hU]; exact hP, va_K.moved hW.alike hK, StrF_move hSt (by rw [hU]; exact hS) hW⟩
      have hroom : d + 8 + 1 ≤ R.frames ∧ 8 + (mMax y + 11) + (64 * d + 512) ≤ R.locals := ⟨by omega, by omega⟩
      have hta : tyT a = 10 + mOwn y := by simp only [Bool.and_eq_true, beq_iff_eq] at h1; exact h1.2
      have ha1 : 1 ≤ a := ty_pos (by omega)
      have hac : a ≤ c := by
        have := has (2, a) (by rw [hbs]; exact List.mem_cons_self)
        exact this.2
      have ha0 : a ≠ 0 := by omega
      have hv : cV B ad (2, a) = .ref (rA B a) := by show (if a = 0 then Value.null else _) = _; rw [if_neg ha0]
      have han : ((a.toNat : Nat) : Int) = a := by omega
      have hget := ws_get (B := B) (dA := dA) (v := v) ha1 hac
      rw [cE_obj (ci := mOwn y) (by rw [han]; exact hta) hl5] at hget
      have hAs : As.length + 1 = (mTags y).length := by
        have := congrArg List.length hbs
        simp at this
        omega
      have hn4 : (parseMethodDescriptor (mN y).desc).map (fun d => d.parameters.length) = some As.length := by
        cases hp : parseMethodDescriptor (mN y).desc with
        | none => rw [hp] at hl4; cases hl4
        | some sg =>
          rw [hp] at hl4
          have : sg.parameters.length + 1 = (mTags y).length := Option.some.inj hl4
          show some sg.parameters.length = some As.length
          congr 1
          omega
      have hcb : CallB R s args (cN own) i (mN y) (mBytes y) (mMax y) none (wsM y) (rmD d (c1 - c) (sl c1 - sl c)) (c1 - c) (sl c1 - sl c) As.length := callB_of (ws' := gT) _ hts (m_good hy) (by unfold wsM; rw [hl6]) rfl rfl (hts _ m2) (hts _ (inT_mem hl1)) ⟨m6, m7, hn4⟩ hroom
      have hrv : bs.reverse.map (cV B ad) = .ref (rA B a) :: As.map (cV B ad) := by rw [hbs, List.map_cons, hv]
      rw [hrv] at hU hmap
      rw [hmap, List.reverse_cons, List.append_assoc]
      refine x_call (va_runI (As := As.map (cV B ad)) (rest := r.map (cV B ad)) (b := rA B a) ⟨hx, hb, hml, hown, hts⟩ hMet ⟨hcb, hl3, hts _ hl2⟩ ⟨Pc_blind _ _ _ _ _ _ _, hU⟩ rfl (by simp) hLS.2.1 rfl (by show 2 * 0 + _ ≤ 8; omega) hdec ⟨by omega, by omega⟩) (fun rv st₀ t H1 Lk e3 e4 hq hL => ?_)
      obtain ⟨q0, q1, q2, q3⟩ := hq
      have hv0 : rv = r1.map (cV B ad) := by cases q0; rfl
      subst hv0
      have hg := hgo.2 H1 (locs ++ Lk) LS (by rw [← e4]; exact q1) ⟨Nat.le_trans hS.1 (by rw [← e3, ← e4]; exact q2), fun q z1 z2 => by
          rw [← e4, q3 q (by rw [e3]; exact Nat.lt_of_lt_of_le z1 hS.1) z2, e3]
          exact hS.2.1 q z1 z2, fun q hq => by
          rcases List.mem_append.mp hq with z | z
          · exact hS.2.2 q z
          · exact hL q z⟩ hLS
      rw [show c1 - c0 = c - c0 + (c1 - c) by omega, show sl c1 - sl c0 = sl c - sl c0 + (sl c1 - sl c) by omega] at hg
      have hpu : (pushR r1 r).map (cV B ad) = (r1.map (cV B ad)).toList ++ r.map (cV B ad) := by cases r1 <;> rfl
      rw [hpu] at hg
      exact hg
    · rename_i z e1
      obtain ⟨a, r, hE, hN⟩ := pR_e h
      clear h
      subst hE
      have h := hN
      clear hN
      obtain ⟨h1, hN⟩ := ckt_e h
      clear h
      have h := hN
      clear hN
      have hmw := mw e1
      simp only [mwB] at hmw
      simp only [Bool.and_eq_true, Bool.not_eq_true', decide_eq_false_iff_not] at h1
      have hsh : r.length ≤ 4 := short_len h1.1
      have hcat := cats_le B ad r
      have hg := h.2 H locs LS hP hS hLS
      by_cases ha : a = 0
      · exact absurd ha h1.2
      · have hv : cV B ad (2, a) = .ref (rA B a) := by show (if a = 0 then Value.null else _) = _; rw [if_neg ha]
        rw [List.map_cons, hv]
        refine W.objInit hx hb hown (hts _ (inT_mem hmw)) (hts _ w_obj1) (hts _ w_obj2) rfl (by rw [hml]; exact hLS.2.1) rfl hdec (by omega) ?_ hg
        show 2 * 0 + _ + 12 ≤ _
        omega
    · exact h.elim
  case ireturn =>
    obtain rfl : len = 1 := by simpa [okI] using hok
    obtain ⟨x, rfl, hrt, e1, e2⟩ := endI_e h
    cases e2
    exact hendI x H locs LS pc e1.symm hrt hdec hP hS
  case lreturn =>
    obtain rfl : len = 1 := by simpa [okI] using hok
    obtain ⟨x, rfl, hrt, e1, e2⟩ := endL_e h
    cases e2
    exact hendL x H locs LS pc e1.symm hrt hdec hP hS
  case return_ =>
    obtain rfl : len = 1 := by simpa [okI] using hok
    obtain ⟨rfl, hrt, e1, e2⟩ := endV_e h
    cases e2
    exact hendV H locs LS pc e1.symm hrt hdec hP hS
end SndSi
