section OkAll
def okC (m : sT) : Bool := (List.range (16 * m.2.1.length)).all (fun pc => match cdAt m.2.1 pc with
  | none => true
  | some q => okI pc q.1 q.2 && okS m.2.2.1 q.1 && okP m.1 m.2.2.2.2.2 q.1)
theorem okC0 : (mtab.getD 0 []).all okC = true := by decide +kernel
theorem okC1 : (mtab.getD 1 []).all okC = true := by decide +kernel
theorem okC2 : (mtab.getD 2 []).all okC = true := by decide +kernel
theorem okC3 : (mtab.getD 3 []).all okC = true := by decide +kernel
theorem okC4 : (mtab.getD 4 []).all okC = true := by decide +kernel
theorem okC5 : (mtab.getD 5 []).all okC = true := by decide +kernel
theorem okC6 : (mtab.getD 6 []).all okC = true := by decide +kernel
theorem okC7 : (mtab.getD 7 []).all okC = true := by decide +kernel
theorem okC8 : (mtab.getD 8 []).all okC = true := by decide +kernel
theorem okC9 : (mtab.getD 9 []).all okC = true := by decide +kernel
theorem okC10 : (mtab.getD 10 []).all okC = true := by decide +kernel
theorem okC11 : (mtab.getD 11 []).all okC = true := by decide +kernel
theorem okC12 : (mtab.getD 12 []).all okC = true := by decide +kernel
theorem okC13 : (mtab.getD 13 []).all okC = true := by decide +kernel
theorem okC14 : (mtab.getD 14 []).all okC = true := by decide +kernel
theorem okC15 : (mtab.getD 15 []).all okC = true := by decide +kernel
theorem okC16 : (mtab.getD 16 []).all okC = true := by decide +kernel
theorem okC17 : (mtab.getD 17 []).all okC = true := by decide +kernel
theorem okC18 : (mtab.getD 18 []).all okC = true := by decide +kernel
theorem okC19 : (mtab.getD 19 []).all okC = true := by decide +kernel
theorem okC_b : ∀ j, (mtab.getD j []).all okC = true
  | 0 => okC0
  | 1 => okC1
  | 2 => okC2
  | 3 => okC3
  | 4 => okC4
  | 5 => okC5
  | 6 => okC6
  | 7 => okC7
  | 8 => okC8
  | 9 => okC9
  | 10 => okC10
  | 11 => okC11
  | 12 => okC12
  | 13 => okC13
  | 14 => okC14
  | 15 => okC15
  | 16 => okC16
  | 17 => okC17
  | 18 => okC18
  | 19 => okC19
  | n + 20 => by
    have h : mtab.length = 20 := by decide +kernel
    rw [List.getD_eq_getElem?_getD, List.getElem?_eq_none (by omega)]
    rfl
theorem ins_ok {y pc len : Nat} {ins : ClassFile.Instr} (h : cdAt (mCode y) pc = some (ins, len)) : okI pc ins len = true ∧ okS (mMax y) ins = true ∧ okP (mOwn y) (mFm y) ins = true := by
  by_cases hr : y % 16 < (mtab.getD (y / 16) []).length
  · have hm : mT y ∈ mtab.getD (y / 16) [] := by
      unfold mT
      rw [List.getD_eq_getElem?_getD (l := mtab.getD (y / 16) []), List.getElem?_eq_getElem hr]
      exact List.getElem_mem hr
    have h1 := List.all_eq_true.mp (okC_b (y / 16)) _ hm
    have h2 := List.all_eq_true.mp h1 pc (List.mem_range.mpr (cdAt_lt h))
    rw [show (mT y).2.1 = mCode y from rfl, h] at h2
    simp only [Bool.and_eq_true] at h2
    exact ⟨h2.1.1, h2.1.2, h2.2⟩
  · have hm : mT y = (99, [], 0, [], 99, 0) := by
      unfold mT
      rw [List.getD_eq_getElem?_getD (l := mtab.getD (y / 16) []), List.getElem?_eq_none (by omega)]
      rfl
    unfold mCode at h
    rw [hm] at h
    exact absurd h (by simp [cdAt])
end OkAll
section EvOk
theorem okL_spread {c : Nat} {as : List sV} (h : okL c as) : okL c (spread as) := by
  induction as with
  | nil => exact h
  | cons x r ih =>
    obtain ⟨t, x⟩ := x
    have h1 := okL_hd h
    have h2 := ih (okL_tl h)
    unfold spread
    split
    · exact fun _ hm => absurd hm List.not_mem_nil
    · rename_i e
      cases e
      exact okL_cons h1 (okL_cons (okV_9 c) h2)
    · rename_i e
      cases e
      exact okL_cons h1 h2
theorem okL_loc0 {c n : Nat} {as : List sV} (h : okL c as) : okL c (loc0 as n) := by
  intro x hx
  unfold loc0 at hx
  rcases List.mem_append.mp hx with h1 | h1
  · exact okL_spread h x h1
  · rw [List.eq_of_mem_replicate h1]
    exact okV_9 c
theorem rn_inv {call : sK} (hcall : callOk call) {L : Nat} {xs : Int → Int} (hL : L < 2147483648) (hxs : ∀ i, -2147483648 ≤ xs i ∧ xs i ≤ 2147483647) {y : Nat} {ff : Prop} (hf1 : mFm y = 1 → ff) (hf2 : ff → mFm y = 1 ∨ mFm y = 2) {c0 : Nat} {Q : sQ} : ∀ {n pc : Nat} {ls st : List sV} {c : Nat} {v : sF}, rn call L xs y Q n pc ls st c v → Inv c0 ff ls st c v → rn call L xs y (fun r μ => JJ c0 ff r μ ∧ Q r μ) n pc ls st c v := by
  intro n
  induction n with
  | zero => intro pc ls st c v h; exact h.elim
  | succ n ih =>
    intro pc ls st c v h hI
    unfold rn at h ⊢
    cases hc : cdAt (mCode y) pc with
    | none => rw [hc] at h; exact h.elim
    | some il =>
      obtain ⟨ins, len⟩ := il
      rw [hc] at h
      have h1 := si_inv (own := mOwn y) (rt := mRet y) hcall hL hxs hf1 hf2 ins len pc (ins_ok hc).1 ls st c v hI _ _ h
      rcases si_lin call L xs (mFm y) (mOwn y) (mRet y) ins len pc ls st c v _ _ h1 with ⟨pc', ls', st', c', v', ⟨hI', hrn⟩, hall⟩ | ⟨r, μ, hJ, hall⟩
      · exact hall _ _ (ih hrn hI')
      · exact hall _ _ hJ
theorem ev_ok : ∀ d, callOk (Ev d) := by
  intro d
  induction d with
  | zero => intro y as c v r c' v' h; exact h.elim
  | succ d ih =>
    intro y as c v r c' v' h has hM hF
    obtain ⟨n, h⟩ := h
    have key : ∀ ff : Prop, (mFm y = 1 → ff) → (ff → mFm y = 1 ∨ mFm y = 2) → (ff → FullP (c, v)) → JJ c ff r (c', v') := by
      intro ff hf1 hf2 hf3
      have h2 := rn_inv ih (by decide) (fun _ => by decide) hf1 hf2 (c0 := c) h ⟨Nat.le_refl c, okL_loc0 has, fun _ hm => absurd hm List.not_mem_nil, hM, hf3⟩
      obtain ⟨r2, μ2, ⟨hJ, e1, e2⟩, -⟩ := rn_det h2
      subst e1; subst e2
      exact hJ
    have k1 := key (mFm y = 1) (fun q => q) (fun q => Or.inl q) hF
    refine ⟨k1.1, k1.2.1, k1.2.2.1, k1.2.2.2, fun q2 qF => ?_⟩
    have k2 := key (mFm y = 1 ∨ mFm y = 2) Or.inl (fun q => q) (fun _ => qF)
    exact k2.2.2.2 (Or.inr q2)
end EvOk
section SndRn
variable {p : Program} {l : Launch} {e : Env} {R : Room} {s : State} {m : MethodId} {args : Array Value} {below : List Frame} {meth : Method} {cd : Code} {Q : State → Prop}
theorem snd_rn {call : sK} {B : Nat} {D : va_G} {dA : Nat → ClassId} {ad : Nat → Nat} {L : Nat} {xs : Int → Int} {y d c0 cF nL : Nat} {vF : sF} {rF : Option sV} {ff : Prop} {bytes : ByteArray}
    (hx : p.tables.exec = Jvm.exec) (hb : cd.code = bytes) (hml : cd.maxLocals = nL) (hown : s.vm.findClass (cN (mOwn y)) = some m.cls) (hts : ∀ w ∈ gT, w.before args s = true) (hK : va_K D vcl (tysOf dA) s) (hs0 : s.heap.size = B + c0) (hSt : StrF B ad s) (hini : mFm y = 0 → meth.name = "<init>") (hRf : d + 9 ≤ R.frames) (hRl : 64 * d + 576 ≤ R.locals) (hRc : cF - c0 ≤ R.cells) (hRs : sl cF - sl c0 ≤ R.slots)
    (hcall : callOk call) (hM : callMm B D dA ad l d call)
    (hscr : 0 < L → ∃ xs' : Nat → Int32, va_X (ad 9) (L - 1) xs' s s.heap ∧ ad 9 < s.heap.size ∧ ¬ B ≤ ad 9 ∧ L ≤ 3073 ∧ ∀ i : Int, 0 ≤ i → i < (L : Int) - 1 → xs i = (xs' i.toNat).toInt)
    (hs3 : ∀ (i k : Nat) (rest : List Value) (H : Heap) (locs : List Loc) (LS : Array Slot) (pc cells slots : Nat), lk kTab (mOwn y) i = some (3, (k : Int)) → k < 4 → decode bytes pc = .ok (.ldc i, 2) → W p l e R s m args below meth cd H locs cells slots Q (F0 m (pc + 2) LS (.ref (ad k) :: rest)) → W p l e R s m args below meth cd H locs cells slots Q (F0 m pc LS rest))
    (hendI : ∀ (x : Int) (H : Heap) (locs : List Loc) (LS : Array Slot) (pc : Nat), rF = some (0, x) → (mRet y = 0 ∨ (mRet y = 6 ∧ (x = 0 ∨ x = 1)) ∨ (mRet y = 7 ∧ -128 ≤ x ∧ x ≤ 127) ∨ (mRet y = 8 ∧ 0 ≤ x ∧ x ≤ 65535)) → decode bytes pc = .ok (.ireturn, 1) → va_P D vcl (wsOf B dA cF vF) H → va_S (fun q => B ≤ q) s.heap H locs → W p l e R s m args below meth cd H locs (cF - c0) (sl cF - sl c0) Q (F0 m pc LS [.int (Int32.ofInt x)]))
    (hendL : ∀ (x : Int) (H : Heap) (locs : List Loc) (LS : Array Slot) (pc : Nat), rF = some (1, x) → mRet y = 1 → decode bytes pc = .ok (.lreturn, 1) → va_P D vcl (wsOf B dA cF vF) H → va_S (fun q => B ≤ q) s.heap H locs → W p l e R s m args below meth cd H locs (cF - c0) (sl cF - sl c0) Q (F0 m pc LS [.long (Int64.ofInt x)]))
    (hendV : ∀ (H : Heap) (locs : List Loc) (LS : Array Slot) (pc : Nat), rF = none → mRet y = 5 → decode bytes pc = .ok (.return_, 1) → va_P D vcl (wsOf B dA cF vF) H → va_S (fun q => B ≤ q) s.heap H locs → W p l e R s m args below meth cd H locs (cF - c0) (sl cF - sl c0) Q (F0 m pc LS []))
    (hcode : ∀ pc ins len, cdAt (mCode y) pc = some (ins, len) → decode bytes pc = .ok (ins, len) ∧ okS nL ins = true) (hL : L < 2147483648) (hxs : ∀ i, -2147483648 ≤ xs i ∧ xs i ≤ 2147483647) (hf1 : mFm y = 1 → ff) (hf2 : ff → mFm y = 1 ∨ mFm y = 2) :
    ∀ {n pc : Nat} {ls st : List sV} {c : Nat} {v : sF}, rn call L xs y (fun r μ => r = rF ∧ μ = (cF, vF)) n pc ls st c v → Inv c0 ff ls st c v → c ≤ cF ∧ ∀ (H : Heap) (locs : List Loc) (LS : Array Slot), va_P D vcl (wsOf B dA c v) H → va_S (fun q => B ≤ q) s.heap H locs → LSok B ad nL LS ls → W p l e R s m args below meth cd H locs (c - c0) (sl c - sl c0) Q (F0 m pc LS (st.map (cV B ad))) := by
  intro n
  induction n with
  | zero => intro pc ls st c v h; exact h.elim
  | succ n ih =>
    intro pc ls st c v h hI
    unfold rn at h
    cases hc : cdAt (mCode y) pc with
    | none => rw [hc] at h; exact h.elim
    | some il =>
      obtain ⟨ins, len⟩ := il
      rw [hc] at h
      obtain ⟨hd1, hd2⟩ := hcode pc ins len hc
      have h1 := si_inv (c0 := c) (own := mOwn y) (rt := mRet y) hcall hL hxs hf1 hf2 ins len pc (ins_ok hc).1 ls st c v ⟨Nat.le_refl c, hI.2⟩ _ _ h
      rcases si_lin call L xs (mFm y) (mOwn y) (mRet y) ins len pc ls st c v _ _ h1 with ⟨pc', ls', st', c', v', ⟨hI', hrn⟩, hall⟩ | ⟨r, μ, ⟨hJ, hq⟩, hall⟩
      · have ih2 := ih hrn ⟨Nat.le_trans hI.1 hI'.1, hI'.2⟩
        refine ⟨Nat.le_trans hI'.1 ih2.1, fun H locs LS hP hS hLS => ?_⟩
        exact snd_si hx hb hml hown hts hK hs0 hSt hini hRf hRl hRc hRs hcall hM hscr hs3 hendI hendL hendV hd1 (ins_ok hc).1 hd2 (ins_ok hc).2.2 hI hf1 (hall _ _ ih2) hP hS hLS
      · refine ⟨by rw [hq.2] at hJ; exact hJ.1, fun H locs LS hP hS hLS => ?_⟩
        exact snd_si hx hb hml hown hts hK hs0 hSt hini hRf hRl hRc hRs hcall hM hscr hs3 hendI hendL hendV hd1 (ins_ok hc).1 hd2 (ins_ok hc).2.2 hI hf1 (hall _ _ hq) hP hS hLS
end SndRn
