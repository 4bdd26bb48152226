def rngc (e : Int) (P : Prop) : Prop := (-2147483648 ≤ e ∧ e ≤ 2147483647) ∧ P
def rngl (e : Int) (P : Prop) : Prop := (-9223372036854775808 ≤ e ∧ e ≤ 9223372036854775807) ∧ P
theorem w32_id {e : Int} (h : -2147483648 ≤ e ∧ e ≤ 2147483647) : w32 e = e := by unfold w32; omega
theorem w64_id {e : Int} (h : -9223372036854775808 ≤ e ∧ e ≤ 9223372036854775807) : w64 e = e := by unfold w64; omega
theorem rngc_e {e : Int} {P : Int → Prop} (h : rngc e (P e)) : P (w32 e) := by rw [w32_id h.1]; exact h.2
theorem rngl_e {e : Int} {P : Int → Prop} (h : rngl e (P e)) : P (w64 e) := by rw [w64_id h.1]; exact h.2
theorem pI_m {st : List sV} {k k' : Int → List sV → Prop} (h : pI st k) (hk : ∀ a r, k a r → k' a r) : pI st k' := by
  unfold pI at h ⊢
  split at h
  · exact hk _ _ h
  · exact h.elim
theorem pL_m {st : List sV} {k k' : Int → List sV → Prop} (h : pL st k) (hk : ∀ a r, k a r → k' a r) : pL st k' := by
  unfold pL at h ⊢
  split at h
  · exact hk _ _ h
  · exact h.elim
theorem gI_m {ls : List sV} {i : Nat} {k k' : Int → Prop} (h : gI ls i k) (hk : ∀ a, k a → k' a) : gI ls i k' := by
  unfold gI at h ⊢
  split at h
  · exact hk _ h
  · exact h.elim
/-- one instruction, sums within their bounds: 'go' where it goes on, 'fin' where the method ends, 'call' for a method of the table -/
def sj (call : Nat → List sV → sM → Option sV → sM → Prop) (L : Nat) (xs : Int → Int) (fm : Nat) (own rt : Nat) (ins : ClassFile.Instr) (len pc : Nat) (ls st : List sV) (c : Nat) (v : sF) (go : Nat → List sV → List sV → Nat → sF → Prop) (fin : Option sV → sM → Prop) : Prop :=
  match ins with
  | .iconst i => go (pc + len) ls ((0, i) :: st) c v
  | .bipush i => go (pc + len) ls ((0, i) :: st) c v
  | .sipush i => go (pc + len) ls ((0, i) :: st) c v
  | .lconst l => go (pc + len) ls ((1, ((l : Nat) : Int)) :: st) c v
  | .ldc i => match lk kTab own i with
    | some (0, x) => go (pc + len) ls ((0, x) :: st) c v
    | some (3, x) => go (pc + len) ls ((3, x) :: st) c v
    | _ => False
  | .ldc_w i => match lk kTab own i with
    | some (0, x) => go (pc + len) ls ((0, x) :: st) c v
    | _ => False
  | .ldc2_w i => match lk kTab own i with
    | some (1, x) => go (pc + len) ls ((1, x) :: st) c v
    | _ => False
  | .iload_n k => gI ls k fun a => go (pc + len) ls ((0, a) :: st) c v
  | .iload k => gI ls k fun a => go (pc + len) ls ((0, a) :: st) c v
  | .lload_n k => gL ls k fun a => go (pc + len) ls ((1, a) :: st) c v
  | .lload k => gL ls k fun a => go (pc + len) ls ((1, a) :: st) c v
  | .aload_n k => gA ls k fun a => go (pc + len) ls (a :: st) c v
  | .aload k => gA ls k fun a => go (pc + len) ls (a :: st) c v
  | .istore_n k => pI st fun a st => go (pc + len) (setL ls k (0, a)) st c v
  | .istore k => pI st fun a st => go (pc + len) (setL ls k (0, a)) st c v
  | .lstore_n k => pL st fun a st => go (pc + len) (setL ls k (1, a) |>.set ((k : Nat) + 1) (9, 0)) st c v
  | .lstore k => pL st fun a st => go (pc + len) (setL ls k (1, a) |>.set (k + 1) (9, 0)) st c v
  | .astore_n k => pR st fun a st => go (pc + len) (setL ls k (2, a)) st c v
  | .astore k => pR st fun a st => go (pc + len) (setL ls k (2, a)) st c v
  | .iinc k n => gI ls k fun a => rngc (a + n) (go (pc + len) (setL ls k (0, a + n)) st c v)
  | .iadd => pI st fun b st => pI st fun a st => rngc (a + b) (go (pc + len) ls ((0, a + b) :: st) c v)
  | .isub => pI st fun b st => pI st fun a st => rngc (a - b) (go (pc + len) ls ((0, a - b) :: st) c v)
  | .imul => pI st fun b st => pI st fun a st => rngc (a * b) (go (pc + len) ls ((0, a * b) :: st) c v)
  | .iand => pI st fun b st => pI st fun a st => go (pc + len) ls ((0, iand a b) :: st) c v
  | .ior => pI st fun b st => pI st fun a st => go (pc + len) ls ((0, ior a b) :: st) c v
  | .ixor => pI st fun b st => pI st fun a st => go (pc + len) ls ((0, ixor a b) :: st) c v
  | .idiv => pI st fun b st => pI st fun a st => chk (!decide (b = 0)) (go (pc + len) ls ((0, w32 (Int.tdiv a b)) :: st) c v)
  | .irem => pI st fun b st => pI st fun a st => chk (!decide (b = 0)) (go (pc + len) ls ((0, Int.tmod a b) :: st) c v)
  | .ineg => pI st fun a st => rngc (-a) (go (pc + len) ls ((0, -a) :: st) c v)
  | .ishl => pI st fun b st => pI st fun a st => go (pc + len) ls ((0, ishl a b) :: st) c v
  | .ishr => pI st fun b st => pI st fun a st => go (pc + len) ls ((0, ishr a b) :: st) c v
  | .iushr => pI st fun b st => pI st fun a st => go (pc + len) ls ((0, iush a b) :: st) c v
  | .ladd => pL st fun b st => pL st fun a st => rngl (a + b) (go (pc + len) ls ((1, a + b) :: st) c v)
  | .lsub => pL st fun b st => pL st fun a st => rngl (a - b) (go (pc + len) ls ((1, a - b) :: st) c v)
  | .lmul => pL st fun b st => pL st fun a st => rngl (a * b) (go (pc + len) ls ((1, a * b) :: st) c v)
  | .land => pL st fun b st => pL st fun a st => go (pc + len) ls ((1, land a b) :: st) c v
  | .lor => pL st fun b st => pL st fun a st => go (pc + len) ls ((1, lor a b) :: st) c v
  | .ldiv => pL st fun b st => pL st fun a st => chk (!decide (b = 0)) (go (pc + len) ls ((1, w64 (Int.tdiv a b)) :: st) c v)
  | .lrem => pL st fun b st => pL st fun a st => chk (!decide (b = 0)) (go (pc + len) ls ((1, Int.tmod a b) :: st) c v)
  | .lshl => pI st fun b st => pL st fun a st => go (pc + len) ls ((1, lshl a b) :: st) c v
  | .lshr => pI st fun b st => pL st fun a st => go (pc + len) ls ((1, lshr a b) :: st) c v
  | .lcmp => pL st fun b st => pL st fun a st => go (pc + len) ls ((0, lcm1 a b) :: st) c v
  | .i2l => pI st fun a st => go (pc + len) ls ((1, a) :: st) c v
  | .l2i => pL st fun a st => rngc a (go (pc + len) ls ((0, a) :: st) c v)
  | .i2b => pI st fun a st => go (pc + len) ls ((0, w8 a) :: st) c v
  | .i2s => pI st fun a st => go (pc + len) ls ((0, w16 a) :: st) c v
  | .i2c => pI st fun a st => go (pc + len) ls ((0, a % 65536) :: st) c v
  | .dup => match st with
    | (0, a) :: r => go (pc + len) ls ((0, a) :: (0, a) :: r) c v
    | (2, a) :: r => go (pc + len) ls ((2, a) :: (2, a) :: r) c v
    | _ => False
  | .dup2 => match st with
    | (0, b) :: (2, a) :: r => go (pc + len) ls ((0, b) :: (2, a) :: (0, b) :: (2, a) :: r) c v
    | _ => False
  | .pop => match st with
    | (0, _) :: r => go (pc + len) ls r c v
    | (2, _) :: r => go (pc + len) ls r c v
    | _ => False
  | .pop2 => match st with
    | (1, _) :: r => go (pc + len) ls r c v
    | _ => False
  | .ifCond cc o => pI st fun a st => brb (cmpI cc a 0) (go (tgt pc o) ls st c v) (go (pc + len) ls st c v)
  | .if_icmp cc o => pI st fun b st => pI st fun a st => brb (cmpI cc a b) (go (tgt pc o) ls st c v) (go (pc + len) ls st c v)
  | .ifnull o => pR st fun a st => brb (decide (a = 0)) (go (tgt pc o) ls st c v) (go (pc + len) ls st c v)
  | .ifnonnull o => pR st fun a st => brb (decide (a = 0)) (go (pc + len) ls st c v) (go (tgt pc o) ls st c v)
  | .goto o => go (tgt pc o) ls st c v
  | .tableswitch d lo _ offs => pI st fun x st => tsw x pc d (fun q => go q ls st c v) lo offs.toList
  | .lookupswitch d ps => pI st fun x st => lsw x pc d (fun q => go q ls st c v) ps.toList
  | .getfield i => match lk fTab own i with
    | some (ci, k) => pR st fun a st => ckt (tyT a == 10 + ci) (match rdF fm ci k with
      | (1, o) => go (pc + len) ls ((2, a + o) :: st) c v
      | (2, o) => go (pc + len) ls ((2, o) :: st) c v
      | _ => go (pc + len) ls ((fTag ci k % 4, v a k) :: st) c v)
    | none => match lk sfTab own i with
      | some 0 => pS st fun k st => go (pc + len) ls ((5, k) :: st) c v
      | some 1 => pS st fun _ st => go (pc + len) ls ((0, 0) :: st) c v
      | _ => False
  | .getstatic i => match lk gTab own i with
    | some 0 => go (pc + len) ls ((0, 1) :: st) c v
    | some 1 => go (pc + len) ls ((6, 0) :: st) c v
    | _ => False
  | .putfield i => match lk fTab own i with
    | some (ci, k) => ckt (fm == 0 || !isSt ci k) (match fTag ci k with
      | 0 => pI st fun x st => pR st fun a st => ckt (tyT a == 10 + ci) (go (pc + len) ls st c (up v a k x))
      | 1 => pL st fun x st => pR st fun a st => ckt (tyT a == 10 + ci) (go (pc + len) ls st c (up v a k x))
      | 2 => pR st fun x st => pR st fun a st => ckt (tyT a == 10 + ci) (go (pc + len) ls st c (up v a k x))
      | 4 => pI st fun x st => pR st fun a st => ckt (tyT a == 10 + ci) (chk (decide (x = 0) || decide (x = 1)) (go (pc + len) ls st c (up v a k x)))
      | _ => False)
    | none => False
  | .arraylength => match st with
    | (2, a) :: r => ckt (decide (tyT a = 1) || decide (tyT a = 3)) (go (pc + len) ls ((0, lnT a) :: r) c v)
    | (4, _) :: r => ckt (decide (0 < L)) (go (pc + len) ls ((0, (L : Int) - 1) :: r) c v)
    | (5, k) :: r => go (pc + len) ls ((0, (((sTab.getD k.toNat []).length : Nat) : Int)) :: r) c v
    | _ => False
  | .iaload => pI st fun i st => match st with
    | (2, a) :: r => ckt (tyT a == 1) (chk (inb i (lnT a)) (go (pc + len) ls ((0, v a i) :: r) c v))
    | (4, _) :: r => chk (inb i ((L : Int) - 1)) (go (pc + len) ls ((0, xs i) :: r) c v)
    | _ => False
  | .baload => pI st fun i st => match st with
    | (2, a) :: r => ckt (tyT a == 3 || tyT a == 4) (chk (inb i (lnT a)) (go (pc + len) ls ((0, v a i) :: r) c v))
    | (5, k) :: r => chk (inb i ((sTab.getD k.toNat []).length : Nat)) (go (pc + len) ls ((0, (sTab.getD k.toNat []).getD i.toNat 0) :: r) c v)
    | _ => False
  | .laload => pI st fun i st => pR st fun a st => ckt (tyT a == 2) (chk (inb i (lnT a)) (go (pc + len) ls ((1, v a i) :: st) c v))
  | .aaload => pI st fun i st => pR st fun a st => ckt (decide (40 ≤ tyT a)) (chk (inb i (lnT a)) (match rdA fm a with
      | some (b, s) => go (pc + len) ls ((2, b + s * i) :: st) c v
      | none => go (pc + len) ls ((2, v a i) :: st) c v))
  | .iastore => pI st fun x st => pI st fun i st => pR st fun a st => ckt (tyT a == 1) (chk (inb i (lnT a)) (go (pc + len) ls st c (up v a i x)))
  | .lastore => pL st fun x st => pI st fun i st => pR st fun a st => ckt (tyT a == 2) (chk (inb i (lnT a)) (go (pc + len) ls st c (up v a i x)))
  | .bastore => pI st fun x st => pI st fun i st => pR st fun a st => ckt (tyT a == 3 || (tyT a == 4 && (decide (x = 0) || decide (x = 1)))) (chk (inb i (lnT a)) (go (pc + len) ls st c (up v a i (w8 x))))
  | .aastore => ckt (nk fm) (pR st fun x st => pI st fun i st => pR st fun a st => ckt (decide (40 ≤ tyT a) && tyT x + 30 == tyT a) (chk (inb i (lnT a)) (go (pc + len) ls st c (up v a i x))))
  | .new i => match lk cTab own i with
    | some ci => ckt (nk fm) (ckt (tyT ((c : Int) + 1) == 10 + ci) (go (pc + len) ls ((2, (c : Int) + 1) :: st) (c + 1) (zer v ((c : Int) + 1))))
    | none => False
  | .newarray t => pI st fun n st => ckt (nk fm && tyT ((c : Int) + 1) == atC t && lnT ((c : Int) + 1) == n) (go (pc + len) ls ((2, (c : Int) + 1) :: st) (c + 1) (zer v ((c : Int) + 1)))
  | .anewarray i => match lk cTab own i with
    | some ci => pI st fun n st => ckt (nk fm && tyT ((c : Int) + 1) == 40 + ci && lnT ((c : Int) + 1) == n) (go (pc + len) ls ((2, (c : Int) + 1) :: st) (c + 1) (zer v ((c : Int) + 1)))
    | none => False
  | .invokevirtual i => match lk mTab own i with
    | some (0, y) => popA (mTags y) st [] fun as st => hd2 as fun a => ckt (short st && tyT a == 10 + mOwn y) (may fm (mFm y) (c, v) (clR call (mRet y) y as (c, v) fun r c v => go (pc + len) ls (pushR r st) c v))
    | some (3, y) => popA (mTags y) st [] fun as st => hd3 as (ckt (short st) (may fm (mFm y) (c, v) (clR call (mRet y) y as (c, v) fun r c v => go (pc + len) ls (pushR r st) c v)))
    | _ => False
  | .invokestatic i => match lk mTab own i with
    | some (1, y) => popA (mTags y) st [] fun as st => ckt (short st) (may fm (mFm y) (c, v) (clR call (mRet y) y as (c, v) fun r c v => go (pc + len) ls (pushR r st) c v))
    | some (8, _) => pI st fun n st => pI st fun dp st => pR st fun d st => pI st fun sp st => pR st fun s st =>
        ckt ((tyT s == 1 && tyT d == 1 || tyT s == 2 && tyT d == 2) && (short st) && !decide (s = d)) (chk (decide (0 ≤ n) && decide (0 ≤ sp) && decide (0 ≤ dp) && decide (sp + n ≤ lnT s) && decide (dp + n ≤ lnT d)) (go (pc + len) ls st c (cpy v s sp d dp n)))
    | _ => False
  | .invokespecial i => match lk mTab own i with
    | some (2, y) => popA (mTags y) st [] fun as st => hd2 as fun a => ckt (short st && tyT a == 10 + mOwn y) (may fm (mFm y) (c, v) (clR call (mRet y) y as (c, v) fun r c v => go (pc + len) ls (pushR r st) c v))
    | some (9, _) => pR st fun a st => ckt (short st && !decide (a = 0)) (go (pc + len) ls st c v)
    | _ => False
  | .ireturn => endI rt st fun r => fin r (c, v)
  | .lreturn => endL rt st fun r => fin r (c, v)
  | .return_ => endV rt st fun r => fin r (c, v)
  | _ => False


set_option maxHeartbeats 8000000 in
set_option maxRecDepth 20000 in
theorem sj_si {call : sK} {L : Nat} {xs : Int → Int} {fm own rt : Nat} {ins : ClassFile.Instr} {len pc : Nat} {ls st : List sV} {c : Nat} {v : sF} {go : sG} {fin : sQ} (h : sj call L xs fm own rt ins len pc ls st c v go fin) : si call L xs fm own rt ins len pc ls st c v go fin := by
  cases ins <;> first
    | exact h
    | (unfold sj at h; unfold si; exact pI_m h fun b r h => pI_m h fun a r2 h => rngc_e (P := fun z => go (pc + len) ls ((0, z) :: r2) c v) h)
    | (unfold sj at h; unfold si; exact pL_m h fun b r h => pL_m h fun a r2 h => rngl_e (P := fun z => go (pc + len) ls ((1, z) :: r2) c v) h)
    | (unfold sj at h; unfold si; exact pI_m h fun a r h => rngc_e (P := fun z => go (pc + len) ls ((0, z) :: r) c v) h)
    | (unfold sj at h; unfold si; exact pL_m h fun a r h => rngc_e (P := fun z => go (pc + len) ls ((0, z) :: r) c v) h)
    | (rename_i k n; unfold sj at h; unfold si; exact gI_m h fun a h => rngc_e (P := fun z => go (pc + len) (setL ls k (0, z)) st c v) h)
def sy (call : sK) (L : Nat) (xs : Int → Int) (y : Nat) (Q : sQ) (stop : List (Nat × List Nat)) : Nat → Nat → List sV → List sV → Nat → sF → Prop
  | 0 => fun _ _ _ _ _ => False
  | n + 1 => fun pc ls st c v => match cdAt (mCode y) pc with
    | some (ins, len) => sj call L xs (mFm y) (mOwn y) (mRet y) ins len pc ls st c v (fun pc ls st c v => match stop.find? (fun q => q.1 == pc) with
      | some q => Wp call L xs y Q pc (killL q.2 ls) st c v
      | none => sy call L xs y Q stop n pc ls st c v) Q
    | none => False
theorem sy_sound {call : sK} {L : Nat} {xs : Int → Int} {y : Nat} {Q : sQ} (stop : List (Nat × List Nat)) (n : Nat) : ∀ {pc : Nat} {ls st : List sV} {c : Nat} {v : sF}, sy call L xs y Q stop n pc ls st c v → Wp call L xs y Q pc ls st c v := by
  induction n with
  | zero => intro pc ls st c v h; exact h.elim
  | succ n ih =>
    intro pc ls st c v h
    unfold sy at h
    cases hc : cdAt (mCode y) pc with
    | none => rw [hc] at h; exact h.elim
    | some il =>
      obtain ⟨ins, len⟩ := il
      rw [hc] at h
      have h := sj_si h
      rcases si_lin call L xs (mFm y) (mOwn y) (mRet y) ins len pc ls st c v _ _ h with ⟨pc', ls', st', c', v', h1, h2⟩ | ⟨r, μ, h1, h2⟩
      · have hw : Wp call L xs y Q pc' ls' st' c' v' := by
          split at h1
          · obtain ⟨m, hm⟩ := h1
            exact ⟨m, rn_lle (lle_killL _ (lle_rf _)) hm⟩
          · exact ih h1
        obtain ⟨m, hm⟩ := hw
        refine ⟨m + 1, ?_⟩
        unfold rn
        rw [hc]
        exact h2 _ _ hm
      · refine ⟨1, ?_⟩
        unfold rn
        rw [hc]
        exact h2 _ _ h1
theorem Ev_of {d y : Nat} {as ls : List sV} {c : Nat} {v : sF} {r : Option sV} {μ : sM} (hl : loc0 as (mMax y) = ls) (h : Wp (Ev d) 0 (fun _ => 0) y (fun r2 μ2 => r2 = r ∧ μ2 = μ) 0 ls [] c v) : Ev (d + 1) y as (c, v) r μ := by
  subst hl
  exact h
theorem brbI {p : Prop} [Decidable p] {P Q : Prop} (h1 : p → P) (h2 : ¬ p → Q) : brb (decide p) P Q := by
  by_cases h : p
  · rw [decide_eq_true h]; exact h1 h
  · rw [decide_eq_false h]; exact h2 h
theorem brbN {p : Prop} [Decidable p] {P Q : Prop} (h1 : ¬ p → P) (h2 : p → Q) : brb (!decide p) P Q := by
  by_cases h : p
  · rw [decide_eq_true h]; exact h2 h
  · rw [decide_eq_false h]; exact h1 h
theorem chkI {b : Bool} {P : Prop} (hb : b = true) (h : P) : chk b P := by subst hb; exact h
theorem cktI {b : Bool} {P : Prop} (hb : b = true) (h : P) : ckt b P := by subst hb; exact h
theorem inbI {i n : Int} (h0 : 0 ≤ i) (h1 : i < n) : inb i n = true := by unfold inb; simp [h0, h1]
theorem rngI {e : Int} {P : Prop} (h1 : -2147483648 ≤ e ∧ e ≤ 2147483647) (h : P) : rngc e P := ⟨h1, h⟩
theorem rnlI {e : Int} {P : Prop} (h1 : -9223372036854775808 ≤ e ∧ e ≤ 9223372036854775807) (h : P) : rngl e P := ⟨h1, h⟩
theorem chkN {p : Prop} [Decidable p] {P : Prop} (hb : ¬ p) (h : P) : chk (!decide p) P := by rw [decide_eq_false hb]; exact h
