/-! THE PICTURE MACHINE: frames of tagged whole numbers over a memory of whole numbers. Values: (0, int), (1, long), (2, reference: 0 null, else the cell's number), (3, a text constant's number), (4, the script), (9, nothing). -/
abbrev sV : Type := Nat × Int
abbrev sF : Type := Int → Int → Int
abbrev sM : Type := Nat × sF
def w32 (x : Int) : Int := (x + 2147483648) % 4294967296 - 2147483648
def w64 (x : Int) : Int := (x + 9223372036854775808) % 18446744073709551616 - 9223372036854775808
def w8 (x : Int) : Int := (x + 128) % 256 - 128
def w16 (x : Int) : Int := (x + 32768) % 65536 - 32768
def iand (a b : Int) : Int := (Int32.ofInt a &&& Int32.ofInt b).toInt
def ior (a b : Int) : Int := (Int32.ofInt a ||| Int32.ofInt b).toInt
def ixor (a b : Int) : Int := (Int32.ofInt a ^^^ Int32.ofInt b).toInt
def land (a b : Int) : Int := (Int64.ofInt a &&& Int64.ofInt b).toInt
def lor (a b : Int) : Int := (Int64.ofInt a ||| Int64.ofInt b).toInt
def ishl (a b : Int) : Int := (Int32.ofInt a <<< (Int32.ofInt b &&& 31)).toInt
def ishr (a b : Int) : Int := (Int32.ofInt a >>> (Int32.ofInt b &&& 31)).toInt
def iush (a b : Int) : Int := ((Int32.ofInt a).toUInt32 >>> ((Int32.ofInt b).toUInt32 &&& Int32.toUInt32 31)).toInt32.toInt
def lshl (a b : Int) : Int := (Int64.ofInt a <<< ((Int32.ofInt b).toInt64 &&& 63)).toInt
def lshr (a b : Int) : Int := (Int64.ofInt a >>> ((Int32.ofInt b).toInt64 &&& 63)).toInt
def lcm1 (a b : Int) : Int := if a < b then -1 else if a = b then 0 else 1
noncomputable def chk (b : Bool) (P : Prop) : Prop := Bool.rec False P b
noncomputable def ckt (b : Bool) (P : Prop) : Prop := Bool.rec False P b
noncomputable def brb (b : Bool) (P Q : Prop) : Prop := Bool.rec Q P b
def inb (i n : Int) : Bool := decide (0 ≤ i) && decide (i < n)
def up (v : sF) (k i x : Int) : sF := fun a b => if a = k ∧ b = i then x else v a b
def cpy (v : sF) (s sp d dp n : Int) : sF := fun a b => if a = d ∧ dp ≤ b ∧ b < dp + n then v s (sp + (b - dp)) else v a b
def zer (v : sF) (k : Int) : sF := fun a b => if a = k then 0 else v a b
def pI (st : List sV) (k : Int → List sV → Prop) : Prop := match st with
  | (0, a) :: r => k a r
  | _ => False
def pL (st : List sV) (k : Int → List sV → Prop) : Prop := match st with
  | (1, a) :: r => k a r
  | _ => False
def pR (st : List sV) (k : Int → List sV → Prop) : Prop := match st with
  | (2, a) :: r => k a r
  | _ => False
def pS (st : List sV) (k : Int → List sV → Prop) : Prop := match st with
  | (3, a) :: r => k a r
  | _ => False
def p5 (st : List sV) (k : Int → List sV → Prop) : Prop := match st with
  | (5, a) :: r => k a r
  | _ => False
def p6 (st : List sV) (k : Int → List sV → Prop) : Prop := match st with
  | (6, a) :: r => k a r
  | _ => False
def gI (ls : List sV) (i : Nat) (k : Int → Prop) : Prop := match ls[i]? with
  | some (0, a) => k a
  | _ => False
def gL (ls : List sV) (i : Nat) (k : Int → Prop) : Prop := match ls[i]? with
  | some (1, a) => k a
  | _ => False
def gA (ls : List sV) (i : Nat) (k : sV → Prop) : Prop := match ls[i]? with
  | some (2, a) => k (2, a)
  | some (3, a) => k (3, a)
  | some (4, a) => k (4, a)
  | some (5, a) => k (5, a)
  | some (6, a) => k (6, a)
  | _ => False
def setL (l : List sV) (k : Nat) (x : sV) : List sV := match k with
  | 0 => l.set 0 x
  | j + 1 => match l[j]? with
    | some (1, _) => (l.set j (9, 0)).set (j + 1) x
    | _ => l.set (j + 1) x
def tyT (a : Int) : Nat := (tyTab.getD (a.toNat / 16) []).getD (a.toNat % 16) 0
def lnT (a : Int) : Int := (lnTab.getD (a.toNat / 16) []).getD (a.toNat % 16) 0
def lk {α : Type} (t : List (List (Nat × α))) (own idx : Nat) : Option α := ((t.getD own []).find? (fun q => q.1 == idx)).map (fun q => q.2)
def fTag (ci k : Nat) : Nat := (fTags.getD ci []).getD k 0
def tgt (pc : Nat) (off : Int) : Nat := ((pc : Int) + off).toNat
/-- the operands of a call, the last one on top: by the tags, last first -/
def popA (tags : List Nat) (st : List sV) (acc : List sV) (k : List sV → List sV → Prop) : Prop := match tags with
  | [] => k acc st
  | 0 :: r => pI st fun a st => popA r st ((0, a) :: acc) k
  | 1 :: r => pL st fun a st => popA r st ((1, a) :: acc) k
  | 2 :: r => pR st fun a st => popA r st ((2, a) :: acc) k
  | 3 :: r => pS st fun a st => popA r st ((3, a) :: acc) k
  | 5 :: r => p5 st fun a st => popA r st ((5, a) :: acc) k
  | 6 :: r => p6 st fun a st => popA r st ((6, a) :: acc) k
  | _ => False
def spread (as : List sV) : List sV := match as with
  | [] => []
  | (1, a) :: r => (1, a) :: (9, 0) :: spread r
  | x :: r => x :: spread r
def loc0 (as : List sV) (n : Nat) : List sV := spread as ++ List.replicate (n - (spread as).length) (9, 0)
noncomputable def tsw (x : Int) (pc : Nat) (d : Int) (go : Nat → Prop) (lo : Int) (offs : List Int) : Prop := match offs with
  | [] => go (tgt pc d)
  | o :: r => brb (decide (x = lo)) (go (tgt pc o)) (tsw x pc d go (lo + 1) r)
noncomputable def lsw (x : Int) (pc : Nat) (d : Int) (go : Nat → Prop) (ps : List (Int × Int)) : Prop := match ps with
  | [] => go (tgt pc d)
  | q :: r => brb (decide (x = q.1)) (go (tgt pc q.2)) (lsw x pc d go r)
def cmpI (c : ClassFile.Cond) (a b : Int) : Bool := match c with
  | .eq => decide (a = b)
  | .ne => !decide (a = b)
  | .lt => decide (a < b)
  | .ge => decide (b ≤ a)
  | .gt => decide (b < a)
  | .le => decide (a ≤ b)
def endI (t : Nat) (st : List sV) (k : Option sV → Prop) : Prop := match t with
  | 0 => pI st fun x r => chk r.isEmpty (k (some (0, x)))
  | 6 => pI st fun x r => chk (r.isEmpty && (decide (x = 0) || decide (x = 1))) (k (some (0, x)))
  | 7 => pI st fun x r => chk (r.isEmpty && (decide (-128 ≤ x) && decide (x ≤ 127))) (k (some (0, x)))
  | 8 => pI st fun x r => chk (r.isEmpty && (decide (0 ≤ x) && decide (x ≤ 65535))) (k (some (0, x)))
  | _ => False
def endL (t : Nat) (st : List sV) (k : Option sV → Prop) : Prop := match t with
  | 1 => pL st fun x r => chk r.isEmpty (k (some (1, x)))
  | _ => False
def endV (t : Nat) (st : List sV) (k : Option sV → Prop) : Prop := match t with
  | 5 => chk st.isEmpty (k none)
  | _ => False
/-- a call by the answer's kind -/
def clR (call : Nat → List sV → sM → Option sV → sM → Prop) (rt y : Nat) (as : List sV) (μ : sM) (go : Option sV → Nat → sF → Prop) : Prop := match rt with
  | 0 => ∃ (x : Int) (c : Nat) (v : sF), call y as μ (some (0, x)) (c, v) ∧ go (some (0, x)) c v
  | 6 => ∃ (x : Int) (c : Nat) (v : sF), call y as μ (some (0, x)) (c, v) ∧ go (some (0, x)) c v
  | 7 => ∃ (x : Int) (c : Nat) (v : sF), call y as μ (some (0, x)) (c, v) ∧ go (some (0, x)) c v
  | 8 => ∃ (x : Int) (c : Nat) (v : sF), call y as μ (some (0, x)) (c, v) ∧ go (some (0, x)) c v
  | 1 => ∃ (x : Int) (c : Nat) (v : sF), call y as μ (some (1, x)) (c, v) ∧ go (some (1, x)) c v
  | 5 => ∃ (c : Nat) (v : sF), call y as μ none (c, v) ∧ go none c v
  | _ => False
def pushR (r : Option sV) (st : List sV) : List sV := match r with
  | some x => x :: st
  | none => st
/-- references that no method but a constructor writes: by class and field (1: so far from the object, 2: that cell), and two arrays of such -/
def stF (ci k : Nat) (a : Int) (x : Int) : Int := match (stTab.getD ci []).getD k (0, 0) with
  | (1, o) => a + o
  | (2, o) => o
  | _ => x
def stA (a i : Int) (x : Int) : Int := match stArr.find? (fun q => q.1 == a) with
  | some (_, (b, s)) => b + s * i
  | none => x
def isSt (ci k : Nat) : Bool := ((stTab.getD ci []).getD k (0, 0)).1 != 0
def FullP (μ : sM) : Prop := lastC ≤ μ.1 ∧ (∀ (a : Int) (ci k : Nat), 1 ≤ a → a ≤ μ.1 → tyT a = 10 + ci → ci < 13 → μ.2 a k = stF ci k a (μ.2 a k)) ∧ ∀ (a i : Int), 1 ≤ a → a ≤ μ.1 → 0 ≤ i → i < lnT a → μ.2 a i = stA a i (μ.2 a i)
def rdF (fm ci k : Nat) : Nat × Int := match fm with
  | 1 => (stTab.getD ci []).getD k (0, 0)
  | _ => (0, 0)
def rdA (fm : Nat) (a : Int) : Option (Int × Int) := match fm with
  | 1 => (stArr.find? (fun q => q.1 == a)).map (fun q => q.2)
  | _ => none
def short (st : List sV) : Bool := match st with
  | _ :: _ :: _ :: _ :: _ :: _ => false
  | _ => true
def hd3 (as : List sV) (P : Prop) : Prop := match as with
  | (3, _) :: _ => P
  | _ => False
def hd2 (as : List sV) (k : Int → Prop) : Prop := match as with
  | (2, a) :: _ => k a
  | _ => False
/-- a call out of a frame that reads plainly asks that all is made -/
def may (fm gm : Nat) (μ : sM) (P : Prop) : Prop := match fm, gm with
  | 1, 1 => P
  | 1, 2 => P
  | 2, 2 => P
  | 0, 0 => P
  | 0, 2 => P
  | 3, 0 => P
  | 3, 1 => FullP μ ∧ P
  | 3, 3 => P
  | _, _ => False
def nk (fm : Nat) : Bool := fm == 0 || fm == 3
/-- one instruction: 'go' where it goes on, 'fin' where the method ends, 'call' for a method of the table -/
def si (call : Nat → List sV → sM → Option sV → sM → Prop) (L : Nat) (xs : Int → Int) (fm : Nat) (own rt : Nat) (ins : ClassFile.Instr) (len pc : Nat) (ls st : List sV) (c : Nat) (v : sF) (go : Nat → List sV → List sV → Nat → sF → Prop) (fin : Option sV → sM → Prop) : Prop :=
  match ins with
  | .iconst i => go (pc + len) ls ((0, i) :: st) c v
  | .bipush i => go (pc + len) ls ((0, i) :: st) c v
  | .sipush i => go (pc + len) ls ((0, i) :: st) c v
  | .lconst l => go (pc + len) ls ((1, ((l : Nat) : Int)) :: st) c v
  | .ldc i => match lk kTab own i with
    | some (0, x) => go (pc + len) ls ((0, x) :: st) c v
    | some (3, x) => go (pc + len) ls ((3, x) :: st) c v
    | _ => False
  | .ldc_w i => match lk kTab own i with
    | some (0, x) => go (pc + len) ls ((0, x) :: st) c v
    | _ => False
  | .ldc2_w i => match lk kTab own i with
    | some (1, x) => go (pc + len) ls ((1, x) :: st) c v
    | _ => False
  | .iload_n k => gI ls k fun a => go (pc + len) ls ((0, a) :: st) c v
  | .iload k => gI ls k fun a => go (pc + len) ls ((0, a) :: st) c v
  | .lload_n k => gL ls k fun a => go (pc + len) ls ((1, a) :: st) c v
  | .lload k => gL ls k fun a => go (pc + len) ls ((1, a) :: st) c v
  | .aload_n k => gA ls k fun a => go (pc + len) ls (a :: st) c v
  | .aload k => gA ls k fun a => go (pc + len) ls (a :: st) c v
  | .istore_n k => pI st fun a st => go (pc + len) (setL ls k (0, a)) st c v
  | .istore k => pI st fun a st => go (pc + len) (setL ls k (0, a)) st c v
  | .lstore_n k => pL st fun a st => go (pc + len) (setL ls k (1, a) |>.set ((k : Nat) + 1) (9, 0)) st c v
  | .lstore k => pL st fun a st => go (pc + len) (setL ls k (1, a) |>.set (k + 1) (9, 0)) st c v
  | .astore_n k => pR st fun a st => go (pc + len) (setL ls k (2, a)) st c v
  | .astore k => pR st fun a st => go (pc + len) (setL ls k (2, a)) st c v
  | .iinc k n => gI ls k fun a => go (pc + len) (setL ls k (0, w32 (a + n))) st c v
  | .iadd => pI st fun b st => pI st fun a st => go (pc + len) ls ((0, w32 (a + b)) :: st) c v
  | .isub => pI st fun b st => pI st fun a st => go (pc + len) ls ((0, w32 (a - b)) :: st) c v
  | .imul => pI st fun b st => pI st fun a st => go (pc + len) ls ((0, w32 (a * b)) :: st) c v
  | .iand => pI st fun b st => pI st fun a st => go (pc + len) ls ((0, iand a b) :: st) c v
  | .ior => pI st fun b st => pI st fun a st => go (pc + len) ls ((0, ior a b) :: st) c v
  | .ixor => pI st fun b st => pI st fun a st => go (pc + len) ls ((0, ixor a b) :: st) c v
  | .idiv => pI st fun b st => pI st fun a st => chk (!decide (b = 0)) (go (pc + len) ls ((0, w32 (Int.tdiv a b)) :: st) c v)
  | .irem => pI st fun b st => pI st fun a st => chk (!decide (b = 0)) (go (pc + len) ls ((0, Int.tmod a b) :: st) c v)
  | .ineg => pI st fun a st => go (pc + len) ls ((0, w32 (-a)) :: st) c v
  | .ishl => pI st fun b st => pI st fun a st => go (pc + len) ls ((0, ishl a b) :: st) c v
  | .ishr => pI st fun b st => pI st fun a st => go (pc + len) ls ((0, ishr a b) :: st) c v
  | .iushr => pI st fun b st => pI st fun a st => go (pc + len) ls ((0, iush a b) :: st) c v
  | .ladd => pL st fun b st => pL st fun a st => go (pc + len) ls ((1, w64 (a + b)) :: st) c v
  | .lsub => pL st fun b st => pL st fun a st => go (pc + len) ls ((1, w64 (a - b)) :: st) c v
  | .lmul => pL st fun b st => pL st fun a st => go (pc + len) ls ((1, w64 (a * b)) :: st) c v
  | .land => pL st fun b st => pL st fun a st => go (pc + len) ls ((1, land a b) :: st) c v
  | .lor => pL st fun b st => pL st fun a st => go (pc + len) ls ((1, lor a b) :: st) c v
  | .ldiv => pL st fun b st => pL st fun a st => chk (!decide (b = 0)) (go (pc + len) ls ((1, w64 (Int.tdiv a b)) :: st) c v)
  | .lrem => pL st fun b st => pL st fun a st => chk (!decide (b = 0)) (go (pc + len) ls ((1, Int.tmod a b) :: st) c v)
  | .lshl => pI st fun b st => pL st fun a st => go (pc + len) ls ((1, lshl a b) :: st) c v
  | .lshr => pI st fun b st => pL st fun a st => go (pc + len) ls ((1, lshr a b) :: st) c v
  | .lcmp => pL st fun b st => pL st fun a st => go (pc + len) ls ((0, lcm1 a b) :: st) c v
  | .i2l => pI st fun a st => go (pc + len) ls ((1, a) :: st) c v
  | .l2i => pL st fun a st => go (pc + len) ls ((0, w32 a) :: st) c v
  | .i2b => pI st fun a st => go (pc + len) ls ((0, w8 a) :: st) c v
  | .i2s => pI st fun a st => go (pc + len) ls ((0, w16 a) :: st) c v
  | .i2c => pI st fun a st => go (pc + len) ls ((0, a % 65536) :: st) c v
  | .dup => match st with
    | (0, a) :: r => go (pc + len) ls ((0, a) :: (0, a) :: r) c v
    | (2, a) :: r => go (pc + len) ls ((2, a) :: (2, a) :: r) c v
    | _ => False
  | .dup2 => match st with
    | (0, b) :: (2, a) :: r => go (pc + len) ls ((0, b) :: (2, a) :: (0, b) :: (2, a) :: r) c v
    | _ => False
  | .pop => match st with
    | (0, _) :: r => go (pc + len) ls r c v
    | (2, _) :: r => go (pc + len) ls r c v
    | _ => False
  | .pop2 => match st with
    | (1, _) :: r => go (pc + len) ls r c v
    | _ => False
  | .ifCond cc o => pI st fun a st => brb (cmpI cc a 0) (go (tgt pc o) ls st c v) (go (pc + len) ls st c v)
  | .if_icmp cc o => pI st fun b st => pI st fun a st => brb (cmpI cc a b) (go (tgt pc o) ls st c v) (go (pc + len) ls st c v)
  | .ifnull o => pR st fun a st => brb (decide (a = 0)) (go (tgt pc o) ls st c v) (go (pc + len) ls st c v)
  | .ifnonnull o => pR st fun a st => brb (decide (a = 0)) (go (pc + len) ls st c v) (go (tgt pc o) ls st c v)
  | .goto o => go (tgt pc o) ls st c v
  | .tableswitch d lo _ offs => pI st fun x st => tsw x pc d (fun q => go q ls st c v) lo offs.toList
  | .lookupswitch d ps => pI st fun x st => lsw x pc d (fun q => go q ls st c v) ps.toList
  | .getfield i => match lk fTab own i with
    | some (ci, k) => pR st fun a st => ckt (tyT a == 10 + ci) (match rdF fm ci k with
      | (1, o) => go (pc + len) ls ((2, a + o) :: st) c v
      | (2, o) => go (pc + len) ls ((2, o) :: st) c v
      | _ => go (pc + len) ls ((fTag ci k % 4, v a k) :: st) c v)
    | none => match lk sfTab own i with
      | some 0 => pS st fun k st => go (pc + len) ls ((5, k) :: st) c v
      | some 1 => pS st fun _ st => go (pc + len) ls ((0, 0) :: st) c v
      | _ => False
  | .getstatic i => match lk gTab own i with
    | some 0 => go (pc + len) ls ((0, 1) :: st) c v
    | some 1 => go (pc + len) ls ((6, 0) :: st) c v
    | _ => False
  | .putfield i => match lk fTab own i with
    | some (ci, k) => ckt (fm == 0 || !isSt ci k) (match fTag ci k with
      | 0 => pI st fun x st => pR st fun a st => ckt (tyT a == 10 + ci) (go (pc + len) ls st c (up v a k x))
      | 1 => pL st fun x st => pR st fun a st => ckt (tyT a == 10 + ci) (go (pc + len) ls st c (up v a k x))
      | 2 => pR st fun x st => pR st fun a st => ckt (tyT a == 10 + ci) (go (pc + len) ls st c (up v a k x))
      | 4 => pI st fun x st => pR st fun a st => ckt (tyT a == 10 + ci) (chk (decide (x = 0) || decide (x = 1)) (go (pc + len) ls st c (up v a k x)))
      | _ => False)
    | none => False
  | .arraylength => match st with
    | (2, a) :: r => ckt (decide (tyT a = 1) || decide (tyT a = 3)) (go (pc + len) ls ((0, lnT a) :: r) c v)
    | (4, _) :: r => ckt (decide (0 < L)) (go (pc + len) ls ((0, (L : Int) - 1) :: r) c v)
    | (5, k) :: r => go (pc + len) ls ((0, (((sTab.getD k.toNat []).length : Nat) : Int)) :: r) c v
    | _ => False
  | .iaload => pI st fun i st => match st with
    | (2, a) :: r => ckt (tyT a == 1) (chk (inb i (lnT a)) (go (pc + len) ls ((0, v a i) :: r) c v))
    | (4, _) :: r => chk (inb i ((L : Int) - 1)) (go (pc + len) ls ((0, xs i) :: r) c v)
    | _ => False
  | .baload => pI st fun i st => match st with
    | (2, a) :: r => ckt (tyT a == 3 || tyT a == 4) (chk (inb i (lnT a)) (go (pc + len) ls ((0, v a i) :: r) c v))
    | (5, k) :: r => chk (inb i ((sTab.getD k.toNat []).length : Nat)) (go (pc + len) ls ((0, (sTab.getD k.toNat []).getD i.toNat 0) :: r) c v)
    | _ => False
  | .laload => pI st fun i st => pR st fun a st => ckt (tyT a == 2) (chk (inb i (lnT a)) (go (pc + len) ls ((1, v a i) :: st) c v))
  | .aaload => pI st fun i st => pR st fun a st => ckt (decide (40 ≤ tyT a)) (chk (inb i (lnT a)) (match rdA fm a with
      | some (b, s) => go (pc + len) ls ((2, b + s * i) :: st) c v
      | none => go (pc + len) ls ((2, v a i) :: st) c v))
  | .iastore => pI st fun x st => pI st fun i st => pR st fun a st => ckt (tyT a == 1) (chk (inb i (lnT a)) (go (pc + len) ls st c (up v a i x)))
  | .lastore => pL st fun x st => pI st fun i st => pR st fun a st => ckt (tyT a == 2) (chk (inb i (lnT a)) (go (pc + len) ls st c (up v a i x)))
  | .bastore => pI st fun x st => pI st fun i st => pR st fun a st => ckt (tyT a == 3 || (tyT a == 4 && (decide (x = 0) || decide (x = 1)))) (chk (inb i (lnT a)) (go (pc + len) ls st c (up v a i (w8 x))))
  | .aastore => ckt (nk fm) (pR st fun x st => pI st fun i st => pR st fun a st => ckt (decide (40 ≤ tyT a) && tyT x + 30 == tyT a) (chk (inb i (lnT a)) (go (pc + len) ls st c (up v a i x))))
  | .new i => match lk cTab own i with
    | some ci => ckt (nk fm) (ckt (tyT ((c : Int) + 1) == 10 + ci) (go (pc + len) ls ((2, (c : Int) + 1) :: st) (c + 1) (zer v ((c : Int) + 1))))
    | none => False
  | .newarray t => pI st fun n st => ckt (nk fm && tyT ((c : Int) + 1) == atC t && lnT ((c : Int) + 1) == n) (go (pc + len) ls ((2, (c : Int) + 1) :: st) (c + 1) (zer v ((c : Int) + 1)))
  | .anewarray i => match lk cTab own i with
    | some ci => pI st fun n st => ckt (nk fm && tyT ((c : Int) + 1) == 40 + ci && lnT ((c : Int) + 1) == n) (go (pc + len) ls ((2, (c : Int) + 1) :: st) (c + 1) (zer v ((c : Int) + 1)))
    | none => False
  | .invokevirtual i => match lk mTab own i with
    | some (0, y) => popA (mTags y) st [] fun as st => hd2 as fun a => ckt (short st && tyT a == 10 + mOwn y) (may fm (mFm y) (c, v) (clR call (mRet y) y as (c, v) fun r c v => go (pc + len) ls (pushR r st) c v))
    | some (3, y) => popA (mTags y) st [] fun as st => hd3 as (ckt (short st) (may fm (mFm y) (c, v) (clR call (mRet y) y as (c, v) fun r c v => go (pc + len) ls (pushR r st) c v)))
    | _ => False
  | .invokestatic i => match lk mTab own i with
    | some (1, y) => popA (mTags y) st [] fun as st => ckt (short st) (may fm (mFm y) (c, v) (clR call (mRet y) y as (c, v) fun r c v => go (pc + len) ls (pushR r st) c v))
    | some (8, _) => pI st fun n st => pI st fun dp st => pR st fun d st => pI st fun sp st => pR st fun s st =>
        ckt ((tyT s == 1 && tyT d == 1 || tyT s == 2 && tyT d == 2) && (short st) && !decide (s = d)) (chk (decide (0 ≤ n) && decide (0 ≤ sp) && decide (0 ≤ dp) && decide (sp + n ≤ lnT s) && decide (dp + n ≤ lnT d)) (go (pc + len) ls st c (cpy v s sp d dp n)))
    | _ => False
  | .invokespecial i => match lk mTab own i with
    | some (2, y) => popA (mTags y) st [] fun as st => hd2 as fun a => ckt (short st && tyT a == 10 + mOwn y) (may fm (mFm y) (c, v) (clR call (mRet y) y as (c, v) fun r c v => go (pc + len) ls (pushR r st) c v))
    | some (9, _) => pR st fun a st => ckt (short st && !decide (a = 0)) (go (pc + len) ls st c v)
    | _ => False
  | .ireturn => endI rt st fun r => fin r (c, v)
  | .lreturn => endL rt st fun r => fin r (c, v)
  | .return_ => endV rt st fun r => fin r (c, v)
  | _ => False

def rn (call : Nat → List sV → sM → Option sV → sM → Prop) (L : Nat) (xs : Int → Int) (y : Nat) (Q : Option sV → sM → Prop) : Nat → Nat → List sV → List sV → Nat → sF → Prop
  | 0 => fun _ _ _ _ _ => False
  | n + 1 => fun pc ls st c v => match cdAt (mCode y) pc with
    | some (ins, len) => si call L xs (mFm y) (mOwn y) (mRet y) ins len pc ls st c v (rn call L xs y Q n) Q
    | none => False
def Ev : Nat → Nat → List sV → sM → Option sV → sM → Prop
  | 0 => fun _ _ _ _ _ => False
  | d + 1 => fun y as μ r μ1 => ∃ n, rn (Ev d) 0 (fun _ => 0) y (fun r2 μ2 => r2 = r ∧ μ2 = μ1) n 0 (loc0 as (mMax y)) [] μ.1 μ.2
def Wp (call : Nat → List sV → sM → Option sV → sM → Prop) (L : Nat) (xs : Int → Int) (y : Nat) (Q : Option sV → sM → Prop) (pc : Nat) (ls st : List sV) (c : Nat) (v : sF) : Prop := ∃ n, rn call L xs y Q n pc ls st c v
def killL (ks : List Nat) (ls : List sV) : List sV := match ks with
  | [] => ls
  | k :: r => killL r (ls.set k (9, 0))
def sx (call : Nat → List sV → sM → Option sV → sM → Prop) (L : Nat) (xs : Int → Int) (y : Nat) (Q : Option sV → sM → Prop) (stop : List (Nat × List Nat)) : Nat → Nat → List sV → List sV → Nat → sF → Prop
  | 0 => fun _ _ _ _ _ => False
  | n + 1 => fun pc ls st c v => match cdAt (mCode y) pc with
    | some (ins, len) => si call L xs (mFm y) (mOwn y) (mRet y) ins len pc ls st c v (fun pc ls st c v => match stop.find? (fun q => q.1 == pc) with
      | some q => Wp call L xs y Q pc (killL q.2 ls) st c v
      | none => sx call L xs y Q stop n pc ls st c v) Q
    | none => False
