section Spec
/-- only the cells of S may have changed -/
def Off (S : List Int) (v v' : sF) : Prop := ∀ a : Int, a ∉ S → v' a = v a
theorem Off.rf (S : List Int) (v : sF) : Off S v v := fun _ _ => rfl
theorem Off.tr {S : List Int} {v v1 v2 : sF} (h1 : Off S v v1) (h2 : Off S v1 v2) : Off S v v2 := fun a ha => (h2 a ha).trans (h1 a ha)
theorem Off.wk {S T : List Int} {v v1 : sF} (h1 : Off S v v1) (h : ∀ x ∈ S, x ∈ T) : Off T v v1 := fun a ha => h1 a (fun q => ha (h a q))
theorem Off.up {S : List Int} {v v1 : sF} (h1 : Off S v v1) {a i x : Int} (h : a ∈ S) : Off S v (up v1 a i x) := fun b hb => (up_off b (fun q => hb (by rw [q]; exact h))).trans (h1 b hb)
theorem up_same (v : sF) (a i x : Int) : up v a i x a i = x := by unfold up; rw [if_pos ⟨rfl, rfl⟩]
theorem up_ne (v : sF) {a i x j : Int} (h : j ≠ i) : up v a i x a j = v a j := by unfold up; rw [if_neg (fun q => h q.2)]
theorem up_ne2 (v : sF) {a i x b j : Int} (h : b ≠ a) : up v a i x b j = v b j := by unfold up; rw [if_neg (fun q => h q.1)]
/-- the words of a law -/
def wdA (al : Int → Int) (p q : Int) : Int → Int := fun k => if k = 0 then p else if k = 1 then q else if k = 2 then al (36 + p) else if k = 3 then (if al (15 + p) = al (15 + q) then 1 else 0) else if k = 4 then al (42 + 6 * p + q) else if k = 5 then al (30 + p) else if k = 6 then al (9 + q) else al (9 + p)
def kp (x : Int) : Int := if 1000000 < x then 1000000 else if x < -1000000 then -1000000 else x
def bop (code a b : Int) : Int := if code = 3003 then (if a = b then 1 else 0) else if code = 3004 then (if a < b then 1 else 0) else if code = 3005 then (if b < a then 1 else 0) else if code = 3007 then iand a b else if code = 3008 then ior a b else kp (if code = 3000 then a + b else if code = 3001 then a - b else a * b)
def stp (w : Int → Int) (code : Int) (st : List Int) : List Int :=
  if code < 1000 then code :: st
  else if code < 3000 then w (code - 1000) :: st
  else if code = 3006 then (match st with
    | a :: r => (1 - a) :: r
    | [] => [])
  else if code = 3009 then (match st with
    | z :: y :: x :: r => (if x = 1 then y else z) :: r
    | _ => [])
  else (match st with
    | b :: a :: r => bop code a b :: r
    | _ => [])
/-- the stack behind n codes -/
def rpn (w : Int → Int) (cd : Int → Int) : Nat → List Int
  | 0 => []
  | n + 1 => stp w (cd n) (rpn w cd n)
/-- what kinds lie on the stack: true a truth, false a number -/
def tck (code : Int) (ts : List Bool) : Option (List Bool) :=
  if code < 0 then none else if code < 1000 then some (false :: ts)
  else if code < 1008 then some (false :: ts)
  else if code = 3000 ∨ code = 3001 ∨ code = 3002 then (match ts with
    | false :: false :: r => some (false :: r)
    | _ => none)
  else if code = 3003 ∨ code = 3004 ∨ code = 3005 then (match ts with
    | false :: false :: r => some (true :: r)
    | _ => none)
  else if code = 3006 then (match ts with
    | true :: r => some (true :: r)
    | _ => none)
  else if code = 3007 ∨ code = 3008 then (match ts with
    | true :: true :: r => some (true :: r)
    | _ => none)
  else if code = 3009 then (match ts with
    | false :: false :: true :: r => some (false :: r)
    | _ => none)
  else none
def tcks (cd : Int → Int) : Nat → Option (List Bool)
  | 0 => some []
  | n + 1 => (tcks cd n).bind (tck (cd n))
/-- a law that can be reckoned: n codes -/
def okLaw (cd : Int → Int) (n : Nat) : Prop := tcks cd n = some [false] ∧ ∀ k ≤ n, ∃ ts, tcks cd k = some ts ∧ ts.length ≤ 50
/-- values as their kinds -/
def tyd : List Bool → List Int → Prop
  | [], [] => True
  | false :: ts, x :: xs => (-1000000 ≤ x ∧ x ≤ 1000000) ∧ tyd ts xs
  | true :: ts, x :: xs => (x = 0 ∨ x = 1) ∧ tyd ts xs
  | _, _ => False
theorem tyd_len : ∀ {ts : List Bool} {xs : List Int}, tyd ts xs → xs.length = ts.length := by
  intro ts
  induction ts with
  | nil => intro xs h; cases xs with
    | nil => rfl
    | cons x r => exact h.elim
  | cons t r ih =>
    intro xs h
    cases xs with
    | nil => cases t <;> exact h.elim
    | cons x xs => cases t <;> exact congrArg (· + 1) (ih h.2)
theorem kp_rng (x : Int) : -1000000 ≤ kp x ∧ kp x ≤ 1000000 := by unfold kp; split <;> (try split) <;> omega
theorem bit01 : ∀ a b : Int, (a = 0 ∨ a = 1) → (b = 0 ∨ b = 1) → (iand a b = 0 ∨ iand a b = 1) ∧ (ior a b = 0 ∨ ior a b = 1) := by
  intro a b ha hb
  rcases ha with rfl | rfl <;> rcases hb with rfl | rfl <;> decide
theorem stp_ty {w : Int → Int} (hw : ∀ k, 0 ≤ k → k < 8 → -1000000 ≤ w k ∧ w k ≤ 1000000) {code : Int} {ts ts' : List Bool} {xs : List Int} (h : tck code ts = some ts') (hx : tyd ts xs) : tyd ts' (stp w code xs) := by
  unfold tck at h
  unfold stp
  split at h
  · cases h
  · split at h
    · cases h
      rename_i h0 h1
      rw [if_pos h1]
      exact ⟨by omega, hx⟩
    · rename_i h0 h1
      rw [if_neg h1]
      split at h
      · cases h
        rename_i h2
        rw [if_pos (by omega)]
        exact ⟨hw _ (by omega) (by omega), hx⟩
      · split at h
        · rename_i h2 h3
          split at h
          · cases h
            rw [if_neg (by omega), if_neg (by omega), if_neg (by omega)]
            match xs, hx with
            | b :: a :: r, hx =>
              refine ⟨?_, hx.2.2⟩
              unfold bop
              rw [if_neg (by omega), if_neg (by omega), if_neg (by omega), if_neg (by omega), if_neg (by omega)]
              exact kp_rng _
          · cases h
        · split at h
          · rename_i h2 h3 h4
            split at h
            · cases h
              rw [if_neg (by omega), if_neg (by omega), if_neg (by omega)]
              match xs, hx with
              | b :: a :: r, hx =>
                refine ⟨?_, hx.2.2⟩
                unfold bop
                rcases h4 with rfl | rfl | rfl
                · rw [if_pos rfl]; split <;> simp
                · rw [if_neg (by decide), if_pos rfl]; split <;> simp
                · rw [if_neg (by decide), if_neg (by decide), if_pos rfl]; split <;> simp
            · cases h
          · split at h
            · rename_i h5
              split at h
              · cases h
                subst h5
                rw [if_neg (by decide), if_pos rfl]
                match xs, hx with
                | a :: r, hx =>
                  refine ⟨?_, hx.2⟩
                  rcases hx.1 with rfl | rfl <;> decide
              · cases h
            · split at h
              · rename_i h5 h6
                split at h
                · cases h
                  rw [if_neg (by omega), if_neg (by omega), if_neg (by omega)]
                  match xs, hx with
                  | b :: a :: r, hx =>
                    refine ⟨?_, hx.2.2⟩
                    have := bit01 a b hx.2.1 hx.1
                    unfold bop
                    rcases h6 with rfl | rfl
                    · rw [if_neg (by decide), if_neg (by decide), if_neg (by decide), if_pos rfl]; exact this.1
                    · rw [if_neg (by decide), if_neg (by decide), if_neg (by decide), if_neg (by decide), if_pos rfl]; exact this.2
                · cases h
              · split at h
                · rename_i h7
                  split at h
                  · cases h
                    subst h7
                    rw [if_neg (by decide), if_neg (by decide), if_pos rfl]
                    match xs, hx with
                    | z :: y :: x :: r, hx =>
                      refine ⟨?_, hx.2.2.2⟩
                      split
                      · exact hx.2.1
                      · exact hx.1
                  · cases h
                · cases h
theorem rpn_ty {w : Int → Int} (hw : ∀ k, 0 ≤ k → k < 8 → -1000000 ≤ w k ∧ w k ≤ 1000000) {cd : Int → Int} : ∀ {n : Nat} {ts : List Bool}, tcks cd n = some ts → tyd ts (rpn w cd n) := by
  intro n
  induction n with
  | zero => intro ts h; cases h; exact trivial
  | succ n ih =>
    intro ts h
    unfold tcks at h
    cases ht : tcks cd n with
    | none => rw [ht] at h; cases h
    | some t0 =>
      rw [ht] at h
      exact stp_ty hw h (ih ht)
/-- who sends: of the first n the one with most, more than 0, of like ones the first -/
def bst (ok : Int → Bool) (mi : Int → Int) : Nat → Int × Int
  | 0 => (-1, 0)
  | n + 1 => if ok n = true ∧ (bst ok mi n).2 < mi n then ((n : Int), mi n) else bst ok mi n
theorem bst_rng (ok : Int → Bool) (mi : Int → Int) (n : Nat) : -1 ≤ (bst ok mi n).1 ∧ (bst ok mi n).1 < n ∧ 0 ≤ (bst ok mi n).2 := by
  induction n with
  | zero => exact ⟨(by decide : (-1 : Int) ≤ -1), (by decide : (-1 : Int) < ((0 : Nat) : Int)), (by decide : (0 : Int) ≤ 0)⟩
  | succ n ih =>
    unfold bst
    split
    · rename_i h
      exact ⟨by dsimp only; omega, by dsimp only; omega, by dsimp only; omega⟩
    · exact ⟨ih.1, by omega, ih.2.2⟩
theorem bst_congr {ok ok' : Int → Bool} {mi mi' : Int → Int} {n : Nat} (h : ∀ k : Nat, k < n → ok k = ok' k ∧ (ok k = true → mi k = mi' k)) : bst ok mi n = bst ok' mi' n := by
  induction n with
  | zero => rfl
  | succ n ih =>
    have h1 := h n (Nat.lt_succ_self n)
    unfold bst
    rw [ih (fun k hk => h k (Nat.lt_succ_of_lt hk)), ← h1.1]
    by_cases ho : ok n = true
    · rw [h1.2 ho]
    · rw [if_neg (fun q => ho q.1), if_neg (fun q => ho q.1)]
def lwN (al : Int → Int) (law : Int) : Nat := (al (7 + law)).toNat
def lwC (al : Int → Int) (law : Int) : Int → Int := fun k => al (854 + al (5 + law) + k)
def rkA (al : Int → Int) (law p q : Int) : Int := (rpn (wdA al p q) (lwC al law) (lwN al law)).headD 0
def mnA (al : Int → Int) (p q : Int) : Int := if al 3 = 0 then al (42 + 6 * p + q) else rkA al 0 p q
def wlA (al : Int → Int) (p q : Int) : Int := if al 4 = 0 then al (9 + q) else rkA al 1 p q % al 1
def sdA (al : Int → Int) (idle to place but : Int) : Int := (bst (fun p => decide (p ≠ to) && decide (p ≠ but) && decide (p ≠ idle) && decide (al (30 + p) = place)) (fun p => mnA al p to) (al 2).toNat).1
def nxA (al : Int → Int) (idle to place : Int) : Int := if place = al (30 + to) then place else if sdA al idle to place (-1) = -1 then place else wlA al (sdA al idle to place (-1)) to
/-- the words that a law may use -/
def wok (law code : Int) : Prop := code < 1000 ∨ 3000 ≤ code ∨ (if law = 0 then code ≤ 1004 else code ≠ 1004)
/-- what the numbers of a post are -/
def okT (al : Int → Int) : Prop := (2 ≤ al 1 ∧ al 1 ≤ 6) ∧ (0 ≤ al 2 ∧ al 2 ≤ 6) ∧ (∀ p : Int, 0 ≤ p → p < 6 → (0 ≤ al (9 + p) ∧ al (9 + p) < al 1) ∧ (0 ≤ al (15 + p) ∧ al (15 + p) ≤ 9) ∧ (0 ≤ al (21 + p) ∧ al (21 + p) ≤ 10)) ∧ ∀ law : Int, (law = 0 ∨ law = 1) → al (3 + law) ≠ 0 → (0 ≤ al (5 + law) ∧ 1 ≤ al (7 + law) ∧ al (5 + law) + al (7 + law) ≤ 900) ∧ okLaw (lwC al law) (lwN al law) ∧ ∀ k : Nat, k < lwN al law → wok law (lwC al law k)
def okMn (N : Int) (al : Int → Int) : Prop := (∀ p : Int, 0 ≤ p → p < 6 → (0 ≤ al (30 + p) ∧ al (30 + p) < N) ∧ (0 ≤ al (36 + p) ∧ al (36 + p) ≤ 9)) ∧ (∀ i : Int, 0 ≤ i → i < 36 → 0 ≤ al (42 + i) ∧ al (42 + i) ≤ 9)
def okN (al : Int → Int) : Prop := okMn (al 1) al
theorem wdA_rng {al : Int → Int} (hT : okT al) (hN : okN al) {p q : Int} (hp : 0 ≤ p ∧ p < 6) (hq : 0 ≤ q ∧ q < 6) : ∀ k, 0 ≤ k → k < 8 → -1000000 ≤ wdA al p q k ∧ wdA al p q k ≤ 1000000 := by
  intro k h0 h1
  have a1 := hT.2.2.1 p hp.1 hp.2
  have a2 := hT.2.2.1 q hq.1 hq.2
  have a3 := hN.1 p hp.1 hp.2
  have a4 := hN.2 (6 * p + q) (by omega) (by omega)
  have a5 := hT.1
  rw [show 42 + (6 * p + q) = 42 + 6 * p + q by omega] at a4
  unfold wdA
  (repeat' split) <;> omega
theorem rkA_rng {al : Int → Int} (hT : okT al) (hN : okN al) {p q law : Int} (hl : law = 0 ∨ law = 1) (ht : al (3 + law) ≠ 0) (hp : 0 ≤ p ∧ p < 6) (hq : 0 ≤ q ∧ q < 6) : -1000000 ≤ rkA al law p q ∧ rkA al law p q ≤ 1000000 := by
  have h := (hT.2.2.2 law hl ht).2.1
  have h2 := rpn_ty (wdA_rng hT hN hp hq) h.1
  unfold rkA
  match hr : rpn (wdA al p q) (lwC al law) (lwN al law), h2 with
  | [x], h2 => exact h2.1
  | [], h2 => exact h2.elim
  | x :: y :: r, h2 => exact h2.2.elim
end Spec
