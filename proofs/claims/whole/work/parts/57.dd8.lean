section Dd8
variable {d c : Nat}
/-- nothing but the days' part changes -/
def kK (al al' : Int → Int) : Prop := ∀ k : Int, (k < 27 ∨ 102 ≤ k) → al' k = al k
theorem kK.s {al al' : Int → Int} (h : kK al al') : sameT al al' := fun k hk => h k (by omega)
theorem kK.tr {al b al' : Int → Int} (h : kK al b) (h' : kK b al') : kK al al' := fun k hk => (h' k hk).trans (h k hk)
theorem dR_kK {al al' : Int → Int} {k p x : Int} (hS : St al) (hk : 0 ≤ k ∧ k ≤ 3) (hw : dw al k p x = 0) (hd : dR al k p x al') : kK al al' := by
  have h0 := hS.2.2.1
  have h2 := hS.1.2.1
  obtain ⟨hp, w0, w1, w2, w3⟩ := dw0 hk hw
  rcases (show k = 0 ∨ k = 1 ∨ k = 2 ∨ k = 3 by omega) with q | q | q | q
  · have := w0 q
    exact fun k hk => (hd.1 q).1 k (by omega)
  · obtain ⟨n, hn⟩ := hd.2.1 q
    exact fun k hk => hn.1 k (by omega)
  · have hw := w2 q
    rw [hd.2.2.1 q]
    exact fun k hk => ua_n (by omega)
  · rw [hd.2.2.2 q]
    exact fun k hk => ua_n (by omega)
theorem dRE_kK {al al' : Int → Int} {e : Int} (hS : St al) (hw : dwE al e = 0) (h : dRE al e al') : kK al al' := by
  have h0 := hS.2.2.1
  by_cases he : e = -1
  · have hd := h.1 he
    exact fun k hk => hd.1 k (by omega)
  · unfold dwE at hw
    rw [if_neg he] at hw
    by_cases hr : 0 ≤ e ∧ e ≤ 399
    · rw [if_pos hr] at hw
      exact dR_kK hS (by omega) hw (h.2.1 he)
    · rw [if_neg hr] at hw; omega
theorem dR_uq {al a1 a2 : Int → Int} {k p x : Int} (hS : St al) (hk : 0 ≤ k ∧ k ≤ 3) (hw : dw al k p x = 0) (h1 : dR al k p x a1) (h2 : dR al k p x a2) (k1 : K96 al a1) (k2 : K96 al a2) : a2 = a1 := by
  obtain ⟨hp, w0, w1, w2, w3⟩ := dw0 hk hw
  have h0 := hS.2.2.1
  rcases (show k = 0 ∨ k = 1 ∨ k = 2 ∨ k = 3 by omega) with q | q | q | q
  · have := w0 q
    exact PoR_uq hS.2.2 (by omega) (h1.1 q) (h2.1 q) k1 k2
  · obtain ⟨n1, m1⟩ := h1.2.1 q
    obtain ⟨n2, m2⟩ := h2.2.1 q
    exact (MoR_uq hS.2.2 m1 m2 k1 k2).1
  · rw [h1.2.2.1 q, h2.2.2.1 q]
  · rw [h1.2.2.2 q, h2.2.2.2 q]
theorem dRE_uq {al a1 a2 : Int → Int} {e : Int} (hS : St al) (hw : dwE al e = 0) (h1 : dRE al e a1) (h2 : dRE al e a2) : a2 = a1 := by
  by_cases he : e = -1
  · exact DyR_uq hS.2.2 (h1.1 he) (h2.1 he) h1.2.2 h2.2.2
  · unfold dwE at hw
    rw [if_neg he] at hw
    by_cases hr : 0 ≤ e ∧ e ≤ 399
    · rw [if_pos hr] at hw
      exact dR_uq hS (by omega) hw (h1.2.1 he) (h2.2.1 he) h1.2.2 h2.2.2
    · rw [if_neg hr] at hw; omega
theorem RunR_inv {nm : Int → Int} : ∀ (j : Nat) {k : Int} {al al' : Int → Int}, St al → RunR nm j k al al' → St al' ∧ kK al al' ∧ al 27 ≤ al' 27 ∧ al' 27 ≤ al 27 + j := by
  intro j
  induction j with
  | zero =>
    intro k al al' hS h
    have e : al' = al := h
    subst e
    exact ⟨hS, fun _ _ => rfl, by omega, by omega⟩
  | succ j ih =>
    intro k al al' hS h
    obtain ⟨a1, hw, hd, hr⟩ := h
    have hs := St_dRE hS hw hd
    have := ih hs.1 hr
    exact ⟨this.1, (dRE_kK hS hw hd).tr this.2.1, by omega, by omega⟩
theorem RunR_uq {nm : Int → Int} {sz : Int} : ∀ (j1 j2 : Nat) {k w1 w2 : Int} {al a1 a2 : Int → Int}, St al → RunR nm j1 k al a1 → RunR nm j2 k al a2 → tlE sz nm (k + j1) w1 a1 → tlE sz nm (k + j2) w2 a2 → j2 = j1 ∧ a2 = a1 ∧ w2 = w1 := by
  intro j1
  induction j1 with
  | zero =>
    intro j2 k w1 w2 al a1 a2 hS h1 h2 t1 t2
    have e1 : a1 = al := h1
    subst e1
    cases j2 with
    | zero =>
      have e2 : a2 = a1 := h2
      subst e2
      refine ⟨rfl, rfl, ?_⟩
      rcases t1 with ⟨p1, q1⟩ | ⟨p1, q1, r1⟩ <;> rcases t2 with ⟨p2, q2⟩ | ⟨p2, q2, r2⟩
      · rw [q1, q2]
      · omega
      · omega
      · rw [q1, q2]
    | succ j2 =>
      obtain ⟨b, hw, _, _⟩ := h2
      exfalso
      have e0 : k + ((0 : Nat) : Int) = k := by omega
      rw [e0] at t1
      rcases t1 with ⟨p1, q1⟩ | ⟨p1, q1, r1⟩
      · rcases t2 with ⟨p2, q2⟩ | ⟨p2, q2, r2⟩ <;> omega
      · exact r1 (q1.trans hw)
  | succ j1 ih =>
    intro j2 k w1 w2 al a1 a2 hS h1 h2 t1 t2
    obtain ⟨b, hw, hd, hr⟩ := h1
    cases j2 with
    | zero =>
      have e2 : a2 = al := h2
      subst e2
      exfalso
      have e0 : k + ((0 : Nat) : Int) = k := by omega
      rw [e0] at t2
      rcases t2 with ⟨p2, q2⟩ | ⟨p2, q2, r2⟩
      · rcases t1 with ⟨p1, q1⟩ | ⟨p1, q1, r1⟩ <;> omega
      · exact r2 (q2.trans hw)
    | succ j2 =>
      obtain ⟨b2, hw2, hd2, hr2⟩ := h2
      have hb := dRE_uq hS hw hd hd2
      subst hb
      rw [show k + ((j1 + 1 : Nat) : Int) = k + 1 + (j1 : Int) by omega] at t1
      rw [show k + ((j2 + 1 : Nat) : Int) = k + 1 + (j2 : Int) by omega] at t2
      have := ih j2 (St_dRE hS hw hd).1 hr hr2 t1 t2
      exact ⟨by omega, this.2⟩
theorem YrR_inv : ∀ (m : Nat) {s n : Int} {al al' : Int → Int}, St al → YrR m s al n al' → St al' ∧ kK al al' ∧ al 27 ≤ al' 27 ∧ al' 27 ≤ al 27 + m := by
  intro m
  induction m with
  | zero =>
    intro s n al al' hS h
    have e : al' = al := h.2
    subst e
    exact ⟨hS, fun _ _ => rfl, by omega, by omega⟩
  | succ m ih =>
    intro s n al al' hS h
    rcases h with ⟨hw, a1, hd, hr⟩ | ⟨hw, hr⟩
    · have hs := St_dRE hS hw hd
      have := ih hs.1 hr
      exact ⟨this.1, (dRE_kK hS hw hd).tr this.2.1, by omega, by omega⟩
    · have := ih hS hr
      exact ⟨this.1, this.2.1, by omega, by omega⟩
theorem YrR_uq : ∀ (m : Nat) {s n1 n2 : Int} {al a1 a2 : Int → Int}, St al → YrR m s al n1 a1 → YrR m s al n2 a2 → n2 = n1 ∧ a2 = a1 := by
  intro m
  induction m with
  | zero =>
    intro s n1 n2 al a1 a2 hS h1 h2
    exact ⟨by rw [h1.1, h2.1], by rw [h1.2, h2.2]⟩
  | succ m ih =>
    intro s n1 n2 al a1 a2 hS h1 h2
    rcases h1 with ⟨hw, b1, hd, hr⟩ | ⟨hw, hr⟩ <;> rcases h2 with ⟨hw2, b2, hd2, hr2⟩ | ⟨hw2, hr2⟩
    · have hb := dRE_uq hS hw hd hd2
      subst hb
      have := ih (St_dRE hS hw hd).1 hr hr2
      exact ⟨by omega, this.2⟩
    · exact absurd hw hw2
    · exact absurd hw2 hw
    · exact ih hS hr hr2
/-- a day kept -/
def snp (al : Int → Int) (j k : Int) : Int := if 27 ≤ k ∧ k < 102 then al (103 + 75 * j + (k - 27)) else if k < 27 ∨ 854 ≤ k then al k else 0
theorem snp_kK {al al' : Int → Int} (h : kK al al') {j : Int} (hj : 0 ≤ j) : snp al' j = snp al j := by
  funext k
  unfold snp
  by_cases e : 27 ≤ k ∧ k < 102
  · rw [if_pos e, if_pos e, h _ (by omega)]
  · rw [if_neg e, if_neg e]
    by_cases e2 : k < 27 ∨ 854 ≤ k
    · rw [if_pos e2, if_pos e2, h k (by omega)]
    · rw [if_neg e2, if_neg e2]
def slot (f j : Int) : Int := 60 + 8 * ((f + j) % 10)
def PsR (v : sF) (al : Int → Int) (B : Int) : Prop := v 58 2 = al 102 ∧ (0 ≤ al 102 ∧ al 102 ≤ 10) ∧ (0 ≤ v 58 1 ∧ v 58 1 < 10) ∧ ∀ j : Int, 0 ≤ j → j < al 102 → NowR v (slot (v 58 1) j) (snp al j) ∧ St (snp al j) ∧ snp al j 27 ≤ B
def cPa : List Int := (List.range 82).map (fun i : Nat => 58 + (i : Int))
theorem cPa_mem {b : Int} : b ∈ cPa ↔ (58 ≤ b ∧ b ≤ 139) := by
  unfold cPa
  rw [List.mem_map]
  constructor
  · rintro ⟨i, hi, rfl⟩
    rw [List.mem_range] at hi
    omega
  · intro h
    exact ⟨(b - 58).toNat, List.mem_range.2 (by omega), by omega⟩
theorem PsR.off {S : List Int} {v v' : sF} {al : Int → Int} {B : Int} (h : PsR v al B) (ho : Off S v v') (hs : ∀ k ∈ S, k < 58 ∨ 139 < k) : PsR v' al B := by
  have e : ∀ b : Int, 58 ≤ b → b ≤ 139 → v' b = v b := fun b b0 b1 => ho b (fun z => by have := hs b z; omega)
  unfold PsR at *
  rw [e 58 (by omega) (by omega)]
  refine ⟨h.1, h.2.1, h.2.2.1, fun j j0 j1 => ?_⟩
  have hj := h.2.2.2 j j0 j1
  refine ⟨hj.1.cong (fun k k0 k1 => e _ ?_ ?_), hj.2⟩
  · unfold slot; omega
  · unfold slot; omega
theorem PsR.kk {v : sF} {al al' : Int → Int} {B B' : Int} (h : PsR v al B) (hk : kK al al') (hB : B ≤ B') : PsR v al' B' := by
  unfold PsR at *
  rw [hk 102 (by omega)]
  refine ⟨h.1, h.2.1, h.2.2.1, fun j j0 j1 => ?_⟩
  have hj := h.2.2.2 j j0 j1
  rw [snp_kK hk j0]
  exact ⟨hj.1, hj.2.1, by omega⟩
theorem NowR_cg {v : sF} {a : Int} {al al' : Int → Int} (hL : al 28 ≤ 6) (h : ∀ k : Int, 27 ≤ k → k < 102 → al' k = al k) (hR : NowR v a al) : NowR v a al' := by
  refine ⟨by rw [h 27 (by omega) (by omega)]; exact hR.1, by rw [h 28 (by omega) (by omega)]; exact hR.2.1, fun p p0 p1 => by rw [h (30 + p) (by omega) (by omega), h (36 + p) (by omega) (by omega)]; exact hR.2.2.1 p p0 p1, fun i i0 i1 => by rw [h (42 + i) (by omega) (by omega)]; exact hR.2.2.2.1 i i0 i1, fun l l0 l1 => ?_⟩
  rw [h 28 (by omega) (by omega)] at l1
  rw [h (84 + l) (by omega) (by omega), h (78 + l) (by omega) (by omega), h (90 + l) (by omega) (by omega), h (96 + l) (by omega) (by omega), isG_e (h 29 (by omega) (by omega)) l]
  exact hR.2.2.2.2 l l0 l1
theorem St_cg {al al' : Int → Int} (h : ∀ k : Int, (k < 102 ∨ 854 ≤ k) → al' k = al k) (hS : St al) : St al' := by
  have h0 := hS.2.2.1
  have h2 := hS.1.2.1
  refine ⟨okT_cg (fun k hk => h k (by omega)) hS.1, okN_cg hS.2.1 (h 1 (by omega)) (fun p p0 p1 => by rw [h (30 + p) (by omega), h (36 + p) (by omega)]; exact hS.2.1.1 p p0 p1) (fun i i0 i1 => by rw [h (42 + i) (by omega)]; exact hS.2.1.2 i i0 i1), by rw [h 28 (by omega)]; exact h0, by rw [h 29 (by omega)]; exact hS.2.2.2.1, by rw [h 27 (by omega)]; exact hS.2.2.2.2.1, fun l l0 l1 => ?_, fun l l0 l1 => ?_⟩
  · rw [isG_e (h 29 (by omega)) l]
    exact hS.2.2.2.2.2.1 l (by rw [h 28 (by omega)] at l0; exact l0) l1
  · rw [h 28 (by omega)] at l1
    have hll := hS.2.2.2.2.2.2 l l0 l1
    rw [h (84 + l) (by omega), h (78 + l) (by omega), h (90 + l) (by omega), h (96 + l) (by omega), isG_e (h 29 (by omega)) l, h 2 (by omega), h 1 (by omega), h 27 (by omega), h (30 + al (84 + l)) (by omega)]
    exact hll
/-- pushed onto the past -/
def pshR (al b al' : Int → Int) : Prop := (∀ k : Int, (k < 102 ∨ 103 + 75 * al' 102 ≤ k) → al' k = al k) ∧ al' 102 = (if al 102 = 10 then 10 else al 102 + 1) ∧ (∀ j i : Int, 0 ≤ j → j < al' 102 - 1 → 0 ≤ i → i < 75 → al' (103 + 75 * j + i) = al (103 + 75 * (if al 102 = 10 then j + 1 else j) + i)) ∧ ∀ i : Int, 0 ≤ i → i < 75 → al' (103 + 75 * (al' 102 - 1) + i) = b (27 + i)
theorem nt_slot {i : Int} (h : 0 ≤ i ∧ i < 10) : NT (60 + 8 * i) := by
  rcases (show i = 0 ∨ i = 1 ∨ i = 2 ∨ i = 3 ∨ i = 4 ∨ i = 5 ∨ i = 6 ∨ i = 7 ∨ i = 8 ∨ i = 9 by omega) with e | e | e | e | e | e | e | e | e | e <;> (subst e; unfold NT; decide)
theorem tm_10 {e : Int} (h : 0 ≤ e) : Int.tmod e 10 = e % 10 := tm10 h
/-- what keep leaves, whichever the case -/
theorem PsR_psh {v v2 : sF} {al b al' : Int → Int} {B f s : Int} (hP : PsR v al B) (hp : pshR al b al') (hb : St b) (hbB : b 27 ≤ B) (hbt : ∀ k : Int, (k < 27 ∨ 854 ≤ k) → b k = al k) (hf : f = if al 102 = 10 then (v 58 1 + 1) % 10 else v 58 1) (hs : s = slot f (al' 102 - 1)) (hO : Off (58 :: nOf s) v v2) (hN : NowR v2 s b) (h1 : v2 58 1 = f) (h2 : v2 58 2 = al' 102) : PsR v2 al' B := by
  obtain ⟨p0, p1, p2, p3⟩ := hP
  obtain ⟨q0, q1, q2, q3⟩ := hp
  have hr : 1 ≤ al' 102 ∧ al' 102 ≤ 10 := by rw [q1]; split <;> omega
  have hfr : 0 ≤ f ∧ f < 10 := by rw [hf]; split <;> omega
  refine ⟨h2, by omega, by rw [h1]; exact hfr, fun j j0 j1 => ?_⟩
  rw [h1]
  by_cases e : j = al' 102 - 1
  · rw [e, ← hs]
    have hsn : ∀ k : Int, (k < 102 ∨ 854 ≤ k) → snp al' (al' 102 - 1) k = b k := fun k hk => by
      unfold snp
      by_cases e1 : 27 ≤ k ∧ k < 102
      · rw [if_pos e1, q3 (k - 27) (by omega) (by omega), show 27 + (k - 27) = k by omega]
      · rw [if_neg e1, if_pos (by omega), q0 k (by omega), hbt k (by omega)]
    exact ⟨NowR_cg hb.2.2.1.2 (fun k k0 k1 => hsn k (by omega)) hN, St_cg hsn hb, by rw [hsn 27 (by omega)]; exact hbB⟩
  · obtain ⟨j', hj'⟩ : ∃ j', j' = if al 102 = 10 then j + 1 else j := ⟨_, rfl⟩
    have hjr : 0 ≤ j' ∧ j' < al 102 := by
      rw [hj']
      by_cases e10 : al 102 = 10
      · rw [if_pos e10] at q1 ⊢; omega
      · rw [if_neg e10] at q1 ⊢; omega
    have hsn : snp al' j = snp al j' := by
      funext k
      unfold snp
      by_cases e1 : 27 ≤ k ∧ k < 102
      · rw [if_pos e1, if_pos e1, q2 j (k - 27) j0 (by omega) (by omega) (by omega), hj']
      · rw [if_neg e1, if_neg e1]
        by_cases e2 : k < 27 ∨ 854 ≤ k
        · rw [if_pos e2, if_pos e2, q0 k (by omega)]
        · rw [if_neg e2, if_neg e2]
    have hsl : slot f j = slot (v 58 1) j' := by
      rw [hf, hj']
      unfold slot
      by_cases e10 : al 102 = 10
      · rw [if_pos e10, if_pos e10]; omega
      · rw [if_neg e10, if_neg e10]
    have hj := p3 j' hjr.1 hjr.2
    rw [hsn, hsl]
    refine ⟨hj.1.cong (fun k k0 k1 => hO _ (fun z => ?_)), hj.2⟩
    rw [← hsl, List.mem_cons, nOf_mem, hs] at z
    unfold slot at z
    omega
theorem C_keep {v : sF} {a : Int} {al b al' : Int → Int} {B : Int} (ha : a = 13 ∨ a = 21) (hP : PsR v al B) (hp : pshR al b al') (hb : St b) (hbB : b 27 ≤ B) (hbt : ∀ k : Int, (k < 27 ∨ 854 ≤ k) → b k = al k) (hR : NowR v a b) : ∃ v', Ev (d + 2) 39 [(2, 58), (2, a)] (c, v) none (c, v') ∧ Off cPa v v' ∧ PsR v' al' B := by
  have hP2 := hP
  obtain ⟨p0, p1, p2, p3⟩ := hP2
  have q1 := hp.2.1
  have hnt : NT a := by
    rcases ha with e | e <;> (subst e; unfold NT; decide)
  refine CV_of (loc39 a) (E39_0 a ?_)
  rw [p0]
  refine brbI (fun z => rngI (by omega) ?_) (fun z => rngI (by omega) (rngI (by omega) ?_))
  · rw [if_neg (by omega)] at q1
    rw [tm_10 (by omega)]
    have hsl : slot (v 58 1) (al' 102 - 1) = 60 + 8 * ((v 58 1 + al 102) % 10) := by unfold slot; rw [q1, show al 102 + 1 - 1 = al 102 by omega]
    have hns := nt_slot (i := (v 58 1 + al 102) % 10) (by omega)
    obtain ⟨v2, hE, hO, hN⟩ := C_copy (d := d) (c := c) (v := v) (a0 := 60 + 8 * ((v 58 1 + al 102) % 10)) (a1 := a) hns hnt (by omega) hb.2.2.1.2 hR
    have e58 : v2 58 = v 58 := hO 58 (fun q => by rw [nOf_mem] at q; omega)
    refine chkI (inbI (by omega) (by omega)) (cktI (beqI hns.1) ⟨c, v2, hE, ?_⟩)
    rw [e58, p0]
    have hOf : Off (58 :: nOf (60 + 8 * ((v 58 1 + al 102) % 10))) v (up v2 58 2 (al 102 + 1)) := (hO.wk (fun b hb => List.mem_cons_of_mem _ hb)).up (List.mem_cons_self ..)
    refine rngI (by omega) ⟨rfl, _, rfl, hOf.wk (fun b hb => ?_), PsR_psh hP hp hb hbB hbt (f := v 58 1) (s := 60 + 8 * ((v 58 1 + al 102) % 10)) (by rw [if_neg (by omega)]) hsl.symm hOf (hN.off ((Off.rf [58] v2).up (by decide)) (fun k k0 k1 q => by simp at q; omega)) (by rw [up_ne _ (by decide), e58]) (by rw [up_same, q1])⟩
    rw [cPa_mem]
    rw [List.mem_cons, nOf_mem] at hb
    omega
  · have e10 : al 102 = 10 := by omega
    rw [if_pos e10] at q1
    rw [tm_10 (show 0 ≤ v 58 1 + 1 by omega), e10]
    obtain ⟨f, hf⟩ : ∃ f, f = (v 58 1 + 1) % 10 := ⟨_, rfl⟩
    rw [← hf, tm_10 (by omega)]
    have hsl : slot f (al' 102 - 1) = 60 + 8 * ((f + (10 - 1)) % 10) := by unfold slot; rw [q1]
    have hns := nt_slot (i := (f + (10 - 1)) % 10) (by omega)
    have hOu : Off [58] v (up (up v 58 1 f) 58 2 (10 - 1)) := ((Off.rf _ v).up (by decide)).up (by decide)
    obtain ⟨v2, hE, hO, hN⟩ := C_copy (d := d) (c := c) (v := up (up v 58 1 f) 58 2 (10 - 1)) (a0 := 60 + 8 * ((f + (10 - 1)) % 10)) (a1 := a) hns hnt (by omega) hb.2.2.1.2 (hR.off hOu (fun k k0 k1 q => by simp at q; omega))
    have e58 : v2 58 = up (up v 58 1 f) 58 2 (10 - 1) 58 := hO 58 (fun q => by rw [nOf_mem] at q; omega)
    refine rngI (by omega) (chkI (inbI (by omega) (by omega)) (cktI (beqI hns.1) ⟨c, v2, hE, ?_⟩))
    rw [e58, up_same]
    have hOf : Off (58 :: nOf (60 + 8 * ((f + (10 - 1)) % 10))) v (up v2 58 2 (10 - 1 + 1)) := ((hOu.wk (fun b hb => by simp at hb; rw [hb]; exact List.mem_cons_self ..)).tr (hO.wk (fun b hb => List.mem_cons_of_mem _ hb))).up (List.mem_cons_self ..)
    refine rngI (by omega) ⟨rfl, _, rfl, hOf.wk (fun b hb => ?_), PsR_psh hP hp hb hbB hbt (f := f) (s := 60 + 8 * ((f + (10 - 1)) % 10)) (by rw [if_pos e10]; exact hf) hsl.symm hOf (hN.off ((Off.rf [58] v2).up (by decide)) (fun k k0 k1 q => by simp at q; omega)) (by rw [up_ne _ (by decide), e58, up_ne _ (by decide), up_same]) (by rw [up_same, q1]; rfl)⟩
    rw [cPa_mem]
    rw [List.mem_cons, nOf_mem] at hb
    omega
/-- brought back -/
def uR (al : Int → Int) (x : Int) (al' : Int → Int) : Prop := (∀ k : Int, ¬ (27 ≤ k ∧ k ≤ 102) → al' k = al k) ∧ al' 102 = al 102 - x ∧ ∀ k : Int, 27 ≤ k → k < 102 → al' k = al (103 + 75 * (al 102 - x) + (k - 27))
theorem uR_uq {al a1 a2 : Int → Int} {x : Int} (h1 : uR al x a1) (h2 : uR al x a2) : a2 = a1 := by
  funext k
  by_cases e : 27 ≤ k ∧ k < 102
  · rw [h1.2.2 k e.1 e.2, h2.2.2 k e.1 e.2]
  · by_cases e2 : k = 102
    · rw [e2, h1.2.1, h2.2.1]
    · rw [h1.1 k (by omega), h2.1 k (by omega)]
theorem C_bringBack {v : sF} {x : Int} {al al' : Int → Int} {B : Int} (hx : 1 ≤ x ∧ x ≤ al 102) (hP : PsR v al B) (hu : uR al x al') : ∃ v', Ev (d + 2) 40 [(2, 58), (0, x), (2, 13)] (c, v) none (c, v') ∧ Off (58 :: nOf 13) v v' ∧ PsR v' al' B ∧ NowR v' 13 al' ∧ St al' ∧ al' 27 ≤ B := by
  have hP2 := hP
  obtain ⟨p0, p1, p2, p3⟩ := hP2
  obtain ⟨u0, u1, u2⟩ := hu
  have hns := nt_slot (i := (v 58 1 + (al 102 - x)) % 10) (by omega)
  have hj := p3 (al 102 - x) (by omega) (by omega)
  have hOu : Off [58] v (up v 58 2 (al 102 - x)) := (Off.rf _ v).up (by decide)
  have hsn : ∀ k : Int, (k < 102 ∨ 854 ≤ k) → al' k = snp al (al 102 - x) k := fun k hk => by
    unfold snp
    by_cases e1 : 27 ≤ k ∧ k < 102
    · rw [if_pos e1, u2 k e1.1 e1.2]
    · rw [if_neg e1, if_pos (by omega), u0 k (by omega)]
  have hsl : slot (v 58 1) (al 102 - x) = 60 + 8 * ((v 58 1 + (al 102 - x)) % 10) := rfl
  rw [hsl] at hj
  obtain ⟨v2, hE, hO, hN⟩ := C_copy (d := d) (c := c) (v := up v 58 2 (al 102 - x)) (a0 := 13) (a1 := 60 + 8 * ((v 58 1 + (al 102 - x)) % 10)) NT_13 hns (by omega) hj.2.1.2.2.1.2 (hj.1.off hOu (fun k k0 k1 q => by simp at q; omega))
  have hOf : Off (58 :: nOf 13) v v2 := (hOu.wk (fun b hb => by simp at hb; rw [hb]; exact List.mem_cons_self ..)).tr (hO.wk (fun b hb => List.mem_cons_of_mem _ hb))
  have e58 : v2 58 = up v 58 2 (al 102 - x) 58 := hO 58 (by decide)
  refine CV_of (loc40 x 13) (E40_0 x 13 ?_)
  rw [p0, tm_10 (by omega)]
  refine brbI (fun z => absurd z (by omega)) (fun _ => brbI (fun z => absurd z (by omega)) (fun _ => rngI (by omega) (rngI (by omega) (chkI (inbI (by omega) (by omega)) (cktI (beqI NT_13.1) ⟨c, v2, hE, rfl, v2, rfl, hOf, ⟨?_, by omega, ?_, fun j j0 j1 => ?_⟩, NowR_cg hj.2.1.2.2.1.2 (fun k k0 k1 => hsn k (by omega)) hN, St_cg hsn hj.2.1, by rw [hsn 27 (by omega)]; exact hj.2.2⟩)))))
  · rw [e58, up_same, u1]
  · rw [e58, up_ne _ (by decide)]; exact p2
  · have hsn2 : snp al' j = snp al j := by
      funext k
      unfold snp
      by_cases e1 : 27 ≤ k ∧ k < 102
      · rw [if_pos e1, if_pos e1, u0 _ (by omega)]
      · rw [if_neg e1, if_neg e1]
        by_cases e2 : k < 27 ∨ 854 ≤ k
        · rw [if_pos e2, if_pos e2, u0 k (by omega)]
        · rw [if_neg e2, if_neg e2]
    have hjj := p3 j j0 (by omega)
    rw [hsn2, e58, up_ne _ (by decide)]
    refine ⟨hjj.1.cong (fun k k0 k1 => hOf _ (fun z => ?_)), hjj.2⟩
    rw [List.mem_cons, nOf_mem] at z
    unfold slot at z
    omega
theorem pshR_uq {al b a1 a2 : Int → Int} (h0 : 0 ≤ al 102 ∧ al 102 ≤ 10) (h1 : pshR al b a1) (h2 : pshR al b a2) : a2 = a1 := by
  have e102 : a2 102 = a1 102 := by rw [h1.2.1, h2.2.1]
  have hr : 1 ≤ a1 102 ∧ a1 102 ≤ 10 := by rw [h1.2.1]; split <;> omega
  funext k
  by_cases e : k = 102
  · rw [e]; exact e102
  by_cases e1 : k < 102 ∨ 103 + 75 * a1 102 ≤ k
  · rw [h1.1 k e1, h2.1 k (by rw [e102]; exact e1)]
  · have hk : k = 103 + 75 * ((k - 103) / 75) + (k - 103) % 75 := by omega
    obtain ⟨j, hj⟩ : ∃ j, j = (k - 103) / 75 := ⟨_, rfl⟩
    obtain ⟨i, hi⟩ : ∃ i, i = (k - 103) % 75 := ⟨_, rfl⟩
    rw [← hj, ← hi] at hk
    by_cases e2 : j = a1 102 - 1
    · have q1 := h1.2.2.2 i (by omega) (by omega)
      have q2 := h2.2.2.2 i (by omega) (by omega)
      rw [e102, ← e2, ← hk] at q2
      rw [← e2, ← hk] at q1
      rw [q1, q2]
    · have q1 := h1.2.2.1 j i (by omega) (by omega) (by omega) (by omega)
      have q2 := h2.2.2.1 j i (by omega) (by rw [e102]; omega) (by omega) (by omega)
      rw [← hk] at q1 q2
      rw [q1, q2]
end Dd8
