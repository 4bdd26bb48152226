section Stc
variable {d : Nat}
/-- the memory at the start -/
def mS : sF := nMo 163 (zer (nB4 (zer (fun _ _ => 0) 1)) 163)
def vS : sF := stc mS 164 (plA (mS 164))
theorem vS_o {b : Int} (h : b ≠ 164) : vS b = mS b := by unfold vS stc; rw [if_neg h]
theorem vS_al : vS 164 = plA (mS 164) := by unfold vS stc; rw [if_pos rfl]
def fullB : Bool := (List.range 182).all (fun a => !(decide (10 ≤ tyT (a : Int)) && decide (tyT (a : Int) < 23)) || (List.range 40).all (fun k => !(isSt (tyT (a : Int) - 10) k) || decide (mS a k = stF (tyT (a : Int) - 10) k a (mS a k))))
set_option maxRecDepth 100000 in
theorem fullB_t : fullB = true := by decide +kernel
def eqB1 (l : List (Int × Int × Int)) : Bool := l.all (fun q => decide (mS q.1 q.2.1 = q.2.2))
theorem eqB1_of {l : List (Int × Int × Int)} (h : eqB1 l = true) {a i x : Int} (hm : (a, i, x) ∈ l) : mS a i = x := by
  have := List.all_eq_true.1 h (a, i, x) hm
  simpa using this
def zB (l : List (Int × Nat)) : Bool := l.all (fun q => (List.range q.2).all (fun j => decide (mS q.1 j = 0)))
theorem zB_of {l : List (Int × Nat)} (h : zB l = true) {a : Int} {n : Nat} (hm : (a, n) ∈ l) {j : Int} (h0 : 0 ≤ j) (h1 : j < n) : mS a j = 0 := by
  have h2 := List.all_eq_true.1 h (a, n) hm
  have h3 := List.all_eq_true.1 h2 j.toNat (List.mem_range.2 (by omega))
  have h4 : mS a ((j.toNat : Nat) : Int) = 0 := by simpa using h3
  rw [show ((j.toNat : Nat) : Int) = j by omega] at h4
  exact h4
def stL : List (Int × Int × Int) := [(3, 0, 2), (3, 1, 0), (3, 2, 0), (13, 3, 0), (13, 4, 0), (58, 1, 0), (58, 2, 0), (1, 1, 0), (163, 5, 0), (37, 2, 0), (37, 3, -1), (163, 13, 0), (163, 14, -1), (163, 18, -1), (59, 0, 60), (59, 1, 68), (59, 2, 76), (59, 3, 84), (59, 4, 92), (59, 5, 100), (59, 6, 108), (59, 7, 116), (59, 8, 124), (59, 9, 132), (151, 0, 155), (151, 1, 157), (151, 2, 159), (151, 3, 161), (179, 0, -1), (179, 1, -1), (179, 2, -1), (179, 3, -1), (155, 0, 0), (157, 0, 0), (159, 0, 0), (161, 0, 0)]
def stZ : List (Int × Nat) := [(4, 6), (5, 6), (6, 6), (9, 2), (10, 2), (14, 6), (15, 6), (16, 36), (152, 2), (153, 2), (165, 2), (180, 4)]
set_option maxRecDepth 100000 in
theorem stL_t : eqB1 stL = true := by decide +kernel
set_option maxRecDepth 100000 in
theorem stZ_t : zB stZ = true := by decide +kernel
theorem isSt_big {ci k : Nat} (hc : ci < 13) (hk : 40 ≤ k) : isSt ci k = false := by
  have key : ∀ c : Fin 13, (stTab.getD c.val []).length ≤ 40 := by decide +kernel
  have h := key ⟨ci, hc⟩
  simp only at h
  unfold isSt
  rw [List.getD_eq_getElem?_getD (l := stTab.getD ci []), List.getElem?_eq_none (by omega)]
  rfl
theorem stF_n {ci k : Nat} {a x : Int} (h : isSt ci k = false) : stF ci k a x = x := by
  unfold isSt at h
  unfold stF
  cases hq : (stTab.getD ci []).getD k (0, 0) with
  | mk t o =>
    rw [hq] at h
    have : t = 0 := by simpa using h
    subst this
    rfl
theorem vS_full : FullP (181, vS) := by
  refine ⟨by decide, fun a ci k a1 a2 ht hc => ?_, fun a i a1 a2 i0 i1 => ?_⟩
  · have a2' : a ≤ 181 := a2
    rcases Decidable.em (isSt ci k = true) with hs | hs
    · have h1 := List.all_eq_true.1 fullB_t a.toNat (List.mem_range.2 (by omega))
      rw [show ((a.toNat : Nat) : Int) = a by omega] at h1
      rw [ht] at h1
      have e1 : (decide (10 ≤ 10 + ci) && decide (10 + ci < 23)) = true := by simp; omega
      rw [e1] at h1
      have h2 : ((List.range 40).all (fun k => !(isSt (10 + ci - 10) k) || decide (mS a k = stF (10 + ci - 10) k a (mS a k)))) = true := by simpa using h1
      rw [show 10 + ci - 10 = ci by omega] at h2
      rcases Nat.lt_or_ge k 40 with hk | hk
      · have h3 := List.all_eq_true.1 h2 k (List.mem_range.2 hk)
        rw [hs] at h3
        have h4 : mS a k = stF ci k a (mS a k) := by simpa using h3
        have hne : a ≠ 164 := fun q => by
          rw [q] at ht
          have : tyT 164 = 1 := by decide +kernel
          omega
        show vS a k = stF ci k a (vS a k)
        rw [vS_o hne]; exact h4
      · rw [isSt_big hc hk] at hs; exact absurd hs (by decide)
    · rw [stF_n (by simpa using hs)]
  · show vS a i = stA a i (vS a i)
    rcases Decidable.em (a = 59) with q | q
    · subst q
      have hl : lnT 59 = 10 := by decide +kernel
      rw [hl] at i1
      rw [vS_o (by decide), show stA 59 i (mS 59 i) = 60 + 8 * i from rfl]
      rcases (show i = 0 ∨ i = 1 ∨ i = 2 ∨ i = 3 ∨ i = 4 ∨ i = 5 ∨ i = 6 ∨ i = 7 ∨ i = 8 ∨ i = 9 by omega) with e | e | e | e | e | e | e | e | e | e <;> subst e <;> exact eqB1_of stL_t (by decide)
    · rcases Decidable.em (a = 151) with q2 | q2
      · subst q2
        have hl : lnT 151 = 4 := by decide +kernel
        rw [hl] at i1
        rw [vS_o (by decide), show stA 151 i (mS 151 i) = 155 + 2 * i from rfl]
        rcases (show i = 0 ∨ i = 1 ∨ i = 2 ∨ i = 3 by omega) with e | e | e | e <;> subst e <;> exact eqB1_of stL_t (by decide)
      · rw [stA_n q q2]
theorem vS_rl : Rl0 0 181 vS := by
  have q : ∀ {a i x : Int}, a ≠ 164 → (a, i, x) ∈ stL → vS a i = x := fun ha hm => by rw [vS_o ha]; exact eqB1_of stL_t hm
  have z : ∀ {a : Int} {n : Nat}, a ≠ 164 → (a, n) ∈ stZ → ∀ j : Int, 0 ≤ j → j < n → vS a j = 0 := fun ha hm j j0 j1 => by rw [vS_o ha]; exact zB_of stZ_t hm j0 j1
  have e : ∀ k : Int, k ≠ 1 → 0 ≤ k → k < 1754 → vS 164 k = 0 := fun k k1 k0 k2 => by rw [vS_al]; exact pl_e _ k1 k0 k2
  have e1 : vS 164 1 = 2 := by rw [vS_al]; rfl
  have hW : WF (vS 164) := by
    have := pl_WF (mS 164) (x := 2) (by omega)
    have hu : ua (plA (mS 164)) 1 2 = plA (mS 164) := ua_id (plA (mS 164)) 1
    rw [hu] at this
    rw [vS_al]; exact this
  have hlw : ∀ l : Int, (l = 0 ∨ l = 1) → LawR vS (3 + 4) (vS 164) l := fun l hl => by
    refine ⟨fun _ => ?_, fun w => absurd (e (3 + l) (by omega) (by omega) (by omega)) w⟩
    show vS 10 l ≤ vS 9 l
    rw [z (n := 2) (by decide) (by decide) l (by omega) (by omega), z (n := 2) (by decide) (by decide) l (by omega) (by omega)]
    omega
  refine ⟨⟨⟨?_, ?_, ?_, fun p p0 p1 => ⟨?_, ?_, ?_⟩, hlw 0 (Or.inl rfl), hlw 1 (Or.inr rfl)⟩, ?_, ?_, fun p p0 p1 => ⟨?_, ?_⟩, fun i i0 i1 => ?_, fun l l0 l1 => ?_⟩, hW.st (by rw [e 853 (by omega) (by omega) (by omega)]; omega), ?_, ⟨?_, ?_, ?_, fun j j0 j1 => ?_⟩, fun i i0 i1 => ?_, ?_, fun t t0 t1 => ?_, ⟨?_, ?_, fun i i0 i1 => ?_⟩, ⟨?_, ?_⟩, q (by decide) (by decide)⟩
  · rw [e1]; exact q (by decide) (by decide)
  · rw [e 2 (by omega) (by omega) (by omega)]; exact q (by decide) (by decide)
  · rw [e 0 (by omega) (by omega) (by omega)]; exact q (by decide) (by decide)
  · rw [e (9 + p) (by omega) (by omega) (by omega)]; exact z (n := 6) (a := 4) (by decide) (by decide) p p0 p1
  · rw [e (15 + p) (by omega) (by omega) (by omega)]; exact z (n := 6) (a := 5) (by decide) (by decide) p p0 p1
  · rw [e (21 + p) (by omega) (by omega) (by omega)]; exact z (n := 6) (a := 6) (by decide) (by decide) p p0 p1
  · rw [e 27 (by omega) (by omega) (by omega)]; exact q (by decide) (by decide)
  · rw [e 28 (by omega) (by omega) (by omega)]; exact q (by decide) (by decide)
  · rw [e (30 + p) (by omega) (by omega) (by omega)]; exact z (n := 6) (a := 14) (by decide) (by decide) p p0 p1
  · rw [e (36 + p) (by omega) (by omega) (by omega)]; exact z (n := 6) (a := 15) (by decide) (by decide) p p0 p1
  · rw [e (42 + i) (by omega) (by omega) (by omega)]; exact z (n := 36) (a := 16) (by decide) (by decide) i i0 i1
  · rw [e 28 (by omega) (by omega) (by omega)] at l1; omega
  · rw [e 27 (by omega) (by omega) (by omega)]; unfold dB; omega
  · rw [e 102 (by omega) (by omega) (by omega)]; exact q (by decide) (by decide)
  · rw [e 102 (by omega) (by omega) (by omega)]; omega
  · rw [q (a := 58) (i := 1) (x := 0) (by decide) (by decide)]; omega
  · rw [e 102 (by omega) (by omega) (by omega)] at j1; omega
  · exact Or.inl ⟨z (n := 2) (by decide) (by decide) i i0 (by omega), z (n := 2) (by decide) (by decide) i i0 (by omega), z (n := 2) (by decide) (by decide) i i0 (by omega)⟩
  · exact Or.inl ⟨rfl, z (n := 2) (by decide) (by decide) 0 (by omega) (by omega), z (n := 2) (by decide) (by decide) 1 (by omega) (by omega)⟩
  · have h1 : vS 179 t = -1 := by rcases (show t = 0 ∨ t = 1 ∨ t = 2 ∨ t = 3 by omega) with w | w | w | w <;> subst w <;> exact q (by decide) (by decide)
    have h2 : vS 180 t = 0 := z (n := 4) (by decide) (by decide) t t0 (by omega)
    have h3 : vS (155 + 2 * t) 0 = 0 := by rcases (show t = 0 ∨ t = 1 ∨ t = 2 ∨ t = 3 by omega) with w | w | w | w <;> subst w <;> exact q (by decide) (by decide)
    rw [h1, h2, h3]
    exact ⟨Or.inl rfl, by omega, by rw [if_pos rfl], fun w => absurd rfl w⟩
  · rw [q (a := 1) (i := 1) (x := 0) (by decide) (by decide), q (a := 163) (i := 5) (x := 0) (by decide) (by decide)]
  · rw [q (a := 163) (i := 5) (x := 0) (by decide) (by decide)]; omega
  · rw [q (a := 163) (i := 5) (x := 0) (by decide) (by decide)] at i1; omega
  · rw [q (a := 37) (i := 2) (x := 0) (by decide) (by decide), q (a := 163) (i := 13) (x := 0) (by decide) (by decide)]
  · rw [q (a := 37) (i := 3) (x := -1) (by decide) (by decide), q (a := 163) (i := 14) (x := -1) (by decide) (by decide)]
theorem st_ok : okM 181 vS ∧ Ev 120 107 [(2, 1)] (1, zer (fun _ _ => 0) 1) none (162, nB4 (zer (fun _ _ => 0) 1)) ∧ Ev 120 169 [(2, 163)] (163, zer (nB4 (zer (fun _ _ => 0) 1)) 163) none (181, vS) := by
  have e1 : Ev 120 107 [(2, 1)] (1, zer (fun _ _ => 0) 1) none (162, nB4 (zer (fun _ _ => 0) 1)) := i107 (d := 116)
  have e2 : Ev 120 169 [(2, 163)] (163, zer (nB4 (zer (fun _ _ => 0) 1)) 163) none (181, vS) := i169 (d := 118)
  refine ⟨?_, e1, e2⟩
  have m0 : okM 0 (fun _ _ => 0) := fun a i a1 a2 => absurd a2 (by omega)
  have m1 := okM_new m0
  have k1 := ev_ok 120 _ _ _ _ _ _ _ e1 (fun x hx => by
    rw [List.mem_singleton] at hx
    subst hx
    show 0 ≤ (1 : Int) ∧ (1 : Int) ≤ ((1 : Nat) : Int)
    omega) m1 (fun z => absurd z (by decide +kernel))
  have m2 := okM_new k1.2.2.1
  have k2 := ev_ok 120 _ _ _ _ _ _ _ e2 (fun x hx => by
    rw [List.mem_singleton] at hx
    subst hx
    show 0 ≤ (163 : Int) ∧ (163 : Int) ≤ ((163 : Nat) : Int)
    omega) m2 (fun z => absurd z (by decide +kernel))
  exact k2.2.2.1
end Stc
