section Img3
variable {d : Nat}
theorem CX_of {d y : Nat} {as ls : List sV} {c c2 : Nat} {v : sF} {X : Int} {Post : sF → Prop} (hl : loc0 as (mMax y) = ls) (h : Wp (Ev d) 0 (fun _ => 0) y (fun r μ => r = some (0, X) ∧ ∃ v', μ = (c2, v') ∧ Post v') 0 ls [] c v) : ∃ v', Ev (d + 1) y as (c, v) (some (0, X)) (c2, v') ∧ Post v' := by
  subst hl
  obtain ⟨r, c', v', h1, h2, v2, h3, h4⟩ := Cl_of (Q := fun r c' v' => r = some (0, X) ∧ ∃ v2, (c', v') = (c2, v2) ∧ Post v2) h
  subst h2; cases h3
  exact ⟨v', h1, h4⟩
theorem stA_n {a i x : Int} (h1 : a ≠ 59) (h2 : a ≠ 151) : stA a i x = x := by
  unfold stA
  have : stArr.find? (fun q => q.1 == a) = none := by
    simp [stArr]
    omega
  rw [this]
theorem TT2_im {a : Int} (h : a = 182 ∨ a = 200) : TT2 a := by
  rcases h with e | e <;> (subst e; unfold TT2; decide)
theorem ci_a {ci n : Nat} (k : Nat) (h : k = 10 + ci) (e : k = 10 + n) : ci = n := by omega
theorem ac_sub (C a : Int) : C + (a - C) = a := by omega
theorem ac_3 (C x y z : Int) (h : x = y + z) : C + x = C + y + z := by omega
theorem a_s {a C : Int} (hC : C = 182 ∨ C = 200) (hs : a = 59 ∨ a = 151) : a < C ∧ a ≠ 152 ∧ a ≠ 153 := by omega
theorem k_3 (k : Nat) : (3 : Int) ≤ ((k + 3 : Nat) : Int) := by omega
theorem k_2 (k : Nat) : ((k + 2 : Nat) : Int) ≠ 1 := by omega
theorem ci_b {ci : Nat} (h : 1 = 10 + ci) : False := by omega
theorem j_r {a C j : Int} {c : Nat} (hc : (c : Int) + 1 = C) (a1 : a ≤ ((c + 18 : Nat) : Int)) (hlt : ¬ a < C) (hj : a = C + j) : 0 ≤ j ∧ j ≤ 17 := by omega
theorem c_n {ci n : Nat} (hn : 23 ≤ n) (h : n = 10 + ci) (hc : ci < 13) : False := by omega
theorem a_c {a C : Int} {c : Nat} (hc : (c : Int) + 1 = C) (h : a < C) : a ≤ (c : Int) := by omega
/-- full again, with the new cells -/
theorem Full_new {c : Nat} {v w : sF} {C : Int} (hc : (c : Int) + 1 = C) (hC : C = 182 ∨ C = 200) (hF : FullP (c, v)) (ho : ∀ b : Int, b < C → b ≠ 152 → b ≠ 153 → w b = v b) (ht : w C 3 = C + 1 ∧ w C 4 = C + 2 ∧ w C 5 = C + 3 ∧ w C 6 = C + 4) (hl : w (C + 4) 0 = C + 5 ∧ w (C + 4) 2 = C + 6 ∧ w (C + 4) 3 = C + 7 ∧ w (C + 4) 4 = C + 8 ∧ w (C + 4) 6 = C + 9) (hn : w (C + 10) 0 = C + 11 ∧ w (C + 10) 1 = C + 12 ∧ w (C + 10) 2 = C + 13 ∧ w (C + 10) 5 = C + 14 ∧ w (C + 10) 6 = C + 15 ∧ w (C + 10) 7 = C + 16 ∧ w (C + 10) 8 = C + 17) : FullP (c + 18, w) := by
  obtain ⟨f0, f1, f2⟩ := hF
  have f0 : lastC ≤ c := f0
  have ty : tyT C = 18 ∧ tyT (C + 4) = 12 ∧ tyT (C + 10) = 13 ∧ ∀ j : Int, 0 ≤ j → j ≤ 17 → j ≠ 0 → j ≠ 4 → j ≠ 10 → tyT (C + j) = 1 := by
    rcases hC with e | e <;> subst e
    · refine ⟨rfl, rfl, rfl, fun j j0 j1 h0 h4 h10 => ?_⟩
      rcases (show j = 1 ∨ j = 2 ∨ j = 3 ∨ j = 5 ∨ j = 6 ∨ j = 7 ∨ j = 8 ∨ j = 9 ∨ j = 11 ∨ j = 12 ∨ j = 13 ∨ j = 14 ∨ j = 15 ∨ j = 16 ∨ j = 17 by omega) with e | e | e | e | e | e | e | e | e | e | e | e | e | e | e <;> (subst e; rfl)
    · refine ⟨rfl, rfl, rfl, fun j j0 j1 h0 h4 h10 => ?_⟩
      rcases (show j = 1 ∨ j = 2 ∨ j = 3 ∨ j = 5 ∨ j = 6 ∨ j = 7 ∨ j = 8 ∨ j = 9 ∨ j = 11 ∨ j = 12 ∨ j = 13 ∨ j = 14 ∨ j = 15 ∨ j = 16 ∨ j = 17 by omega) with e | e | e | e | e | e | e | e | e | e | e | e | e | e | e <;> (subst e; rfl)
  refine ⟨Nat.le_trans f0 (by omega), fun a ci k a0 a1 hty hci => ?_, fun a i a0 a1 i0 i1 => ?_⟩
  · have a1 : a ≤ ((c + 18 : Nat) : Int) := a1
    by_cases hlt : a < C
    · have h152 : a ≠ 152 := fun q => by rw [q, show tyT 152 = 48 from rfl] at hty; exact c_n (by decide) hty hci
      have h153 : a ≠ 153 := fun q => by rw [q, show tyT 153 = 43 from rfl] at hty; exact c_n (by decide) hty hci
      show w a k = stF ci k a (w a k)
      rw [ho a hlt h152 h153]
      exact f1 a ci k a0 (a_c hc hlt) hty hci
    · obtain ⟨j, hj⟩ : ∃ j, a = C + j := ⟨a - C, (ac_sub C a).symm⟩
      have hjr := j_r hc a1 hlt hj
      show w a k = stF ci k a (w a k)
      by_cases e0 : j = 0
      · have ea : a = C := by rw [hj, e0, Int.add_zero]
        rw [ea, ty.1] at hty
        have hci8 : ci = 8 := ci_a 18 hty rfl
        subst hci8
        rw [ea]
        match k with
        | 0 => rfl
        | 1 => rfl
        | 2 => rfl
        | 3 => exact ht.1
        | 4 => exact ht.2.1
        | 5 => exact ht.2.2.1
        | 6 => exact ht.2.2.2
        | k + 7 => rfl
      by_cases e4 : j = 4
      · have ea : a = C + 4 := by rw [hj, e4]
        rw [ea, ty.2.1] at hty
        have hci8 : ci = 2 := ci_a 12 hty rfl
        subst hci8
        rw [ea]
        match k with
        | 0 => exact hl.1.trans (ac_3 C 5 4 1 rfl)
        | 1 => rfl
        | 2 => exact hl.2.1.trans (ac_3 C 6 4 2 rfl)
        | 3 => exact hl.2.2.1.trans (ac_3 C 7 4 3 rfl)
        | 4 => exact hl.2.2.2.1.trans (ac_3 C 8 4 4 rfl)
        | 5 => rfl
        | 6 => exact hl.2.2.2.2.trans (ac_3 C 9 4 5 rfl)
        | k + 7 => rfl
      by_cases e10 : j = 10
      · have ea : a = C + 10 := by rw [hj, e10]
        rw [ea, ty.2.2.1] at hty
        have hci8 : ci = 3 := ci_a 13 hty rfl
        subst hci8
        rw [ea]
        match k with
        | 0 => exact hn.1.trans (ac_3 C 11 10 1 rfl)
        | 1 => exact hn.2.1.trans (ac_3 C 12 10 2 rfl)
        | 2 => exact hn.2.2.1.trans (ac_3 C 13 10 3 rfl)
        | 3 => rfl
        | 4 => rfl
        | 5 => exact hn.2.2.2.1.trans (ac_3 C 14 10 4 rfl)
        | 6 => exact hn.2.2.2.2.1.trans (ac_3 C 15 10 5 rfl)
        | 7 => exact hn.2.2.2.2.2.1.trans (ac_3 C 16 10 6 rfl)
        | 8 => exact hn.2.2.2.2.2.2.trans (ac_3 C 17 10 7 rfl)
        | k + 9 => rfl
      · exfalso
        rw [hj, ty.2.2.2 j hjr.1 hjr.2 e0 e4 e10] at hty
        exact ci_b hty
  · show w a i = stA a i (w a i)
    by_cases hs : a = 59 ∨ a = 151
    · have h3 : a < C ∧ a ≠ 152 ∧ a ≠ 153 := a_s hC hs
      rw [ho a h3.1 h3.2.1 h3.2.2]
      exact f2 a i a0 (a_c hc h3.1) i0 i1
    · rw [stA_n (fun q => hs (Or.inl q)) (fun q => hs (Or.inr q))]
theorem Full_ch {c : Nat} {v v' : sF} (h : FullP (c, v)) (h1 : ∀ (a : Int) (ci k : Nat), tyT a = 10 + ci → ci < 13 → isSt ci k = true → v' a k = v a k) (h2 : v' 59 = v 59) (h3 : v' 151 = v 151) : FullP (c, v') := by
  obtain ⟨f0, f1, f2⟩ := h
  refine ⟨f0, fun a ci k a0 a1 hty hci => ?_, fun a i a0 a1 i0 i1 => ?_⟩
  · show v' a k = stF ci k a (v' a k)
    have hf : v a k = stF ci k a (v a k) := f1 a ci k a0 a1 hty hci
    have hs : isSt ci k = true → v' a k = v a k := h1 a ci k hty hci
    unfold isSt at hs
    unfold stF at hf ⊢
    generalize (stTab.getD ci []).getD k (0, 0) = q at *
    match q with
    | (0, o) => rfl
    | (1, o) => rw [hs rfl]; exact hf
    | (2, o) => rw [hs rfl]; exact hf
    | (n + 3, o) => rfl
  · show v' a i = stA a i (v' a i)
    by_cases e1 : a = 59
    · rw [e1, h2, ← e1]; exact f2 a i a0 a1 i0 i1
    · by_cases e2 : a = 151
      · rw [e2, h3, ← e2]; exact f2 a i a0 a1 i0 i1
      · rw [stA_n e1 e2]
/-- Told.copy keeps it full -/
theorem Full_copyT {c : Nat} {v v' : sF} {t : Int} (h : FullP (c, v)) (ht : t = 3 ∨ t = 182 ∨ t = 200) (hO : Off (tOf t) v v') (h3 : ∀ j : Int, 3 ≤ j → v' t j = v t j) (h4 : ∀ j : Int, j ≠ 1 → v' (t + 4) j = v (t + 4) j) : FullP (c, v') := by
  refine Full_ch h (fun a ci k hty hci hs => ?_) (hO 59 (fun z => by rw [tOf_mem] at z; rcases ht with e | e | e <;> (subst e; omega))) (hO 151 (fun z => by rw [tOf_mem] at z; rcases ht with e | e | e <;> (subst e; omega)))
  by_cases hm : a ∈ tOf t
  · have hT : TT t := by
      rcases ht with e | e | e
      · rw [e]; exact TT_3
      · rw [e]; exact TT_182
      · rw [e]; exact TT_200
    obtain ⟨t0, t1, t2, t3, t4, t5, t6, t7⟩ := hT
    unfold tOf at hm
    simp only [List.mem_cons, List.not_mem_nil, or_false] at hm
    rcases hm with e | e | e | e | e | e | e | e
    · rw [e, t0] at hty
      have : ci = 8 := ci_a 18 hty rfl
      subst this
      rw [e]
      match k, hs with
      | k + 3, _ => exact h3 _ (k_3 k)
    · rw [e, t1.1] at hty; exact (ci_b hty).elim
    · rw [e, t2.1] at hty; exact (ci_b hty).elim
    · rw [e, t3.1] at hty; exact (ci_b hty).elim
    · rw [e, t4] at hty
      have : ci = 2 := ci_a 12 hty rfl
      subst this
      rw [e]
      match k, hs with
      | 0, _ => exact h4 _ (by decide)
      | k + 2, _ => exact h4 _ (k_2 k)
    · rw [e, t5.1] at hty; exact (ci_b hty).elim
    · rw [e, t6.1] at hty; exact (ci_b hty).elim
    · rw [e, t7.1] at hty; exact (ci_b hty).elim
  · rw [hO a hm]
end Img3
