theorem idxOf_rng (x : Int) (l : List Int) : ∀ i : Int, 0 ≤ i → -1 ≤ idxOf x i l ∧ idxOf x i l ≤ i + l.length := by
  induction l with
  | nil => intro i h; unfold idxOf; simp; omega
  | cons a r ih =>
    intro i h
    unfold idxOf
    split
    · simp; omega
    · have := ih (i + 1) (by omega)
      simp at this ⊢
      omega
theorem sLen_ok (k : Nat) : (sTab.getD k []).length < 200 := by
  by_cases h : k < sTab.length
  · rw [List.getD_eq_getElem?_getD, List.getElem?_eq_getElem h]
    have := List.all_eq_true.mp sTab_ok _ (List.getElem_mem h)
    simp only [Bool.and_eq_true, decide_eq_true_eq] at this
    exact this.1
  · rw [List.getD_eq_getElem?_getD, List.getElem?_eq_none (by omega)]
    simp
theorem sCh_ok (k i : Nat) : 0 ≤ (sTab.getD k []).getD i 0 ∧ (sTab.getD k []).getD i 0 < 128 := by
  by_cases h : k < sTab.length
  · rw [List.getD_eq_getElem?_getD (l := sTab), List.getElem?_eq_getElem h]
    have h1 := List.all_eq_true.mp sTab_ok _ (List.getElem_mem h)
    simp only [Bool.and_eq_true] at h1
    rw [List.getD_eq_getElem?_getD]
    dsimp only [Option.getD_some]
    by_cases hi : i < (sTab[k]).length
    · rw [List.getElem?_eq_getElem hi]
      have h2 := List.all_eq_true.mp h1.2 _ (List.getElem_mem hi)
      simp only [Bool.and_eq_true, decide_eq_true_eq] at h2
      exact h2
    · rw [List.getElem?_eq_none (by omega)]
      simp
  · rw [List.getD_eq_getElem?_getD (l := sTab), List.getElem?_eq_none (by omega)]
    simp
theorem slT_obj {a : Int} {ci k : Nat} (h : tyT a = 10 + ci) (hc : ci < 13) : slT a (k : Int) = fTag ci k % 4 := by
  unfold slT
  rw [if_neg (by omega), if_neg (by omega), if_pos (by omega), h]
  simp
theorem slT_ref {a i : Int} (h : 40 ≤ tyT a) : slT a i = 2 := by
  unfold slT
  rw [if_neg (by omega), if_neg (by omega), if_neg (by omega)]
theorem slT_int {a i : Int} (h : tyT a = 1 ∨ tyT a = 3 ∨ tyT a = 4) : slT a i = 0 := by
  unfold slT
  rw [if_neg (by omega), if_pos (by omega)]
theorem slT_long {a i : Int} (h : tyT a = 2) : slT a i = 1 := by
  unfold slT
  rw [if_pos h]
theorem inb_iff {i n : Int} : inb i n = true ↔ 0 ≤ i ∧ i < n := by unfold inb; simp
section SiInv
variable {call : sK} (hcall : callOk call) {L : Nat} {xs : Int → Int} (hL : L < 2147483648) (hxs : ∀ i, -2147483648 ≤ xs i ∧ xs i ≤ 2147483647) {fm : Nat} {ff : Prop} (hf1 : fm = 1 → ff) (hf2 : ff → fm = 1 ∨ fm = 2) {c0 own rt : Nat}
theorem st_rd {ci k : Nat} {a : Int} {c : Nat} {v : sF} (hc : ci < 13) (ha : tyT a = 10 + ci) (hk : k < nF ci) (hac : a ≤ c) (hM : okM c v) (hF : FullP (c, v)) {t : Nat} {o : Int} (e : (stTab.getD ci []).getD k (0, 0) = (t, o)) (htag : fTag ci k = 2) : (t = 1 → okV c (2, a + o)) ∧ (t = 2 → okV c (2, o)) := by
  have h1 : 1 ≤ a := ty_pos (by omega)
  have h2 := hF.2.1 a ci k h1 hac ha hc
  have h3 := hM a k h1 hac (by omega) (by rw [ty_obj ha hc]; omega)
  rw [slT_obj ha hc, htag] at h3
  dsimp only at h2
  unfold stF at h2
  rw [e] at h2
  constructor
  · intro ht
    subst ht
    rw [h2] at h3
    exact h3
  · intro ht
    subst ht
    rw [h2] at h3
    exact h3
theorem stTab_tag : ∀ ci, ci < 13 → ∀ k, k < nF ci → ((stTab.getD ci []).getD k (0, 0)).1 ≠ 0 → fTag ci k = 2 := by
  have h : (List.range 13).all (fun ci => (List.range (nF ci)).all (fun k => decide (((stTab.getD ci []).getD k (0, 0)).1 = 0) || decide (fTag ci k = 2))) = true := by decide +kernel
  intro ci hc k hk hn
  have h1 := List.all_eq_true.mp (List.all_eq_true.mp h ci (List.mem_range.mpr hc)) k (List.mem_range.mpr hk)
  simp only [Bool.or_eq_true, decide_eq_true_eq] at h1
  rcases h1 with h1 | h1
  · exact absurd h1 hn
  · exact h1
end SiInv
