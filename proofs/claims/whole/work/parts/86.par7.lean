section Par7
variable {c : Nat}
/-- a law as it was read -/
def LwP (al : Int → Int) (l : Int) : Prop := al (3 + l) ≠ 0 → (0 ≤ al (5 + l) ∧ 1 ≤ al (7 + l) ∧ al (5 + l) + al (7 + l) ≤ al 853) ∧ okLaw (lwC al l) (lwN al l) ∧ ∀ k : Nat, k < lwN al l → wok l (lwC al l k)
/-- what was read so far -/
def WF (al : Int → Int) : Prop := (2 ≤ al 1 ∧ al 1 ≤ 6) ∧ (0 ≤ al 2 ∧ al 2 ≤ 6) ∧ (∀ p : Int, 0 ≤ p → p < 6 → (0 ≤ al (9 + p) ∧ al (9 + p) < al 1) ∧ (0 ≤ al (15 + p) ∧ al (15 + p) ≤ 9) ∧ (0 ≤ al (21 + p) ∧ al (21 + p) ≤ 10)) ∧ (∀ p : Int, 0 ≤ p → p < 6 → (0 ≤ al (30 + p) ∧ al (30 + p) < al 1) ∧ (0 ≤ al (36 + p) ∧ al (36 + p) ≤ 9)) ∧ (∀ i : Int, 0 ≤ i → i < 36 → 0 ≤ al (42 + i) ∧ al (42 + i) ≤ 9) ∧ ((0 ≤ al 27 ∧ al 27 ≤ 999) ∧ al 28 = 0 ∧ al 29 = 0 ∧ al 102 = 0) ∧ 0 ≤ al 853 ∧ LwP al 0 ∧ LwP al 1
theorem LwP.cg {al al' : Int → Int} {l : Int} (h : LwP al l) (hl : l = 0 ∨ l = 1) (h3 : al' (3 + l) = al (3 + l) ∧ al' (5 + l) = al (5 + l) ∧ al' (7 + l) = al (7 + l)) (h8 : al 853 ≤ al' 853) (hc : ∀ k : Int, 0 ≤ k → k < al 853 → al' (854 + k) = al (854 + k)) : LwP al' l := by
  unfold LwP at *
  rw [h3.1, h3.2.1, h3.2.2]
  intro z
  obtain ⟨a1, a2, a3⟩ := h z
  have en : lwN al' l = lwN al l := by unfold lwN; rw [h3.2.2]
  have hN : (lwN al l : Int) = al (7 + l) := by unfold lwN; omega
  have ec : ∀ k : Nat, k < lwN al l → lwC al' l k = lwC al l k := fun k hk => by
    unfold lwC
    rw [h3.2.1, show 854 + al (5 + l) + (k : Int) = 854 + (al (5 + l) + k) by omega]
    exact hc _ (by omega) (by omega)
  refine ⟨by omega, ?_, fun k hk => ?_⟩
  · rw [en]; exact okLaw_cg ec a2
  · rw [en] at hk; rw [ec k hk]; exact a3 k hk
theorem WF_up {al : Int → Int} (h : WF al) {k x : Int} (hx : k = 0 ∨ (k = 2 ∧ 0 ≤ x ∧ x ≤ 6) ∨ (9 ≤ k ∧ k < 15 ∧ 0 ≤ x ∧ x < al 1) ∨ (15 ≤ k ∧ k < 21 ∧ 0 ≤ x ∧ x ≤ 9) ∨ (21 ≤ k ∧ k < 27 ∧ 0 ≤ x ∧ x ≤ 10) ∨ (k = 27 ∧ 0 ≤ x ∧ x ≤ 999) ∨ (30 ≤ k ∧ k < 36 ∧ 0 ≤ x ∧ x < al 1) ∨ (36 ≤ k ∧ k < 42 ∧ 0 ≤ x ∧ x ≤ 9) ∨ (42 ≤ k ∧ k < 78 ∧ 0 ≤ x ∧ x ≤ 9)) : WF (ua al k x) := by
  obtain ⟨a1, a2, a3, a4, a5, a6, a7, a8, a9⟩ := h
  have e1 : ua al k x 1 = al 1 := ua_n (by omega)
  have e8 : ua al k x 853 = al 853 := ua_n (by omega)
  have hlp : ∀ l : Int, (l = 0 ∨ l = 1) → LwP al l → LwP (ua al k x) l := fun l hl hh => hh.cg hl ⟨ua_n (by omega), ua_n (by omega), ua_n (by omega)⟩ (by omega) (fun j j0 j1 => ua_n (by omega))
  refine ⟨by rw [e1]; exact a1, ?_, fun p p0 p1 => ?_, fun p p0 p1 => ?_, fun i i0 i1 => ?_, ?_, by rw [e8]; exact a7, hlp 0 (Or.inl rfl) a8, hlp 1 (Or.inr rfl) a9⟩
  · unfold ua; split <;> omega
  · have := a3 p p0 p1
    rw [e1]
    unfold ua
    refine ⟨?_, ?_, ?_⟩ <;> split <;> omega
  · have := a4 p p0 p1
    rw [e1]
    unfold ua
    refine ⟨?_, ?_⟩ <;> split <;> omega
  · have := a5 i i0 i1
    unfold ua
    split <;> omega
  · rw [ua_n (show 28 ≠ k by omega), ua_n (show 29 ≠ k by omega), ua_n (show 102 ≠ k by omega)]
    refine ⟨?_, a6.2⟩
    unfold ua
    split <;> omega
theorem WF.st {al : Int → Int} (h : WF al) (h9 : al 853 ≤ 900) : St al := by
  obtain ⟨a1, a2, a3, a4, a5, a6, a7, a8, a9⟩ := h
  have hg : ∀ l : Int, isG al l = false := fun l => by
    unfold isG
    rw [a6.2.2.1]
    simp
  refine ⟨⟨a1, a2, a3, fun l hl z => ?_⟩, ⟨a4, a5⟩, by omega, by omega, by omega, fun l _ _ => hg l, fun l l0 l1 => by omega⟩
  rcases hl with rfl | rfl
  · obtain ⟨b1, b2, b3⟩ := a8 z; exact ⟨by omega, b2, b3⟩
  · obtain ⟨b1, b2, b3⟩ := a9 z; exact ⟨by omega, b2, b3⟩
/-- the reader's rows are what was read -/
def CT (v : sF) (al : Int → Int) : Prop := (v 38 0 = al 1 ∧ v 38 1 = al 2 ∧ v 38 2 = al 0) ∧ (∀ p : Int, 0 ≤ p → p < 6 → v 39 p = al (9 + p) ∧ v 40 p = al (15 + p) ∧ v 41 p = al (21 + p)) ∧ (∀ l : Int, (l = 0 ∨ l = 1) → (al (3 + l) = 0 → v 45 l ≤ v 44 l) ∧ (al (3 + l) ≠ 0 → v 44 l = al (5 + l) ∧ v 45 l = al (5 + l) + al (7 + l))) ∧ (v 48 3 = al 27 ∧ v 48 4 = al 28) ∧ (∀ p : Int, 0 ≤ p → p < 6 → v 49 p = al (30 + p) ∧ v 50 p = al (36 + p)) ∧ (∀ i : Int, 0 ≤ i → i < 36 → v 51 i = al (42 + i))
theorem CT_up {v : sF} {al : Int → Int} (h : CT v al) {a i k x : Int} (hm : (a = 38 ∧ ((i = 1 ∧ k = 2) ∨ (i = 2 ∧ k = 0) ∨ (i = 0 ∧ k = 1))) ∨ (a = 39 ∧ 0 ≤ i ∧ i < 6 ∧ k = 9 + i) ∨ (a = 40 ∧ 0 ≤ i ∧ i < 6 ∧ k = 15 + i) ∨ (a = 41 ∧ 0 ≤ i ∧ i < 6 ∧ k = 21 + i) ∨ (a = 48 ∧ i = 3 ∧ k = 27) ∨ (a = 49 ∧ 0 ≤ i ∧ i < 6 ∧ k = 30 + i) ∨ (a = 50 ∧ 0 ≤ i ∧ i < 6 ∧ k = 36 + i) ∨ (a = 51 ∧ 0 ≤ i ∧ i < 36 ∧ k = 42 + i)) : CT (up v a i x) (ua al k x) := by
  obtain ⟨a1, a2, a3, a4, a5, a6⟩ := h
  have key : ∀ (b j m : Int), v b j = al m → ((b = a ∧ j = i) ↔ m = k) → up v a i x b j = ua al k x m := fun b j m e1 e2 => by
    unfold up ua
    rcases Decidable.em (m = k) with q | q
    · rw [if_pos (e2.2 q), if_pos q]
    · rw [if_neg (fun z => q (e2.1 z)), if_neg q]; exact e1
  refine ⟨⟨key _ _ _ a1.1 (by omega), key _ _ _ a1.2.1 (by omega), key _ _ _ a1.2.2 (by omega)⟩, fun p p0 p1 => ?_, fun l hl => ?_, ⟨key _ _ _ a4.1 (by omega), key _ _ _ a4.2 (by omega)⟩, fun p p0 p1 => ?_, fun j j0 j1 => key _ _ _ (a6 j j0 j1) (by omega)⟩
  · have := a2 p p0 p1
    exact ⟨key _ _ _ this.1 (by omega), key _ _ _ this.2.1 (by omega), key _ _ _ this.2.2 (by omega)⟩
  · rw [ua_n (show 3 + l ≠ k by omega), ua_n (show 5 + l ≠ k by omega), ua_n (show 7 + l ≠ k by omega), up_off 45 (show 45 ≠ a by omega), up_off 44 (show 44 ≠ a by omega)]
    exact a3 l hl
  · have := a5 p p0 p1
    exact ⟨key _ _ _ this.1 (by omega), key _ _ _ this.2 (by omega)⟩
theorem CT.off {S : List Int} {v v' : sF} {al : Int → Int} (h : CT v al) (ho : Off S v v') (hs : ∀ k : Int, (38 ≤ k ∧ k ≤ 41) ∨ k = 44 ∨ k = 45 ∨ (48 ≤ k ∧ k ≤ 51) → k ∉ S) : CT v' al := by
  unfold CT at *
  rw [ho 38 (hs _ (by omega)), ho 39 (hs _ (by omega)), ho 40 (hs _ (by omega)), ho 41 (hs _ (by omega)), ho 44 (hs _ (by omega)), ho 45 (hs _ (by omega)), ho 48 (hs _ (by omega)), ho 49 (hs _ (by omega)), ho 50 (hs _ (by omega)), ho 51 (hs _ (by omega))]
  exact h
/-- what lets the class's reader go on behind a fault -/
def DB (v : sF) : Prop := (0 ≤ v 38 0 ∧ v 38 0 ≤ 999) ∧ (0 ≤ v 38 1 ∧ v 38 1 ≤ 6) ∧ (0 ≤ v 38 2 ∧ v 38 2 ≤ 2000)
def LC (T : Int → Int) (n : Int) (v : sF) (s : PS) : Prop := CS T n v s ∧ (s.ft = 0 → CT v s.al) ∧ DB v
def LO (n : Int) (s : PS) : Prop := Ok0 n s ∧ (s.ft = 0 → WF s.al ∧ s.al 853 ≤ s.st) ∧ (0 ≤ s.al 0 ∧ s.al 0 ≤ s.st + 1) ∧ (0 ≤ s.al 2 ∧ s.al 2 ≤ 6)
def sLn : List Int := [37, 38, 39, 40, 41, 42, 43, 44, 45, 48, 49, 50, 51, 56]
theorem hsT {S : List Int} (h : ∀ x ∈ S, x = 37 ∨ x = 42 ∨ x = 43 ∨ x = 56) : ∀ k : Int, (38 ≤ k ∧ k ≤ 41) ∨ k = 44 ∨ k = 45 ∨ (48 ≤ k ∧ k ≤ 51) → k ∉ S := fun k hk q => by have := h k q; omega
theorem DB.off {S : List Int} {v v' : sF} (h : DB v) (ho : Off S v v') (hs : 38 ∉ S) : DB v' := by unfold DB at *; rw [ho 38 hs]; exact h
/-- tokens alone: rows stay -/
theorem LC.tok {T : Int → Int} {n : Int} {S : List Int} {v v' : sF} {s s' : PS} (h : LC T n v s) (hc : CS T n v' s') (ho : Off S v v') (hS : ∀ x ∈ S, x = 37 ∨ x = 42 ∨ x = 43 ∨ x = 56) (hal : s'.ft = 0 → s.ft = 0 ∧ s'.al = s.al) : LC T n v' s' := by
  refine ⟨hc, fun q => ?_, h.2.2.off ho (fun q => by have := hS 38 q; omega)⟩
  rw [(hal q).2]
  exact (h.2.1 (hal q).1).off ho (hsT hS)
theorem tkS_al {T : Int → Int} {n k : Int} {s : PS} : (tkS T n k s).al = s.al ∧ ((tkS T n k s).ft = 0 → s.ft = 0) ∧ (s.ft ≠ 0 → tkS T n k s = s) ∧ (tkS T n k s).law = s.law := by
  unfold tkS
  split
  · rename_i h
    split
    · exact ⟨rfl, fun _ => h, fun z => absurd h z, rfl⟩
    · exact ⟨flS_p.2.2.1, fun _ => h, fun z => absurd h z, flS_p.2.1⟩
  · rename_i h
    exact ⟨rfl, fun q => q, fun _ => rfl, rfl⟩
theorem tnS_al {T : Int → Int} {n lo hi : Int} {s : PS} : (tnS T n lo hi s).al = s.al ∧ ((tnS T n lo hi s).ft = 0 → s.ft = 0 ∧ s.kd = 35 ∧ (lo ≤ s.vl ∧ s.vl ≤ hi)) ∧ (s.ft ≠ 0 → tnS T n lo hi s = s) ∧ (tnS T n lo hi s).law = s.law := by
  unfold tnS
  rcases Decidable.em (s.ft = 0) with h | h
  · rw [if_pos h]
    rcases Decidable.em (s.kd = 35) with h2 | h2
    · rw [if_pos h2]
      rcases Decidable.em (lo ≤ s.vl ∧ s.vl ≤ hi) with h3 | h3
      · rw [if_pos h3]; exact ⟨rfl, fun _ => ⟨h, h2, h3⟩, fun z => absurd h z, rfl⟩
      · rw [if_neg h3]; exact ⟨flS_p.2.2.1, fun z => absurd z (flS_ft (by omega)), fun z => absurd h z, flS_p.2.1⟩
    · rw [if_neg h2]; exact ⟨flS_p.2.2.1, fun z => absurd z (flS_ft (by omega)), fun z => absurd h z, flS_p.2.1⟩
  · rw [if_neg h]; exact ⟨rfl, fun z => absurd z h, fun _ => rfl, rfl⟩
/-- st grows -/
theorem tk_st {T : Int → Int} {n k : Int} {s : PS} (ho : Ok0 n s) : s.st ≤ (tkS T n k s).st := by
  unfold tkS
  split
  · split
    · have := (Ok0_st (T := T) ho).2; have := ho.2.2.2.1; omega
    · rw [flS_p.1]; omega
  · omega
theorem tn_st {T : Int → Int} {n lo hi : Int} {s : PS} (ho : Ok0 n s) : s.st ≤ (tnS T n lo hi s).st := by
  unfold tnS
  split
  · split
    · split
      · have := (Ok0_st (T := T) ho).2; have := ho.2.2.2.1; omega
      · rw [flS_p.1]; omega
    · rw [flS_p.1]; omega
  · omega
theorem LC.take {T : Int → Int} {n : Int} {d : Nat} {v : sF} {s : PS} (h : LC T n v s) (ho : Ok0 n s) (k : Int) : ∃ v', Ev (d + 2) 44 [(2, 37), (0, k)] (c, v) none (c, v') ∧ (LC T n v' (tkS T n k s) ∧ Off [37, 56] v v') := by
  obtain ⟨v1, e1, e2, e3⟩ := C_take (d := d) (c := c) h.1 ho k
  exact ⟨v1, e1, h.tok e2 e3 (by decide) (fun q => ⟨tkS_al.2.1 q, tkS_al.1⟩), e3⟩
theorem LC.takeN {T : Int → Int} {n : Int} {d : Nat} {v : sF} {s : PS} (h : LC T n v s) (ho : Ok0 n s) (lo hi : Int) : ∃ v', Ev (d + 3) 45 [(2, 37), (0, lo), (0, hi)] (c, v) (some (0, if (tnS T n lo hi s).ft = 0 then s.vl else 0)) (c, v') ∧ (LC T n v' (tnS T n lo hi s) ∧ Off [37, 56] v v') := by
  obtain ⟨v1, e1, e2, e3⟩ := C_takeN (d := d) (c := c) h.1 ho lo hi
  exact ⟨v1, e1, h.tok e2 e3 (by decide) (fun q => ⟨(tnS_al.2.1 q).1, tnS_al.1⟩), e3⟩
theorem LC.fail {T : Int → Int} {n : Int} {d : Nat} {v : sF} {s : PS} (h : LC T n v s) (w : Int) (hw : 1 ≤ w) : ∃ v', Ev (d + 1) 43 [(2, 37), (0, w)] (c, v) none (c, v') ∧ (LC T n v' (flS w s) ∧ Off [37] v v') := by
  obtain ⟨v1, e1, e2, e3⟩ := C_failR (d := d) (c := c) h.1 w hw
  exact ⟨v1, e1, h.tok e2 e3 (by decide) (fun q => absurd q (flS_ft hw)), e3⟩
theorem CS.al {T : Int → Int} {n : Int} {v v' : sF} {s : PS} {al : Int → Int} (h : CS T n v s) (ho : ∀ a : Int, a = 37 ∨ a = 42 ∨ a = 43 ∨ a = 56 ∨ a = 57 → v' a = v a) (ha : s.ft = 0 → ∀ k : Int, 853 ≤ k → al k = s.al k) : CS T n v' (alS al s) := by
  obtain ⟨g1, g2, g3, g4⟩ := h
  refine ⟨?_, ?_, ⟨?_, fun q => ?_⟩, ?_⟩
  · rw [ho 56 (by omega)]; exact g1
  · rw [ho 37 (by omega)]; exact g2
  · rw [ho 42 (by omega)]; exact g3.1
  · rw [ho 42 (by omega), ho 43 (by omega)]
    have hq : s.ft = 0 := q
    have h3 := g3.2 hq
    show v 42 1 = al 853 ∧ ∀ k : Int, 0 ≤ k → k < al 853 → v 43 k = enc (al (854 + k))
    rw [ha hq 853 (by omega)]
    exact ⟨h3.1, fun k k0 k1 => by rw [ha hq (854 + k) (by omega)]; exact h3.2 k k0 k1⟩
  · exact g4.cg (fun i _ => by rw [ho 56 (by omega)]) (ho 57 (by omega))
/-- both sides read a line's piece -/
def PL (T : Int → Int) (n : Int) (h yc : Nat) (ac : List sV) (ym : Nat) (am : List sV) (s s' : PS) : Prop := (∀ (D c : Nat) (v : sF), h ≤ D → LC T n v s → ∃ v', Ev D yc ac (c, v) none (c, v') ∧ (LC T n v' s' ∧ Off sLn v v')) ∧ (∀ (D c : Nat) (v : sF), h ≤ D → MS T n v s → ∃ v', Ev D ym am (c, v) none (c, v') ∧ (MS T n v' s' ∧ FR v v'))
end Par7
