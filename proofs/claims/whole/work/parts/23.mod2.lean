section Mod2
theorem CI_of {d y : Nat} {as ls : List sV} {c : Nat} {v : sF} {X : Int} {Post : sF → Prop} (hl : loc0 as (mMax y) = ls) (h : Wp (Ev d) 0 (fun _ => 0) y (fun r μ => r = some (0, X) ∧ ∃ v', μ = (c, v') ∧ Post v') 0 ls [] c v) : ∃ v', Ev (d + 1) y as (c, v) (some (0, X)) (c, v') ∧ Post v' := by
  subst hl
  obtain ⟨r, c', v', h1, h2, v2, h3, h4⟩ := Cl_of (Q := fun r c' v' => r = some (0, X) ∧ ∃ v2, (c', v') = (c, v2) ∧ Post v2) h
  subst h2; cases h3
  exact ⟨v', h1, h4⟩
theorem CV_of {d y : Nat} {as ls : List sV} {c : Nat} {v : sF} {Post : sF → Prop} (hl : loc0 as (mMax y) = ls) (h : Wp (Ev d) 0 (fun _ => 0) y (fun r μ => r = none ∧ ∃ v', μ = (c, v') ∧ Post v') 0 ls [] c v) : ∃ v', Ev (d + 1) y as (c, v) none (c, v') ∧ Post v' := by
  subst hl
  obtain ⟨r, c', v', h1, h2, v2, h3, h4⟩ := Cl_of (Q := fun r c' v' => r = none ∧ ∃ v2, (c', v') = (c, v2) ∧ Post v2) h
  subst h2; cases h3
  exact ⟨v', h1, h4⟩
theorem CJ_of {d y : Nat} {as ls : List sV} {c : Nat} {v : sF} {X : Int} {Post : sF → Prop} (hl : loc0 as (mMax y) = ls) (h : Wp (Ev d) 0 (fun _ => 0) y (fun r μ => r = some (1, X) ∧ ∃ v', μ = (c, v') ∧ Post v') 0 ls [] c v) : ∃ v', Ev (d + 1) y as (c, v) (some (1, X)) (c, v') ∧ Post v' := by
  subst hl
  obtain ⟨r, c', v', h1, h2, v2, h3, h4⟩ := Cl_of (Q := fun r c' v' => r = some (1, X) ∧ ∃ v2, (c', v') = (c, v2) ∧ Post v2) h
  subst h2; cases h3
  exact ⟨v', h1, h4⟩
variable {d c : Nat}
set_option maxRecDepth 20000 in
theorem reck_loop {Q : sQ} {al w : Int → Int} {law : Int} (hl : law = 0 ∨ law = 1) (hb : 0 ≤ al (5 + law) ∧ 1 ≤ al (7 + law) ∧ al (5 + law) + al (7 + law) ≤ 900) (hok : okLaw (lwC al law) (lwN al law)) (hw : ∀ k, 0 ≤ k → k < 8 → -1000000 ≤ w k ∧ w k ≤ 1000000) (v0 : sF) (h164 : v0 164 = al) (hQ : ∀ v', Off [168, 169] v0 v' → v' 168 0 = (rpn w (lwC al law) (lwN al law)).headD 0 → Q (some (0, v' 168 0)) (c, v')) :
    ∀ (m k : Nat) (v : sF), k + m = lwN al law → Off [168, 169] v0 v → (∀ j : Int, 0 ≤ j → j < 8 → v 169 j = w j) → stR (v 168) (rpn w (lwC al law) k) → Wp (Ev (d + 1)) 0 (fun _ => 0) 206 Q 126 [(2, 163), (0, law), (9, 0), (9, 0), (0, ((rpn w (lwC al law) k).length : Int)), (0, (k : Int)), (9, 0)] [] c v := by
  have hn : al (7 + law) = (lwN al law : Int) := by unfold lwN; omega
  intro m
  induction m with
  | zero =>
    intro k v hk ho hwd hst
    have e164 : v 164 = al := (ho 164 (by decide)).trans h164
    refine E206_126 law _ _ ?_
    rw [e164]
    refine rngI (by omega) (chkI (inbI (by omega) (by omega)) (brbI (fun h => hQ v ho ?_) (fun h => absurd h (by omega))))
    have hkn : k = lwN al law := by omega
    have ht := rpn_ty hw hok.1
    rw [hkn] at hst
    match hr : rpn w (lwC al law) (lwN al law), hst, ht with
    | [x], hst, ht => exact hst.1
    | [], hst, ht => exact ht.elim
    | x :: y :: r, hst, ht => exact ht.2.elim
  | succ m ih =>
    intro k v hk ho hwd hst
    have e164 : v 164 = al := (ho 164 (by decide)).trans h164
    obtain ⟨ts, hts, htl⟩ := hok.2 k (by omega)
    obtain ⟨ts', hts', htl'⟩ := hok.2 (k + 1) (by omega)
    have hck : tck (lwC al law k) ts = some ts' := by
      have h2 := hts'
      unfold tcks at h2
      rw [hts] at h2
      exact h2
    have hty := rpn_ty hw hts
    have hlen := tyd_len hty
    have hnext : rpn w (lwC al law) (k + 1) = stp w (lwC al law k) (rpn w (lwC al law) k) := rfl
    have ihk := ih (k + 1)
    rw [hnext] at ihk
    have hcd : al (854 + al (5 + law) + (k : Int)) = lwC al law k := rfl
    refine E206_126 law _ _ ?_
    rw [e164]
    refine rngI (by omega) (chkI (inbI (by omega) (by omega)) (brbI (fun h => absurd h (by omega)) (fun h => rngI (by omega) (chkI (inbI (by omega) (by omega)) (rngI (by omega) (rngI (by omega) (chkI (inbI (by omega) (by omega)) ?_)))))))
    rw [hcd]
    generalize hxs : rpn w (lwC al law) k = xs at *
    generalize lwC al law k = code at *
    rcases tck_cases hck with ⟨h0, h1, rfl⟩ | ⟨hbin, t1, t2, t3, r, rfl, rfl⟩ | ⟨rfl, r, rfl, rfl⟩ | ⟨rfl, r, rfl, rfl⟩
    · refine brbI (fun h => absurd h (by omega)) (fun h => brbI (fun h2 => ?_) (fun h2 => ?_))
      · have hs : stp w code xs = w (code - 1000) :: xs := by unfold stp; rw [if_neg (by omega), if_pos (by omega)]
        rw [hs] at ihk
        refine rngI (by omega) (chkI (inbI (by omega) (by omega)) ?_)
        refine chkI (inbI (by omega) (by omega)) (rngI (by omega) (rngI (by omega) ?_))
        rw [hwd _ (by omega) (by omega)]
        exact ihk _ (by omega) (ho.up (by decide)) (fun j q0 q1 => by rw [up_ne2 v (by decide)]; exact hwd j q0 q1) ⟨up_same v _ _ _, stR_up hst (by omega)⟩
      · have hs : stp w code xs = code :: xs := by unfold stp; rw [if_pos (by omega)]
        rw [hs] at ihk
        refine chkI (inbI (by omega) (by omega)) (rngI (by omega) (rngI (by omega) ?_))
        exact ihk _ (by omega) (ho.up (by decide)) (fun j q0 q1 => by rw [up_ne2 v (by decide)]; exact hwd j q0 q1) ⟨up_same v _ _ _, stR_up hst (by omega)⟩
    · obtain ⟨b, a, ys, rfl, hbr, har, hys⟩ := tyd_num hty
      have hs : stp w code (b :: a :: ys) = bop code a b :: ys := by unfold stp; rw [if_neg (by omega), if_neg (by omega), if_neg (by omega), if_neg (by omega)]
      rw [hs] at ihk
      have hla : (((b :: a :: ys).length : Nat) : Int) = (ys.length : Int) + 2 := by simp; omega
      have hyl : ys.length < 50 := by have := tyd_len hys; simp at htl; omega
      have hb1 : v 168 ((ys.length : Int) + 1) = b := by have := hst.1; simpa using this
      have ha1 : v 168 (ys.length : Int) = a := hst.2.1
      rw [hla]
      refine brbI (fun h => brbN (fun h2 => brbN (fun h3 => ?_) (fun h3 => absurd h3 (by omega))) (fun h2 => absurd h2 (by omega))) (fun h => absurd h (by omega))
      have z1 : (ys.length : Int) + 2 + -1 = (ys.length : Int) + 1 := by omega
      have z2 : (ys.length : Int) + 1 - 1 = (ys.length : Int) := by omega
      rw [z1, z2, ha1, hb1]
      refine rngI (by omega) (rngI (by omega) (rngI (by omega) (chkI (inbI (by omega) (by omega)) (chkI (inbI (by omega) (by omega)) ⟨_, c, v, C_between hbin har hbr, chkI (inbI (by omega) (by omega)) (rngI (by omega) ?_)⟩))))
      have hl3 : (((bop code a b :: ys).length : Nat) : Int) = (ys.length : Int) + 1 := by simp
      rw [hl3] at ihk
      exact ihk _ (by omega) (ho.up (by decide)) (fun j q0 q1 => by rw [up_ne2 v (by decide)]; exact hwd j q0 q1) ⟨up_same v _ _ _, stR_up hst.2.2 (by omega)⟩
    · match xs, hty with
      | a :: ys, hty =>
        have hs : stp w 3006 (a :: ys) = (1 - a) :: ys := rfl
        rw [hs] at ihk
        have hla : (((a :: ys).length : Nat) : Int) = (ys.length : Int) + 1 := by simp
        have hyl : ys.length < 50 := by simp at hlen htl; omega
        have hl3 : ((((1 - a) :: ys).length : Nat) : Int) = (ys.length : Int) + 1 := by simp
        rw [hl3] at ihk
        rw [hla]
        have ha1 : v 168 (ys.length : Int) = a := hst.1
        have h01 := hty.1
        refine brbI (fun h => brbN (fun h2 => absurd rfl h2) (fun h2 => ?_)) (fun h => absurd h (by omega))
        have z2 : (ys.length : Int) + 1 - 1 = (ys.length : Int) := by omega
        rw [z2, ha1]
        refine rngI (by omega) (rngI (by omega) (chkI (inbI (by omega) (by omega)) (rngI (by omega) (chkI (inbI (by omega) (by omega)) (rngI (by omega) ?_)))))
        exact ihk _ (by omega) (ho.up (by decide)) (fun j q0 q1 => by rw [up_ne2 v (by decide)]; exact hwd j q0 q1) ⟨up_same v _ _ _, stR_up hst.2 (by omega)⟩
    · match xs, hty with
      | z :: y :: x :: ys, hty =>
        have hs : stp w 3009 (z :: y :: x :: ys) = (if x = 1 then y else z) :: ys := rfl
        rw [hs] at ihk
        have hla : (((z :: y :: x :: ys).length : Nat) : Int) = (ys.length : Int) + 3 := by simp; omega
        have hyl : ys.length < 50 := by simp at hlen htl; omega
        have hl3 : ((((if x = 1 then y else z) :: ys).length : Nat) : Int) = (ys.length : Int) + 1 := by simp
        rw [hl3] at ihk
        rw [hla]
        have hz1 : v 168 ((ys.length : Int) + 2) = z := by have := hst.1; rw [← this]; congr 1
        have hy1 : v 168 ((ys.length : Int) + 1) = y := by have := hst.2.1; rw [← this]; congr 1
        have hx1 : v 168 (ys.length : Int) = x := hst.2.2.1
        refine brbI (fun h => brbN (fun h2 => brbN (fun h3 => absurd rfl h3) (fun h3 => ?_)) (fun h2 => absurd h2 (by decide))) (fun h => absurd h (by omega))
        have z1 : (ys.length : Int) + 3 + -2 = (ys.length : Int) + 1 := by omega
        have z2 : (ys.length : Int) + 1 - 1 = (ys.length : Int) := by omega
        have z3 : (ys.length : Int) + 1 + 1 = (ys.length : Int) + 2 := by omega
        rw [z1, z2, z3, hx1, hy1, hz1]
        refine rngI (by omega) (rngI (by omega) (rngI (by omega) (chkI (inbI (by omega) (by omega)) (brbN (fun h4 => ?_) (fun h4 => ?_)))))
        · rw [if_neg h4] at ihk
          exact rngI (by omega) (chkI (inbI (by omega) (by omega)) (chkI (inbI (by omega) (by omega)) (rngI (by omega) (ihk _ (by omega) (ho.up (by decide)) (fun j q0 q1 => by rw [up_ne2 v (by decide)]; exact hwd j q0 q1) ⟨up_same v _ _ _, stR_up hst.2.2.2 (by omega)⟩))))
        · rw [if_pos h4] at ihk
          exact chkI (inbI (by omega) (by omega)) (chkI (inbI (by omega) (by omega)) (rngI (by omega) (ihk _ (by omega) (ho.up (by decide)) (fun j q0 q1 => by rw [up_ne2 v (by decide)]; exact hwd j q0 q1) ⟨up_same v _ _ _, stR_up hst.2.2.2 (by omega)⟩)))
theorem C_reckons {law p q : Int} {v : sF} (hl : law = 0 ∨ law = 1) (hT : okT (v 164)) (hN : okN (v 164)) (ht : v 164 (3 + law) ≠ 0) (hp : 0 ≤ p ∧ p < 6) (hq : 0 ≤ q ∧ q < 6) : ∃ v', Ev (d + 2) 206 [(2, 163), (0, law), (0, p), (0, q)] (c, v) (some (0, rkA (v 164) law p q)) (c, v') ∧ Off [168, 169] v v' := by
  have hb := hT.2.2.2 law hl ht
  refine CI_of (loc206 law p q) (E206_0 law p q ?_)
  have key : ∀ (kin : Int), kin = (if v 164 (15 + p) = v 164 (15 + q) then 1 else 0) → ∀ v2 : sF, v2 = up (up (up (up v 169 0 p) 169 1 q) 169 2 (v 164 (36 + p))) 169 3 kin → Wp (Ev (d + 1)) 0 (fun _ => 0) 206 (fun r μ => r = some (0, rkA (v 164) law p q) ∧ ∃ v', μ = (c, v') ∧ Off [168, 169] v v') 126 [(2, 163), (0, law), (9, 0), (9, 0), (0, 0), (0, 0), (9, 0)] [] c (up (up (up (up v2 169 4 (v2 164 (42 + 6 * p + q))) 169 5 (v2 164 (30 + p))) 169 6 (v2 164 (9 + q))) 169 7 (v2 164 (9 + p))) := by
    intro kin hkin v2 hv2
    have ho2 : Off [168, 169] v v2 := by
      rw [hv2]
      exact ((((Off.rf _ v).up (by decide)).up (by decide)).up (by decide)).up (by decide)
    have e2 : v2 164 = v 164 := ho2 164 (by decide)
    refine reck_loop hl hb.1 hb.2.1 (wdA_rng hT hN hp hq) v rfl (fun v' ho hr => ⟨by rw [hr]; rfl, _, rfl, ho⟩) (lwN (v 164) law) 0 _ (by omega) ((((ho2.up (by decide)).up (by decide)).up (by decide)).up (by decide)) (fun j h0 h1 => ?_) trivial
    rw [e2, hv2]
    unfold wdA
    rcases (show j = 0 ∨ j = 1 ∨ j = 2 ∨ j = 3 ∨ j = 4 ∨ j = 5 ∨ j = 6 ∨ j = 7 by omega) with rfl | rfl | rfl | rfl | rfl | rfl | rfl | rfl <;> simp [up, hkin]
  (repeat' (first | (refine brbI (fun _ => ?_) (fun _ => ?_) <;> try (exfalso; omega)) | (refine brbN (fun _ => ?_) (fun _ => ?_) <;> try (exfalso; omega)) | refine rngI (by omega) ?_ | refine rnlI (by omega) ?_ | refine chkI (inbI (by omega) (by omega)) ?_))
  · exact ⟨_, c, _, C_caresOf hp hq, by
      (repeat' (first | (refine brbI (fun _ => ?_) (fun _ => ?_) <;> try (exfalso; omega)) | (refine brbN (fun _ => ?_) (fun _ => ?_) <;> try (exfalso; omega)) | refine rngI (by omega) ?_ | refine rnlI (by omega) ?_ | refine chkI (inbI (by omega) (by omega)) ?_))
      exact key 0 (by rw [if_neg (by assumption)]) _ rfl⟩
  · exact ⟨_, c, _, C_caresOf hp hq, by
      (repeat' (first | (refine brbI (fun _ => ?_) (fun _ => ?_) <;> try (exfalso; omega)) | (refine brbN (fun _ => ?_) (fun _ => ?_) <;> try (exfalso; omega)) | refine rngI (by omega) ?_ | refine rnlI (by omega) ?_ | refine chkI (inbI (by omega) (by omega)) ?_))
      exact key 1 (by rw [if_pos (by assumption)]) _ rfl⟩
end Mod2
