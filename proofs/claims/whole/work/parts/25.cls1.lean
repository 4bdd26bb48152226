section Cls1
variable {d c : Nat}
def encW (k : Int) : Int := if k = 0 then 12 else if k = 1 then 13 else if k = 2 then 5 else if k = 3 then 14 else if k = 4 then 7 else if k = 5 then 2 else if k = 6 then 3 else 15
/-- the class's code of a code -/
def enc (code : Int) : Int := if code < 1000 then code else if code < 3000 then 1000 + encW (code - 1000) else if code = 3000 then 1025 else if code = 3001 then 1026 else if code = 3002 then 1027 else if code = 3003 then 1032 else if code = 3004 then 1033 else if code = 3005 then 1034 else if code = 3006 then 1020 else if code = 3007 then 1022 else if code = 3008 then 1021 else 1016
theorem encW_rng (k : Int) : 2 ≤ encW k ∧ encW k ≤ 15 := by unfold encW; (repeat' split) <;> omega
theorem C_kept {v : sF} {x : Int} : Ev (d + 1) 30 [(1, x)] (c, v) (some (0, kp x)) (c, v) := by
  refine Ev_of (loc30 x) (E30_0 x (brbI (fun h => brbI (fun h2 => rngI ?_ ⟨?_, rfl⟩) (fun h2 => ⟨?_, rfl⟩)) (fun h => ⟨?_, rfl⟩)))
  · rw [lcm1_le] at h; rw [lcm1_ge] at h2; omega
  · rw [lcm1_le] at h; rw [lcm1_ge] at h2; rw [kp_e, if_pos h, if_pos h2]
  · rw [lcm1_le] at h; rw [lcm1_ge] at h2; rw [kp_e, if_pos h, if_neg h2]
  · rw [lcm1_le] at h; rw [kp_e, if_neg h]
theorem C_join {v : sF} {code a b : Int} (hc : 3000 ≤ code ∧ code ≤ 3008 ∧ code ≠ 3006) (ha : -1000000 ≤ a ∧ a ≤ 1000000) (hb : -1000000 ≤ b ∧ b ≤ 1000000) : Ev (d + 2) 29 [(0, enc code - 1000), (0, a), (0, b)] (c, v) (some (0, bop code a b)) (c, v) := by
  have hm := mul_rng ha hb
  refine Ev_of (loc29 _ a b) (E29_0 _ a b ?_)
  rcases (show code = 3000 ∨ code = 3001 ∨ code = 3002 ∨ code = 3003 ∨ code = 3004 ∨ code = 3005 ∨ code = 3007 ∨ code = 3008 by omega) with rfl | rfl | rfl | rfl | rfl | rfl | rfl | rfl
  · rw [show enc 3000 - 1000 = 25 by decide]; (repeat' (first | (refine brbI (fun _ => ?_) (fun _ => ?_) <;> try (exfalso; omega)) | (refine brbN (fun _ => ?_) (fun _ => ?_) <;> try (exfalso; omega)) | refine rngI (by omega) ?_ | refine rnlI (by omega) ?_ | refine chkI (inbI (by omega) (by omega)) ?_)); exact ⟨_, c, v, C_kept, by unfold bop; simp, rfl⟩
  · rw [show enc 3001 - 1000 = 26 by decide]; (repeat' (first | (refine brbI (fun _ => ?_) (fun _ => ?_) <;> try (exfalso; omega)) | (refine brbN (fun _ => ?_) (fun _ => ?_) <;> try (exfalso; omega)) | refine rngI (by omega) ?_ | refine rnlI (by omega) ?_ | refine chkI (inbI (by omega) (by omega)) ?_)); exact ⟨_, c, v, C_kept, by unfold bop; simp, rfl⟩
  · rw [show enc 3002 - 1000 = 27 by decide]; (repeat' (first | (refine brbI (fun _ => ?_) (fun _ => ?_) <;> try (exfalso; omega)) | (refine brbN (fun _ => ?_) (fun _ => ?_) <;> try (exfalso; omega)) | refine rngI (by omega) ?_ | refine rnlI (by omega) ?_ | refine chkI (inbI (by omega) (by omega)) ?_)); exact ⟨_, c, v, C_kept, by unfold bop; simp, rfl⟩
  · rw [show enc 3003 - 1000 = 32 by decide]; (repeat' (first | (refine brbI (fun _ => ?_) (fun _ => ?_) <;> try (exfalso; omega)) | (refine brbN (fun _ => ?_) (fun _ => ?_) <;> try (exfalso; omega)) | refine rngI (by omega) ?_ | refine rnlI (by omega) ?_ | refine chkI (inbI (by omega) (by omega)) ?_)) <;> (refine ⟨?_, rfl⟩; congr 2; unfold bop; simp [*])
  · rw [show enc 3004 - 1000 = 33 by decide]; (repeat' (first | (refine brbI (fun _ => ?_) (fun _ => ?_) <;> try (exfalso; omega)) | (refine brbN (fun _ => ?_) (fun _ => ?_) <;> try (exfalso; omega)) | refine rngI (by omega) ?_ | refine rnlI (by omega) ?_ | refine chkI (inbI (by omega) (by omega)) ?_)) <;> (refine ⟨?_, rfl⟩; congr 2; unfold bop; simp <;> omega)
  · rw [show enc 3005 - 1000 = 34 by decide]; (repeat' (first | (refine brbI (fun _ => ?_) (fun _ => ?_) <;> try (exfalso; omega)) | (refine brbN (fun _ => ?_) (fun _ => ?_) <;> try (exfalso; omega)) | refine rngI (by omega) ?_ | refine rnlI (by omega) ?_ | refine chkI (inbI (by omega) (by omega)) ?_)) <;> (refine ⟨?_, rfl⟩; congr 2; unfold bop; simp <;> omega)
  · rw [show enc 3007 - 1000 = 22 by decide]; (repeat' (first | (refine brbI (fun _ => ?_) (fun _ => ?_) <;> try (exfalso; omega)) | (refine brbN (fun _ => ?_) (fun _ => ?_) <;> try (exfalso; omega)) | refine rngI (by omega) ?_ | refine rnlI (by omega) ?_ | refine chkI (inbI (by omega) (by omega)) ?_)); exact ⟨by unfold bop; simp, rfl⟩
  · rw [show enc 3008 - 1000 = 21 by decide]; (repeat' (first | (refine brbI (fun _ => ?_) (fun _ => ?_) <;> try (exfalso; omega)) | (refine brbN (fun _ => ?_) (fun _ => ?_) <;> try (exfalso; omega)) | refine rngI (by omega) ?_ | refine rnlI (by omega) ?_ | refine chkI (inbI (by omega) (by omega)) ?_)); exact ⟨by unfold bop; simp, rfl⟩
theorem C_push {v : sF} {n x : Int} (hn : v 7 5 = n) (h0 : 0 ≤ n) (h1 : n < 64) : Ev (d + 1) 26 [(2, 7), (0, x)] (c, v) none (c, up (up v 11 n x) 7 5 (n + 1)) := by
  subst hn
  exact Ev_of (loc26 x) (E26_0 x (brbI (fun h => absurd h (by omega)) (fun h => chkI (inbI h0 h1) (rngI (by omega) ⟨rfl, rfl⟩))))
theorem C_pop {v : sF} {n : Int} (hn : v 7 5 = n + 1) (h0 : 0 ≤ n) (h1 : n < 64) : Ev (d + 1) 27 [(2, 7)] (c, v) (some (0, v 11 n)) (c, up v 7 5 n) := by
  have e : v 7 5 - 1 = n := by omega
  refine Ev_of loc27 (E27_0 (brbI (fun h => ?_) (fun h => absurd h (by omega))))
  rw [e]
  exact rngI (by omega) (chkI (inbI h0 h1) ⟨rfl, rfl⟩)
/-- what reckoning leaves: the stack and its top alone have changed -/
def TS (v v' : sF) : Prop := Off [7, 11] v v'
theorem TS.rf (v : sF) : TS v v := Off.rf _ v
theorem TS.tr {v v1 v2 : sF} (h1 : TS v v1) (h2 : TS v1 v2) : TS v v2 := Off.tr h1 h2
theorem TS.top (v : sF) (n : Int) : TS v (up v 7 5 n) := (Off.rf _ v).up (by decide)
theorem TS.psh (v : sF) (n m x : Int) : TS v (up (up v 11 n x) 7 5 m) := ((Off.rf _ v).up (by decide)).up (by decide)
theorem stR_11 {v v1 : sF} {r : List Int} (h : stR (v 11) r) (he : ∀ i : Int, 0 ≤ i → i < r.length → v1 11 i = v 11 i) : stR (v1 11) r := stR_congr he h
theorem psh_st {v : sF} {r : List Int} {x m : Int} (h : stR (v 11) r) : stR (up (up v 11 (r.length : Int) x) 7 5 m 11) (x :: r) := by
  have e : up (up v 11 (r.length : Int) x) 7 5 m 11 = up v 11 (r.length : Int) x 11 := up_off 11 (by decide)
  rw [e]
  exact ⟨up_same _ _ _ _, stR_congr (fun j _ hj => up_ne v (by omega)) h⟩
set_option maxRecDepth 20000 in
theorem C_choose {v : sF} {x y z : Int} {r : List Int} (hn : v 7 5 = (r.length : Int) + 3) (hl : r.length < 60) (hst : stR (v 11) (z :: y :: x :: r)) : ∃ v', Ev (d + 2) 28 [(2, 7)] (c, v) none (c, v') ∧ TS v v' ∧ v' 7 5 = (r.length : Int) + 1 ∧ stR (v' 11) ((if x = 1 then y else z) :: r) := by
  have hz : v 11 ((r.length : Int) + 2) = z := by have := hst.1; rw [← this]; congr 1
  have hy : v 11 ((r.length : Int) + 1) = y := by have := hst.2.1; rw [← this]; congr 1
  have hx : v 11 (r.length : Int) = x := hst.2.2.1
  refine CV_of loc28 (E28_0 ⟨_, c, _, C_pop (n := (r.length : Int) + 2) (by omega) (by omega) (by omega), _, c, _, C_pop (n := (r.length : Int) + 1) (by rw [up_same]; omega) (by omega) (by omega), _, c, _, C_pop (n := (r.length : Int)) (by rw [up_same]) (by omega) (by omega), ?_⟩)
  rw [up_ne2 _ (by decide), up_ne2 _ (by decide), up_ne2 _ (by decide), hx, hy, hz]
  have hts : TS v (up (up (up v 7 5 ((r.length : Int) + 2)) 7 5 ((r.length : Int) + 1)) 7 5 (r.length : Int)) := ((TS.top v _).tr (TS.top _ _)).tr (TS.top _ _)
  have h11 : up (up (up v 7 5 ((r.length : Int) + 2)) 7 5 ((r.length : Int) + 1)) 7 5 (r.length : Int) 11 = v 11 := by
    rw [up_off 11 (by decide), up_off 11 (by decide), up_off 11 (by decide)]
  refine brbN (fun h => ?_) (fun h => ?_)
  · exact ⟨c, _, C_push (n := (r.length : Int)) (up_same _ _ _ _) (by omega) (by omega), rfl, _, rfl, hts.tr (TS.psh _ _ _ _), up_same _ _ _ _, by rw [if_neg h]; exact psh_st (by rw [h11]; exact hst.2.2.2)⟩
  · exact ⟨c, _, C_push (n := (r.length : Int)) (up_same _ _ _ _) (by omega) (by omega), rfl, _, rfl, hts.tr (TS.psh _ _ _ _), up_same _ _ _ _, by rw [if_pos h]; exact psh_st (by rw [h11]; exact hst.2.2.2)⟩
theorem C_has {v : sF} {law : Int} (hl : law = 0 ∨ law = 1) : Ev (d + 1) 24 [(2, 7), (0, law)] (c, v) (some (0, if v 9 law < v 10 law then 1 else 0)) (c, v) := by
  refine Ev_of (loc24 law) (E24_0 law (chkI (inbI (by omega) (by omega)) (chkI (inbI (by omega) (by omega)) (brbI (fun h => ⟨by rw [if_neg (by omega)], rfl⟩) (fun h => ⟨by rw [if_pos (by omega)], rfl⟩)))))
/-- the class's law is the one told -/
def LawR (v : sF) (a : Int) (al : Int → Int) (law : Int) : Prop := (al (3 + law) = 0 → v (a + 3) law ≤ v (a + 2) law) ∧ (al (3 + law) ≠ 0 → v (a + 2) law = al (5 + law) ∧ v (a + 3) law = al (5 + law) + al (7 + law) ∧ ∀ k : Nat, k < lwN al law → v (a + 1) (al (5 + law) + k) = enc (lwC al law k))
set_option maxRecDepth 20000 in
theorem pop_ts {v : sF} {n x : Int} {r : List Int} (hn : v 7 5 = n + 1) (hl : n = (r.length : Int)) (hr : r.length < 60) (hst : stR (v 11) (x :: r)) : Ev (d + 1) 27 [(2, 7)] (c, v) (some (0, x)) (c, up v 7 5 n) ∧ stR (up v 7 5 n 11) r ∧ up v 7 5 n 7 5 = n := by
  subst hl
  refine ⟨?_, ?_, up_same _ _ _ _⟩
  · have := C_pop (d := d) (c := c) (v := v) hn (by omega) (by omega)
    rw [hst.1] at this
    exact this
  · rw [up_off 11 (by decide)]
    exact hst.2
set_option maxRecDepth 20000 in
theorem tell_loop {Q : sQ} {al w : Int → Int} {law : Int} (hl : law = 0 ∨ law = 1) (hb : 0 ≤ al (5 + law) ∧ 1 ≤ al (7 + law) ∧ al (5 + law) + al (7 + law) ≤ 900) (hok : okLaw (lwC al law) (lwN al law)) (hw : ∀ k, 0 ≤ k → k < 8 → -1000000 ≤ w k ∧ w k ≤ 1000000) (v0 : sF) (hc : ∀ k : Nat, k < lwN al law → v0 8 (al (5 + law) + k) = enc (lwC al law k)) (htl : v0 10 law = al (5 + law) + al (7 + law)) (hm : ∀ k : Nat, k < lwN al law → 1000 ≤ lwC al law k → lwC al law k < 3000 → v0 12 (encW (lwC al law k - 1000)) = w (lwC al law k - 1000)) (hQ : ∀ v', TS v0 v' → Q (some (0, (rpn w (lwC al law) (lwN al law)).headD 0)) (c, v')) :
    ∀ (m k : Nat) (v : sF), k + m = lwN al law → TS v0 v → v 7 5 = ((rpn w (lwC al law) k).length : Int) → stR (v 11) (rpn w (lwC al law) k) → Wp (Ev (d + 2)) 0 (fun _ => 0) 25 Q 12 [(2, 7), (0, law), (0, al (5 + law) + (k : Int)), (9, 0), (9, 0), (9, 0)] [] c v := by
  have hn : al (7 + law) = (lwN al law : Int) := by unfold lwN; omega
  intro m
  induction m with
  | zero =>
    intro k v hk ho htop hst
    have e10 : v 10 = v0 10 := ho 10 (by decide)
    have hkn : k = lwN al law := by omega
    have ht := rpn_ty hw hok.1
    rw [← hkn] at ht
    refine E25_12 law _ (chkI (inbI (by omega) (by omega)) (brbI (fun h => ?_) (fun h => absurd h (by rw [e10]; omega))))
    match hr : rpn w (lwC al law) k, hst, ht, htop with
    | [x], hst, ht, htop =>
      have hp := pop_ts (d := d + 1) (c := c) (v := v) (n := 0) (x := x) (r := []) htop rfl (by decide) hst
      refine ⟨_, c, _, hp.1, ?_⟩
      have := hQ _ (ho.tr (TS.top v 0))
      rw [← hkn, hr] at this
      exact this
    | [], hst, ht, _ => exact ht.elim
    | x :: y :: r, hst, ht, _ => exact ht.2.elim
  | succ m ih =>
    intro k v hk ho htop hst
    have e10 : v 10 = v0 10 := ho 10 (by decide)
    have e8 : v 8 = v0 8 := ho 8 (by decide)
    have e12 : v 12 = v0 12 := ho 12 (by decide)
    obtain ⟨ts, hts, htl2⟩ := hok.2 k (by omega)
    obtain ⟨ts', hts', htl'⟩ := hok.2 (k + 1) (by omega)
    have hck : tck (lwC al law k) ts = some ts' := by
      have h2 := hts'
      unfold tcks at h2
      rw [hts] at h2
      exact h2
    have hty := rpn_ty hw hts
    have hlen := tyd_len hty
    have hnext : rpn w (lwC al law) (k + 1) = stp w (lwC al law k) (rpn w (lwC al law) k) := rfl
    have ihk := ih (k + 1)
    rw [hnext, show al (5 + law) + ((k + 1 : Nat) : Int) = al (5 + law) + (k : Int) + 1 by omega] at ihk
    have hcd : v 8 (al (5 + law) + (k : Int)) = enc (lwC al law k) := by rw [e8]; exact hc k (by omega)
    have hmk := hm k (by omega)
    refine E25_12 law _ (chkI (inbI (by omega) (by omega)) (brbI (fun h => absurd h (by rw [e10]; omega)) (fun h => chkI (inbI (by omega) (by omega)) ?_)))
    rw [hcd]
    generalize hxs : rpn w (lwC al law) k = xs at *
    generalize lwC al law k = code at *
    rcases tck_cases hck with ⟨h0, h1, rfl⟩ | ⟨hbin, t1, t2, t3, r, rfl, rfl⟩ | ⟨rfl, r, rfl, rfl⟩ | ⟨rfl, r, rfl, rfl⟩
    · rcases Int.lt_or_le code 1000 with hlt | hge
      · have hs : stp w code xs = code :: xs := by unfold stp; rw [if_pos (by omega)]
        have he : enc code = code := by unfold enc; rw [if_pos hlt]
        rw [hs] at ihk
        rw [he]
        refine rngI (by omega) (brbI (fun h2 => absurd h2 (by omega)) (fun h2 => chkI (inbI (by omega) (by omega)) ⟨c, _, C_push (n := (xs.length : Int)) htop (by omega) (by omega), rngI (by omega) ?_⟩))
        exact ihk _ (by omega) (ho.tr (TS.psh _ _ _ _)) (by rw [up_same]; simp) (psh_st hst)
      · have hs : stp w code xs = w (code - 1000) :: xs := by unfold stp; rw [if_neg (by omega), if_pos (by omega)]
        have he : enc code = 1000 + encW (code - 1000) := by unfold enc; rw [if_neg (by omega), if_pos (by omega)]
        have hr := encW_rng (code - 1000)
        have hz : 1000 + encW (code - 1000) - 1000 = encW (code - 1000) := by omega
        rw [hs] at ihk
        rw [he]
        refine rngI (by omega) (brbI (fun h2 => brbI (fun h3 => absurd h3 (by omega)) (fun h3 => chkI (inbI (by omega) (by omega)) ?_)) (fun h2 => absurd h2 (by omega)))
        rw [hz, e12, hmk hge (by omega)]
        refine ⟨c, _, C_push (n := (xs.length : Int)) htop (by omega) (by omega), rngI (by omega) ?_⟩
        exact ihk _ (by omega) (ho.tr (TS.psh _ _ _ _)) (by rw [up_same]; simp) (psh_st hst)
    · obtain ⟨b, a, ys, rfl, hbr, har, hys⟩ := tyd_num hty
      have hs : stp w code (b :: a :: ys) = bop code a b :: ys := by unfold stp; rw [if_neg (by omega), if_neg (by omega), if_neg (by omega), if_neg (by omega)]
      rw [hs] at ihk
      have hyl : ys.length < 50 := by have := tyd_len hys; simp at htl2; omega
      have he : enc code = 1021 ∨ enc code = 1022 ∨ (1025 ≤ enc code ∧ enc code ≤ 1034) := by
        unfold enc; (repeat' split) <;> omega
      have hp1 := pop_ts (d := d + 1) (c := c) (v := v) (n := (ys.length : Int) + 1) (x := b) (r := a :: ys) (by rw [htop]; simp) (by simp) (by simp; omega) hst
      have hp2 := pop_ts (d := d + 1) (c := c) (v := up v 7 5 ((ys.length : Int) + 1)) (n := (ys.length : Int)) (x := a) (r := ys) hp1.2.2 rfl (by omega) hp1.2.1
      refine rngI (by omega) (brbI (fun h2 => brbI (fun h3 => brbN (fun h4 => brbN (fun h5 => ?_) (fun h5 => absurd h5 (by omega))) (fun h4 => absurd h4 (by omega))) (fun h3 => absurd h3 (by omega))) (fun h2 => absurd h2 (by omega)))
      refine ⟨_, c, _, hp1.1, _, c, _, hp2.1, _, c, _, C_join hbin har hbr, c, _, C_push (n := (ys.length : Int)) hp2.2.2 (by omega) (by omega), rngI (by omega) ?_⟩
      exact ihk _ (by omega) (((ho.tr (TS.top _ _)).tr (TS.top _ _)).tr (TS.psh _ _ _ _)) (by rw [up_same]; simp) (psh_st hp2.2.1)
    · match xs, hty with
      | a :: ys, hty =>
        have hs : stp w 3006 (a :: ys) = (1 - a) :: ys := rfl
        rw [hs] at ihk
        have hyl : ys.length < 50 := by simp at hlen htl2; omega
        have h01 := hty.1
        have hp1 := pop_ts (d := d + 1) (c := c) (v := v) (n := (ys.length : Int)) (x := a) (r := ys) (by rw [htop]; simp) rfl (by omega) hst
        rw [show enc 3006 = 1020 by decide]
        refine rngI (by omega) (brbI (fun h2 => brbI (fun h3 => brbN (fun h4 => absurd rfl h4) (fun h4 => ?_)) (fun h3 => absurd h3 (by omega))) (fun h2 => absurd h2 (by omega)))
        refine ⟨_, c, _, hp1.1, rngI (by omega) ⟨c, _, C_push (n := (ys.length : Int)) hp1.2.2 (by omega) (by omega), rngI (by omega) ?_⟩⟩
        exact ihk _ (by omega) ((ho.tr (TS.top _ _)).tr (TS.psh _ _ _ _)) (by rw [up_same]; simp) (psh_st hp1.2.1)
    · match xs, hty with
      | z :: y :: x :: ys, hty =>
        have hs : stp w 3009 (z :: y :: x :: ys) = (if x = 1 then y else z) :: ys := rfl
        rw [hs] at ihk
        have hyl : ys.length < 50 := by simp at hlen htl2; omega
        rw [show enc 3009 = 1016 by decide]
        obtain ⟨v1, hE, hO, ht1, hs1⟩ := C_choose (d := d) (c := c) (v := v) (x := x) (y := y) (z := z) (r := ys) (by rw [htop]; simp; omega) (by omega) hst
        refine rngI (by omega) (brbI (fun h2 => brbI (fun h3 => brbN (fun h4 => brbN (fun h5 => absurd rfl h5) (fun h5 => ?_)) (fun h4 => absurd h4 (by decide))) (fun h3 => absurd h3 (by omega))) (fun h2 => absurd h2 (by omega)))
        refine ⟨c, v1, hE, rngI (by omega) ?_⟩
        exact ihk _ (by omega) (ho.tr hO) (by rw [ht1]; simp) hs1
theorem C_tell {v : sF} {al w : Int → Int} {law : Int} (hl : law = 0 ∨ law = 1) (hT : okT al) (ht : al (3 + law) ≠ 0) (hL : LawR v 7 al law) (hw : ∀ k, 0 ≤ k → k < 8 → -1000000 ≤ w k ∧ w k ≤ 1000000) (hm : ∀ k : Nat, k < lwN al law → 1000 ≤ lwC al law k → lwC al law k < 3000 → v 12 (encW (lwC al law k - 1000)) = w (lwC al law k - 1000)) : ∃ v', Ev (d + 3) 25 [(2, 7), (0, law)] (c, v) (some (0, (rpn w (lwC al law) (lwN al law)).headD 0)) (c, v') ∧ TS v v' := by
  have hb := hT.2.2.2 law hl ht
  have hL2 := hL.2 ht
  refine CI_of (loc25 law) (E25_0 law (chkI (inbI (by omega) (by omega)) ?_))
  have e0 : v 9 law = al (5 + law) + ((0 : Nat) : Int) := by have := hL2.1; simpa using this
  rw [e0]
  exact tell_loop hl hb.1 hb.2.1 hw v hL2.2.2 hL2.2.1 hm (fun v' ho => ⟨rfl, _, rfl, ho⟩) (lwN al law) 0 _ (by omega) (TS.top v 0) (by rw [up_same]; rfl) trivial
end Cls1
