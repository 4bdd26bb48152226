section SiInv2
variable {call : sK} {L : Nat} {xs : Int → Int} {fm : Nat} {ff : Prop} {c0 own rt : Nat}
set_option maxHeartbeats 8000000 in
set_option maxRecDepth 20000 in
theorem si_inv (hcall : callOk call) (hL : L < 2147483648) (hxs : ∀ i, -2147483648 ≤ xs i ∧ xs i ≤ 2147483647) (hf1 : fm = 1 → ff) (hf2 : ff → fm = 1 ∨ fm = 2) (ins : ClassFile.Instr) (len pc : Nat) (hok : okI pc ins len = true) (ls st : List sV) (c : Nat) (v : sF) (hI : Inv c0 ff ls st c v) :
    Pres (fun _ ls st c v => Inv c0 ff ls st c v) (JJ c0 ff) (fun go fin => si call L xs fm own rt ins len pc ls st c v go fin) := by
  obtain ⟨hc, hls, hst, hM, hF⟩ := hI
  have G : ∀ {pc' : Nat} {ls' st' : List sV}, okL c ls' → okL c st' → Pres (fun _ ls st c v => Inv c0 ff ls st c v) (JJ c0 ff) (fun go _ => go pc' ls' st' c v) := fun h1 h2 => Pres_go ⟨hc, h1, h2, hM, hF⟩
  have hst1 : ∀ {a : sV} {r : List sV}, st = a :: r → okL c r ∧ okV c a := fun e => by subst e; exact ⟨okL_tl hst, okL_hd hst⟩
  have hst3 : ∀ {a b : sV} {r : List sV}, st = a :: b :: r → okL c r ∧ okV c a ∧ okV c b := fun e => by subst e; exact ⟨okL_tl (okL_tl hst), okL_hd hst, okL_hd (okL_tl hst)⟩
  have hst2 : ∀ {a b : sV} {r r2 : List sV}, st = a :: r → r = b :: r2 → okL c r2 ∧ okV c a ∧ okV c b := fun e e2 => hst3 (by rw [e, e2])
  have i32 : ∀ x : Int32, okV c (0, x.toInt) := fun x => i32_rng x
  have i64 : ∀ x : Int64, okV c (1, x.toInt) := fun x => i64_rng x
  have k32 : ∀ x : Int, okV c (0, w32 x) := fun x => w32_rng x
  have k64 : ∀ x : Int, okV c (1, w64 x) := fun x => w64_rng x
  -- calls
  have CALL : ∀ (y : Nat) (as st' : List sV), okL c as → okL c st' → Pres (fun _ ls st c v => Inv c0 ff ls st c v) (JJ c0 ff) (fun go _ => may fm (mFm y) (c, v) (clR call (mRet y) y as (c, v) (fun r c v => go (pc + len) ls (pushR r st') c v))) := by
    intro y as st' h1 h2
    refine Pres_may _ _ _ (fun m1 m2 m3 => ?_)
    refine Pres_clR _ _ _ _ _ (fun r c' v' hr => ?_)
    obtain ⟨q1, q2, q3, q4, q5⟩ := hcall y as c v r c' v' hr h1 hM (fun hy => by
      rcases m2 hy with e | e
      · exact hF (hf1 e)
      · exact e)
    refine Pres_go ⟨Nat.le_trans hc q1, okL_mono q1 hls, okR_push q2 (okL_mono q1 h2), q3, fun hff => ?_⟩
    rcases hf2 hff with e | e
    · rcases m1 e with e2 | e2
      · exact q4 e2
      · exact q5 e2 (hF hff)
    · exact q5 (m3 e) (hF hff)
  have RET : ∀ x : sV, x ∈ st → JJ c0 ff (some x) (c, v) := fun x hx => ⟨hc, fun y e => by cases e; exact hst x hx, hM, hF⟩
  have UPo : ∀ {ci k : Nat} {a x : Int} {pc' : Nat} {ls' st' : List sV}, okL c ls' → okL c st' → tyT a = 10 + ci → ci < 13 → okV c (fTag ci k % 4, x) → (fm = 0 ∨ isSt ci k = false) → Pres (fun _ ls st c v => Inv c0 ff ls st c v) (JJ c0 ff) (fun go _ => go pc' ls' st' c (up v a k x)) := by
    intro ci k a x pc' ls' st' h1 h2 ha hci hx hs
    refine Pres_go ⟨hc, h1, h2, okM_up hM (by rw [slT_obj ha hci]; exact hx), fun hff => ?_⟩
    refine Full_up (hF hff) (fun cj k' e1 e2 => ?_) (by omega)
    have e3 : cj = ci := by omega
    have e4 : k' = k := by omega
    rw [e3, e4]
    rcases hs with e | e
    · rcases hf2 hff with e5 | e5 <;> omega
    · exact e
  have UPa : ∀ {a i x : Int} {pc' : Nat} {ls' st' : List sV}, okL c ls' → okL c st' → tyT a < 10 → okV c (slT a i, x) → Pres (fun _ ls st c v => Inv c0 ff ls st c v) (JJ c0 ff) (fun go _ => go pc' ls' st' c (up v a i x)) := by
    intro a i x pc' ls' st' h1 h2 ha hx
    exact Pres_go ⟨hc, h1, h2, okM_up hM hx, fun hff => Full_arr (hF hff) ha⟩
  have NEW : ∀ {pc' : Nat} {ls' st' : List sV}, okL c ls' → okL c st' → nk fm = true → Pres (fun _ ls st c v => Inv c0 ff ls st c v) (JJ c0 ff) (fun go _ => go pc' ls' ((2, (c : Int) + 1) :: st') (c + 1) (zer v ((c : Int) + 1))) := by
    intro pc' ls' st' h1 h2 h3
    refine Pres_go ⟨Nat.le_succ_of_le hc, okL_mono (Nat.le_succ c) h1, okL_cons ⟨by dsimp only; omega, by dsimp only; omega⟩ (okL_mono (Nat.le_succ c) h2), okM_new hM, fun hff => ?_⟩
    rcases hf2 hff with e5 | e5 <;> rw [e5] at h3 <;> exact absurd h3 (by decide)
  cases ins <;> first
    | (unfold si; exact Pres_false)
    | skip
  all_goals unfold si
  case iconst i =>
    simp only [okI, Bool.and_eq_true, decide_eq_true_eq] at hok
    exact G hls (okL_cons ⟨by dsimp only; omega, by dsimp only; omega⟩ hst)
  case bipush i =>
    simp only [okI, Bool.and_eq_true, decide_eq_true_eq] at hok
    exact G hls (okL_cons ⟨by dsimp only; omega, by dsimp only; omega⟩ hst)
  case sipush i =>
    simp only [okI, Bool.and_eq_true, decide_eq_true_eq] at hok
    exact G hls (okL_cons ⟨by dsimp only; omega, by dsimp only; omega⟩ hst)
  case lconst l => exact G hls (okL_cons ⟨by dsimp only; omega, by have := l.isLt; dsimp only; omega⟩ hst)
  case ldc i =>
    dsimp only
    split
    · rename_i x e
      have := lk_all kTab_ok e
      simp only [Bool.and_eq_true, Bool.or_eq_true, decide_eq_true_eq] at this
      exact G hls (okL_cons ⟨by dsimp only; omega, by dsimp only; omega⟩ hst)
    · rename_i x e
      have := lk_all kTab_ok e
      simp only [Bool.and_eq_true, Bool.or_eq_true, decide_eq_true_eq] at this
      exact G hls (okL_cons ⟨by dsimp only; omega, by dsimp only; omega⟩ hst)
    · exact Pres_false
  case ldc_w i =>
    dsimp only
    split
    · rename_i x e
      have := lk_all kTab_ok e
      simp only [Bool.and_eq_true, Bool.or_eq_true, decide_eq_true_eq] at this
      exact G hls (okL_cons ⟨by dsimp only; omega, by dsimp only; omega⟩ hst)
    · exact Pres_false
  case ldc2_w i =>
    dsimp only
    split
    · rename_i x e
      have := lk_all kTab_ok e
      simp only [Bool.and_eq_true, Bool.or_eq_true, decide_eq_true_eq] at this
      exact G hls (okL_cons ⟨by dsimp only; omega, by dsimp only; omega⟩ hst)
    · exact Pres_false
  case iload_n k => exact Pres_gI _ _ fun a e => G hls (okL_cons (okL_get hls e) hst)
  case iload k => exact Pres_gI _ _ fun a e => G hls (okL_cons (okL_get hls e) hst)
  case lload_n k => exact Pres_gL _ _ fun a e => G hls (okL_cons (okL_get hls e) hst)
  case lload k => exact Pres_gL _ _ fun a e => G hls (okL_cons (okL_get hls e) hst)
  case aload_n k => exact Pres_gA _ _ fun a e => G hls (okL_cons (okL_get hls e) hst)
  case aload k => exact Pres_gA _ _ fun a e => G hls (okL_cons (okL_get hls e) hst)
  case istore_n k => exact Pres_pI _ fun a r e => G (okL_setL hls _ (hst1 e).2) (hst1 e).1
  case istore k => exact Pres_pI _ fun a r e => G (okL_setL hls _ (hst1 e).2) (hst1 e).1
  case lstore_n k => exact Pres_pL _ fun a r e => G (okL_set (okL_setL hls _ (hst1 e).2) _ (okV_9 c)) (hst1 e).1
  case lstore k => exact Pres_pL _ fun a r e => G (okL_set (okL_setL hls _ (hst1 e).2) _ (okV_9 c)) (hst1 e).1
  case astore_n k => exact Pres_pR _ fun a r e => G (okL_setL hls _ (hst1 e).2) (hst1 e).1
  case astore k => exact Pres_pR _ fun a r e => G (okL_setL hls _ (hst1 e).2) (hst1 e).1
  case iinc k n => exact Pres_gI _ _ fun a e => G (okL_setL hls _ (k32 _)) hst
  case iadd => exact Pres_pI _ fun b r e => Pres_pI _ fun a r2 e2 => G hls (okL_cons (k32 _) (hst2 e e2).1)
  case isub => exact Pres_pI _ fun b r e => Pres_pI _ fun a r2 e2 => G hls (okL_cons (k32 _) (hst2 e e2).1)
  case imul => exact Pres_pI _ fun b r e => Pres_pI _ fun a r2 e2 => G hls (okL_cons (k32 _) (hst2 e e2).1)
  case iand => exact Pres_pI _ fun b r e => Pres_pI _ fun a r2 e2 => G hls (okL_cons (i32 _) (hst2 e e2).1)
  case ior => exact Pres_pI _ fun b r e => Pres_pI _ fun a r2 e2 => G hls (okL_cons (i32 _) (hst2 e e2).1)
  case ixor => exact Pres_pI _ fun b r e => Pres_pI _ fun a r2 e2 => G hls (okL_cons (i32 _) (hst2 e e2).1)
  case idiv => exact Pres_pI _ fun b r e => Pres_pI _ fun a r2 e2 => Pres_chk _ fun _ => G hls (okL_cons (k32 _) (hst2 e e2).1)
  case irem => exact Pres_pI _ fun b r e => Pres_pI _ fun a r2 e2 => Pres_chk _ fun _ => G hls (okL_cons (tmod_rng (hst2 e e2).2.2 (by decide) (by decide)) (hst2 e e2).1)
  case ineg => exact Pres_pI _ fun b r e => G hls (okL_cons (k32 _) (hst1 e).1)
  case ishl => exact Pres_pI _ fun b r e => Pres_pI _ fun a r2 e2 => G hls (okL_cons (i32 _) (hst2 e e2).1)
  case ishr => exact Pres_pI _ fun b r e => Pres_pI _ fun a r2 e2 => G hls (okL_cons (i32 _) (hst2 e e2).1)
  case iushr => exact Pres_pI _ fun b r e => Pres_pI _ fun a r2 e2 => G hls (okL_cons (i32 _) (hst2 e e2).1)
  case ladd => exact Pres_pL _ fun b r e => Pres_pL _ fun a r2 e2 => G hls (okL_cons (k64 _) (hst2 e e2).1)
  case lsub => exact Pres_pL _ fun b r e => Pres_pL _ fun a r2 e2 => G hls (okL_cons (k64 _) (hst2 e e2).1)
  case lmul => exact Pres_pL _ fun b r e => Pres_pL _ fun a r2 e2 => G hls (okL_cons (k64 _) (hst2 e e2).1)
  case land => exact Pres_pL _ fun b r e => Pres_pL _ fun a r2 e2 => G hls (okL_cons (i64 _) (hst2 e e2).1)
  case lor => exact Pres_pL _ fun b r e => Pres_pL _ fun a r2 e2 => G hls (okL_cons (i64 _) (hst2 e e2).1)
  case ldiv => exact Pres_pL _ fun b r e => Pres_pL _ fun a r2 e2 => Pres_chk _ fun _ => G hls (okL_cons (k64 _) (hst2 e e2).1)
  case lrem => exact Pres_pL _ fun b r e => Pres_pL _ fun a r2 e2 => Pres_chk _ fun _ => G hls (okL_cons (tmod_rng (hst2 e e2).2.2 (by decide) (by decide)) (hst2 e e2).1)
  case lshl => exact Pres_pI _ fun b r e => Pres_pL _ fun a r2 e2 => G hls (okL_cons (i64 _) (hst2 e e2).1)
  case lshr => exact Pres_pI _ fun b r e => Pres_pL _ fun a r2 e2 => G hls (okL_cons (i64 _) (hst2 e e2).1)
  case lcmp => exact Pres_pL _ fun b r e => Pres_pL _ fun a r2 e2 => G hls (okL_cons (lcm1_rng _ _) (hst2 e e2).1)
  case i2l => exact Pres_pI _ fun b r e => G hls (okL_cons (by have := (hst1 e).2; exact ⟨by have := this.1; dsimp only at *; omega, by have := this.2; dsimp only at *; omega⟩) (hst1 e).1)
  case l2i => exact Pres_pL _ fun b r e => G hls (okL_cons (k32 _) (hst1 e).1)
  case i2b => exact Pres_pI _ fun b r e => G hls (okL_cons (by have := w8_rng b; exact ⟨by dsimp only; omega, by dsimp only; omega⟩) (hst1 e).1)
  case i2s => exact Pres_pI _ fun b r e => G hls (okL_cons (by have := w16_rng b; exact ⟨by dsimp only; omega, by dsimp only; omega⟩) (hst1 e).1)
  case i2c => exact Pres_pI _ fun b r e => G hls (okL_cons ⟨by dsimp only; omega, by dsimp only; omega⟩ (hst1 e).1)
  case dup =>
    dsimp only
    split
    · exact G hls (okL_cons (okL_hd hst) hst)
    · exact G hls (okL_cons (okL_hd hst) hst)
    · exact Pres_false
  case dup2 =>
    dsimp only
    split
    · exact G hls (okL_cons (okL_hd hst) (okL_cons (okL_hd (okL_tl hst)) hst))
    · exact Pres_false
  case pop =>
    dsimp only
    split
    · exact G hls (okL_tl hst)
    · exact G hls (okL_tl hst)
    · exact Pres_false
  case pop2 =>
    dsimp only
    split
    · exact G hls (okL_tl hst)
    · exact Pres_false
  case ifCond cc o => exact Pres_pI _ fun b r e => Pres_brb _ (G hls (hst1 e).1) (G hls (hst1 e).1)
  case if_icmp cc o => exact Pres_pI _ fun b r e => Pres_pI _ fun a r2 e2 => Pres_brb _ (G hls (hst2 e e2).1) (G hls (hst2 e e2).1)
  case ifnull o => exact Pres_pR _ fun b r e => Pres_brb _ (G hls (hst1 e).1) (G hls (hst1 e).1)
  case ifnonnull o => exact Pres_pR _ fun b r e => Pres_brb _ (G hls (hst1 e).1) (G hls (hst1 e).1)
  case goto o => exact G hls hst
  case tableswitch d lo hi offs => exact Pres_pI _ fun b r e => Pres_tsw _ _ _ _ _ _ _ (fun _ => ⟨hc, hls, (hst1 e).1, hM, hF⟩) _ _
  case lookupswitch d ps => exact Pres_pI _ fun b r e => Pres_lsw _ _ _ _ _ _ _ (fun _ => ⟨hc, hls, (hst1 e).1, hM, hF⟩) _
  case getfield i =>
    dsimp only
    split
    · rename_i ci k e
      have ht := lk_all fTab_ok e
      simp only [Bool.and_eq_true, Bool.or_eq_true, decide_eq_true_eq] at ht
      refine Pres_pR _ fun a r e1 => Pres_ckt _ fun h1 => ?_
      have ha : tyT a = 10 + ci := by simpa using h1
      have ha1 : 1 ≤ a := ty_pos (by omega)
      have hac : a ≤ c := (hst1 e1).2.2
      split
      · rename_i o e2
        have e3 : fm = 1 ∧ (stTab.getD ci []).getD k (0, 0) = (1, o) := by
          unfold rdF at e2
          split at e2
          · exact ⟨rfl, e2⟩
          · cases e2
        exact G hls (okL_cons ((st_rd ht.1.1 ha ht.1.2 hac hM (hF (hf1 e3.1)) e3.2 (stTab_tag ci ht.1.1 k ht.1.2 (by rw [e3.2]; exact (by decide : (1 : Nat) ≠ 0)))).1 rfl) (hst1 e1).1)
      · rename_i o e2
        have e3 : fm = 1 ∧ (stTab.getD ci []).getD k (0, 0) = (2, o) := by
          unfold rdF at e2
          split at e2
          · exact ⟨rfl, e2⟩
          · cases e2
        exact G hls (okL_cons ((st_rd ht.1.1 ha ht.1.2 hac hM (hF (hf1 e3.1)) e3.2 (stTab_tag ci ht.1.1 k ht.1.2 (by rw [e3.2]; exact (by decide : (2 : Nat) ≠ 0)))).2 rfl) (hst1 e1).1)
      · refine G hls (okL_cons ?_ (hst1 e1).1)
        have h3 := hM a k ha1 hac (by omega) (by rw [ty_obj ha ht.1.1]; omega)
        rw [slT_obj ha ht.1.1] at h3
        exact h3
    · split
      · exact Pres_pS _ fun k r e => G hls (okL_cons (hst1 e).2 (hst1 e).1)
      · exact Pres_pS _ fun k r e => G hls (okL_cons ⟨by decide, by decide⟩ (hst1 e).1)
      · exact Pres_false
  case getstatic i =>
    dsimp only
    split
    · exact G hls (okL_cons ⟨by decide, by decide⟩ hst)
    · exact G hls (okL_cons trivial hst)
    · exact Pres_false
  case putfield i =>
    dsimp only
    split
    · rename_i ci k e
      have ht := lk_all fTab_ok e
      simp only [Bool.and_eq_true, Bool.or_eq_true, decide_eq_true_eq] at ht
      refine Pres_ckt _ fun h0 => ?_
      have hs : fm = 0 ∨ isSt ci k = false := by
        rcases Bool.or_eq_true _ _ |>.mp h0 with h | h
        · exact Or.inl (by simpa using h)
        · exact Or.inr (by simpa using h)
      split
      · rename_i et
        exact Pres_pI _ fun x r e1 => Pres_pR _ fun a r2 e2 => Pres_ckt _ fun h1 => UPo hls (hst2 e1 e2).1 (by simpa using h1) ht.1.1 (by rw [et]; exact (hst2 e1 e2).2.1) hs
      · rename_i et
        exact Pres_pL _ fun x r e1 => Pres_pR _ fun a r2 e2 => Pres_ckt _ fun h1 => UPo hls (hst2 e1 e2).1 (by simpa using h1) ht.1.1 (by rw [et]; exact (hst2 e1 e2).2.1) hs
      · rename_i et
        exact Pres_pR _ fun x r e1 => Pres_pR _ fun a r2 e2 => Pres_ckt _ fun h1 => UPo hls (hst2 e1 e2).1 (by simpa using h1) ht.1.1 (by rw [et]; exact (hst2 e1 e2).2.1) hs
      · rename_i et
        exact Pres_pI _ fun x r e1 => Pres_pR _ fun a r2 e2 => Pres_ckt _ fun h1 => Pres_chk _ fun _ => UPo hls (hst2 e1 e2).1 (by simpa using h1) ht.1.1 (by rw [et]; exact (hst2 e1 e2).2.1) hs
      · exact Pres_false
    · exact Pres_false
  case arraylength =>
    dsimp only
    split
    · rename_i a r
      have := ln_ok a
      exact Pres_ckt _ fun _ => G hls (okL_cons ⟨by dsimp only; omega, by dsimp only; omega⟩ (okL_tl hst))
    · exact Pres_ckt _ fun _ => G hls (okL_cons ⟨by dsimp only; omega, by dsimp only; omega⟩ (okL_tl hst))
    · rename_i k r
      have := sLen_ok k.toNat
      exact G hls (okL_cons ⟨by dsimp only; omega, by dsimp only; omega⟩ (okL_tl hst))
    · exact Pres_false
  case iaload =>
    refine Pres_pI _ fun i r e => ?_
    split
    · rename_i a r2
      refine Pres_ckt _ fun h1 => Pres_chk _ fun h2 => ?_
      have h1 : tyT a = 1 := by simpa using h1
      have h2 := inb_iff.mp h2
      have h3 := hM a i (ty_pos (by omega)) (hst3 e).2.2.2 h2.1 h2.2
      rw [slT_int (Or.inl h1)] at h3
      exact G hls (okL_cons h3 (hst3 e).1)
    · exact Pres_chk _ fun h2 => G hls (okL_cons (hxs _) (hst3 e).1)
    · exact Pres_false
  case baload =>
    refine Pres_pI _ fun i r e => ?_
    split
    · rename_i a r2
      refine Pres_ckt _ fun h1 => Pres_chk _ fun h2 => ?_
      have h1 : tyT a = 3 ∨ tyT a = 4 := by simpa using h1
      have h2 := inb_iff.mp h2
      have h3 := hM a i (ty_pos (by omega)) (hst3 e).2.2.2 h2.1 h2.2
      rw [slT_int (by omega)] at h3
      exact G hls (okL_cons h3 (hst3 e).1)
    · rename_i k r2
      have := sCh_ok k.toNat i.toNat
      exact Pres_chk _ fun h2 => G hls (okL_cons ⟨by dsimp only; omega, by dsimp only; omega⟩ (hst3 e).1)
    · exact Pres_false
  case laload =>
    refine Pres_pI _ fun i r e => Pres_pR _ fun a r2 e2 => Pres_ckt _ fun h1 => Pres_chk _ fun h2 => ?_
    have h1 : tyT a = 2 := by simpa using h1
    have h2 := inb_iff.mp h2
    have h3 := hM a i (ty_pos (by omega)) (hst2 e e2).2.2.2 h2.1 h2.2
    rw [slT_long (by omega)] at h3
    exact G hls (okL_cons h3 (hst2 e e2).1)
  case aaload =>
    refine Pres_pI _ fun i r e => Pres_pR _ fun a r2 e2 => Pres_ckt _ fun h1 => Pres_chk _ fun h2 => ?_
    have h1 : 40 ≤ tyT a := by simpa using h1
    have h2 := inb_iff.mp h2
    have h3 := hM a i (ty_pos (by omega)) (hst2 e e2).2.2.2 h2.1 h2.2
    rw [slT_ref (by omega)] at h3
    split
    · rename_i b s e4
      unfold rdA at e4
      split at e4
      · have h5 := (hF (hf1 rfl)).2.2 a i (ty_pos (by omega)) (hst2 e e2).2.2.2 h2.1 h2.2
        dsimp only at h5
        unfold stA at h5
        cases hq : stArr.find? (fun q => q.1 == a) with
        | none => rw [hq] at e4; cases e4
        | some q =>
          rw [hq] at e4 h5
          obtain ⟨q1, q2, q3⟩ := q
          cases e4
          dsimp only at h5
          rw [h5] at h3
          exact G hls (okL_cons h3 (hst2 e e2).1)
      · cases e4
    · exact G hls (okL_cons h3 (hst2 e e2).1)
  case iastore =>
    refine Pres_pI _ fun x r e => Pres_pI _ fun i r2 e2 => Pres_pR _ fun a r3 e3 => Pres_ckt _ fun h1 => Pres_chk _ fun h2 => ?_
    have h1 : tyT a = 1 := by simpa using h1
    have e4 : st = (0, x) :: (0, i) :: (2, a) :: r3 := by rw [e, e2, e3]
    rw [e4] at hst
    exact UPa hls (okL_tl (okL_tl (okL_tl hst))) (by omega) (by rw [slT_int (Or.inl h1)]; exact okL_hd hst)
  case lastore =>
    refine Pres_pL _ fun x r e => Pres_pI _ fun i r2 e2 => Pres_pR _ fun a r3 e3 => Pres_ckt _ fun h1 => Pres_chk _ fun h2 => ?_
    have h1 : tyT a = 2 := by simpa using h1
    have e4 : st = (1, x) :: (0, i) :: (2, a) :: r3 := by rw [e, e2, e3]
    rw [e4] at hst
    exact UPa hls (okL_tl (okL_tl (okL_tl hst))) (by omega) (by rw [slT_long h1]; exact okL_hd hst)
  case bastore =>
    refine Pres_pI _ fun x r e => Pres_pI _ fun i r2 e2 => Pres_pR _ fun a r3 e3 => Pres_ckt _ fun h1 => Pres_chk _ fun h2 => ?_
    have h1 : tyT a = 3 ∨ tyT a = 4 := by
      simp only [Bool.or_eq_true, Bool.and_eq_true, beq_iff_eq] at h1
      rcases h1 with h | h
      · exact Or.inl h
      · exact Or.inr h.1
    have e4 : st = (0, x) :: (0, i) :: (2, a) :: r3 := by rw [e, e2, e3]
    rw [e4] at hst
    have := w8_rng x
    exact UPa hls (okL_tl (okL_tl (okL_tl hst))) (by omega) (by rw [slT_int (by omega)]; exact ⟨by dsimp only; omega, by dsimp only; omega⟩)
  case aastore =>
    refine Pres_ckt _ fun h0 => Pres_pR _ fun x r e => Pres_pI _ fun i r2 e2 => Pres_pR _ fun a r3 e3 => Pres_ckt _ fun h1 => Pres_chk _ fun h2 => ?_
    have h1 : 40 ≤ tyT a := by
      simp only [Bool.and_eq_true, decide_eq_true_eq] at h1
      exact h1.1
    have e4 : st = (2, x) :: (0, i) :: (2, a) :: r3 := by rw [e, e2, e3]
    rw [e4] at hst
    refine Pres_go ⟨hc, hls, okL_tl (okL_tl (okL_tl hst)), okM_up hM (by rw [slT_ref h1]; exact okL_hd hst), fun hff => ?_⟩
    rcases hf2 hff with e5 | e5 <;> rw [e5] at h0 <;> exact absurd h0 (by decide)
  case new i =>
    dsimp only
    split
    · exact Pres_ckt _ fun h0 => Pres_ckt _ fun h1 => NEW hls hst h0
    · exact Pres_false
  case newarray t =>
    refine Pres_pI _ fun n r e => Pres_ckt _ fun h1 => ?_
    simp only [Bool.and_eq_true] at h1
    exact NEW hls (hst1 e).1 h1.1.1
  case anewarray i =>
    dsimp only
    split
    · refine Pres_pI _ fun n r e => Pres_ckt _ fun h1 => ?_
      simp only [Bool.and_eq_true] at h1
      exact NEW hls (hst1 e).1 h1.1.1
    · exact Pres_false
  case invokevirtual i =>
    dsimp only
    split
    · exact Pres_popA _ c _ _ hst (fun _ h => absurd h List.not_mem_nil) fun as r h1 h2 => Pres_hd2 _ fun a => Pres_ckt _ fun _ => CALL _ _ _ h1 h2
    · exact Pres_popA _ c _ _ hst (fun _ h => absurd h List.not_mem_nil) fun as r h1 h2 => Pres_hd3 _ (Pres_ckt _ fun _ => CALL _ _ _ h1 h2)
    · exact Pres_false
  case invokestatic i =>
    dsimp only
    split
    · exact Pres_popA _ c _ _ hst (fun _ h => absurd h List.not_mem_nil) fun as r h1 h2 => Pres_ckt _ fun _ => CALL _ _ _ h1 h2
    · refine Pres_pI _ fun n r e => Pres_pI _ fun dp r2 e2 => Pres_pR _ fun d r3 e3 => Pres_pI _ fun sp r4 e4 => Pres_pR _ fun s r5 e5 => Pres_ckt _ fun h1 => Pres_chk _ fun h2 => ?_
      simp only [Bool.and_eq_true, Bool.or_eq_true, beq_iff_eq] at h1
      simp only [Bool.and_eq_true, decide_eq_true_eq] at h2
      have e6 : st = (0, n) :: (0, dp) :: (2, d) :: (0, sp) :: (2, s) :: r5 := by rw [e, e2, e3, e4, e5]
      rw [e6] at hst
      have h10 : tyT s = tyT d ∧ tyT s < 10 := by omega
      refine Pres_go ⟨hc, hls, okL_tl (okL_tl (okL_tl (okL_tl (okL_tl hst)))), okM_cpy hM h10.1 h10.2 (ty_pos (by omega)) ?_ (by omega) (by omega), fun hff => Full_cpy (hF hff) (by omega)⟩
      exact (okL_hd (okL_tl (okL_tl (okL_tl (okL_tl hst))))).2
    · exact Pres_false
  case invokespecial i =>
    dsimp only
    split
    · exact Pres_popA _ c _ _ hst (fun _ h => absurd h List.not_mem_nil) fun as r h1 h2 => Pres_hd2 _ fun a => Pres_ckt _ fun _ => CALL _ _ _ h1 h2
    · exact Pres_pR _ fun a r e => Pres_ckt _ fun _ => G hls (hst1 e).1
    · exact Pres_false
  case ireturn => exact Pres_endI _ _ _ fun x hx => RET _ hx
  case lreturn => exact Pres_endL _ _ _ fun x hx => RET _ hx
  case return_ => exact Pres_endV _ _ _ (And.intro hc (And.intro (fun y e => by cases e) (And.intro hM hF)))
end SiInv2
