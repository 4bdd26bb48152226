section Dd2
variable {d c : Nat}
set_option maxRecDepth 100000 in
theorem gvs_loop {Q : sQ} (v0 : sF) (h28 : 0 ≤ v0 164 28 ∧ v0 164 28 ≤ 6) (hto : ∀ l : Int, 0 ≤ l → l < v0 164 28 → 0 ≤ v0 164 (84 + l) ∧ v0 164 (84 + l) < 6) (hQ : ∀ n v, Off [164] v0 v → gvR (v0 164) (v 164) (v0 164 28) n → Q (some (0, n)) (c, v)) : ∀ (m : Nat) (k n : Int) (v : sF), 0 ≤ k → k + m = v0 164 28 → Off [164] v0 v → gvR (v0 164) (v 164) k n → Wp (Ev (d + 2)) 0 (fun _ => 0) 221 Q 4 [(2, 163), (0, n), (0, k)] [] c v := by
  intro m
  induction m with
  | zero =>
    intro k n v k0 hk ho hg
    refine E221_4 _ _ ?_
    rw [hg.1 28 (by omega)]
    exact brbI (fun _ => hQ n v ho (by rw [show v0 164 28 = k by omega]; exact hg)) (fun z => absurd z (by omega))
  | succ m ih =>
    intro k n v k0 hk ho hg
    have hk6 : 0 ≤ k ∧ k < 6 := by omega
    have hE := C_isGiven (d := d) (c := c) (v := v) (al := v 164) (l := k) rfl hg.2.1 hk6
    have hG : isG (v 164) k = isG (v0 164) k := by
      rw [Bool.eq_iff_iff, (hg.2.2.1 k k0 hk6.2).1]
      exact ⟨fun z => z.elim id (fun q => absurd q.1 (by omega)), fun z => Or.inl z⟩
    rw [hG] at hE
    have hnr := cnt_rng (nwl (v0 164)) k.toNat
    have hn := hg.2.2.2
    have ht := hto k k0 (by omega)
    have e78 : v 164 (78 + k) = v0 164 (78 + k) := hg.1 _ (by omega)
    have e84 : v 164 (84 + k) = v0 164 (84 + k) := hg.1 _ (by omega)
    have e30 : v 164 (30 + v0 164 (84 + k)) = v0 164 (30 + v0 164 (84 + k)) := hg.1 _ (by omega)
    refine E221_4 _ _ ?_
    rw [hg.1 28 (by omega)]
    refine brbI (fun z => absurd z (by omega)) (fun _ => ⟨_, c, v, hE, bfi (fun z => rngI (by omega) (ih (k + 1) n v (by omega) (by omega) ho (gvR_n hk6 hg ?_))) (fun z => ?_)⟩)
    · unfold nwl; rw [z]; simp
    · rw [e84, e78, e30]
      refine rngI (by omega) (chkI (inbI (by omega) (by omega)) (rngI (by omega) (chkI (inbI (by omega) (by omega)) (rngI (by omega) (chkI (inbI (by omega) (by omega)) (brbI (fun z2 => rngI (by omega) (chkI (inbI (by omega) (by omega)) (rngI (by omega) (rngI (by omega) (ih (k + 1) (n + 1) _ (by omega) (by omega) ((ho.up (by decide)).up (by decide)) ?_))))) (fun z2 => rngI (by omega) (ih (k + 1) n v (by omega) (by omega) ho (gvR_n hk6 hg ?_)))))))))
      · rw [up_ua, up_ua]
        exact gvR_y hk6 hg (by unfold nwl; rw [bf z]; simp [z2])
      · unfold nwl; simp [z2]
theorem C_gives {v : sF} (h28 : 0 ≤ v 164 28 ∧ v 164 28 ≤ 6) (h29 : 0 ≤ v 164 29 ∧ v 164 29 < 64) (hto : ∀ l : Int, 0 ≤ l → l < v 164 28 → 0 ≤ v 164 (84 + l) ∧ v 164 (84 + l) < 6) : ∃ n v', Ev (d + 3) 221 [(2, 163)] (c, v) (some (0, n)) (c, v') ∧ Off [164] v v' ∧ gvR (v 164) (v' 164) (v 164 28) n := CB_of loc221 (E221_0 (gvs_loop v h28 hto (fun n v2 ho hg => ⟨n, v2, rfl, rfl, ho, hg⟩) (v 164 28).toNat 0 0 v (by omega) (by omega) (Off.rf _ _) (gvR_0 _ h29)))
theorem CV_ex {d y : Nat} {as ls : List sV} {c : Nat} {v : sF} {Post : sF → Prop} (hl : loc0 as (mMax y) = ls) (h : Wp (Ev d) 0 (fun _ => 0) y (fun r μ => r = none ∧ ∃ v', μ = (c, v') ∧ Post v') 0 ls [] c v) : ∃ v', Ev (d + 1) y as (c, v) none (c, v') ∧ Post v' := CV_of hl h
set_option maxRecDepth 100000 in
theorem C_mails {v : sF} {p x : Int} (hS : St (v 164)) (hL : v 164 28 < 6) (hp : 0 ≤ p ∧ p < v 164 2) : ∃ v', Ev (d + 4) 225 [(2, 163), (0, p), (0, x)] (c, v) none (c, v') ∧ Off [164] v v' ∧ PoR (v 164) p x (v' 164) ∧ K96 (v 164) (v' 164) := by
  have h0 := hS.2.2.1
  have h2 := hS.1.2.1
  refine CV_of (loc225 p x) (E225_0 p x ?_)
  obtain ⟨v1, hv1⟩ : ∃ v1, v1 = (up (up (up (up v 164 28 ((v 164 28) + 1)) 164 (78 + (v 164 28)) x) 164 (84 + (v 164 28)) p) 164 (90 + (v 164 28)) ((up (up (up v 164 28 ((v 164 28) + 1)) 164 (78 + (v 164 28)) x) 164 (84 + (v 164 28)) p) 164 27)) := ⟨_, rfl⟩
  have e27 : (up (up (up v 164 28 ((v 164 28) + 1)) 164 (78 + (v 164 28)) x) 164 (84 + (v 164 28)) p) 164 27 = v 164 27 := by rw [up_ne _ (by omega), up_ne _ (by omega), up_ne _ (by omega)]
  have e1 : v1 164 = ua (ua (ua (ua (v 164) 28 (v 164 28 + 1)) (78 + v 164 28) x) (84 + v 164 28) p) (90 + v 164 28) (v 164 27) := by rw [hv1, e27, up_ua, up_ua, up_ua, up_ua]
  have b28 : v1 164 28 = v 164 28 + 1 := by rw [e1, ua_n (by omega), ua_n (by omega), ua_n (by omega), ua_s]
  have hO1 : Off [164] v v1 := by rw [hv1]; exact ((((Off.rf _ v).up (by decide)).up (by decide)).up (by decide)).up (by decide)
  obtain ⟨n, v2, hE, hO, hg⟩ := C_gives (d := d) (c := c) (v := v1) (by omega) (by rw [e1, ua_n (by omega), ua_n (by omega), ua_n (by omega), ua_n (by omega)]; exact hS.2.2.2.1) (fun l l0 l1 => by
    rw [b28] at l1
    by_cases e : l = v 164 28
    · rw [e1, e, ua_n (by omega), ua_s]; omega
    · rw [e1, ua_n (by omega), ua_n (by omega), ua_n (by omega), ua_n (by omega)]
      have := (hS.2.2.2.2.2.2 l l0 (by omega)).1
      omega)
  have hK : K96 (v 164) (v2 164) := K96_e (gvR_K hg) (by rw [e1, ua_n (by omega), ua_n (by omega), ua_n (by omega), ua_n (by omega)]) (fun l l0 l1 => by rw [e1, ua_n (by omega), ua_n (by omega), ua_n (by omega), ua_n (by omega)])
  rw [b28, e1] at hg
  rw [← hv1]
  exact rngI (by omega) (rngI (by omega) (chkI (inbI (by omega) (by omega)) (rngI (by omega) (chkI (inbI (by omega) (by omega)) (rngI (by omega) (chkI (inbI (by omega) (by omega)) ⟨n, c, v2, hE, rfl, _, rfl, hO1.tr hO, PoR_of hS.2.2 hL (by omega) h2.2 hg, hK⟩))))))
theorem C_moves1 {v : sF} {p x : Int} (hS : St (v 164)) (hp : 0 ≤ p ∧ p < v 164 2) : ∃ n v', Ev (d + 4) 226 [(2, 163), (0, p), (0, x)] (c, v) (some (0, n)) (c, v') ∧ Off [164] v v' ∧ MoR (v 164) p x (v' 164) n ∧ K96 (v 164) (v' 164) := by
  have h0 := hS.2.2.1
  have h2 := hS.1.2.1
  have e1 : up v 164 (30 + p) x 164 = ua (v 164) (30 + p) x := up_ua _ _ _ _
  have b28 : up v 164 (30 + p) x 164 28 = v 164 28 := by rw [e1, ua_n (by omega)]
  obtain ⟨n, v2, hE, hO, hg⟩ := C_gives (d := d) (c := c) (v := up v 164 (30 + p) x) (by rw [b28]; exact h0) (by rw [e1, ua_n (by omega)]; exact hS.2.2.2.1) (fun l l0 l1 => by
    rw [b28] at l1
    rw [e1, ua_n (by omega)]
    have := (hS.2.2.2.2.2.2 l l0 l1).1
    omega)
  have hK : K96 (v 164) (v2 164) := K96_e (gvR_K hg) (by rw [e1, ua_n (by omega)]) (fun l l0 l1 => by rw [e1, ua_n (by omega)])
  rw [b28, e1] at hg
  refine CB_of (loc226 p x) (E226_0 p x (rngI (by omega) (chkI (inbI (by omega) (by omega)) ⟨n, c, v2, hE, n, v2, rfl, rfl, ((Off.rf _ v).up (by decide)).tr hO, MoR_of hS.2.2 (by omega) h2.2 hg, hK⟩)))
/-- a day ahead of gives -/
def midR (a b : Int → Int) (k : Int) : Prop := b 27 = a 27 + 1 ∧ (∀ j : Int, ¬ (j = 27 ∨ (78 ≤ j ∧ j < 78 + a 28)) → b j = a j) ∧ (∀ l : Int, 0 ≤ l → l < k → b (78 + l) = if isG a l = true then a (78 + l) else nxA a (-1) (a (84 + l)) (a (78 + l))) ∧ ∀ l : Int, k ≤ l → l < a 28 → b (78 + l) = a (78 + l)
set_option maxRecDepth 100000 in
theorem gd_loop {Q : sQ} (v0 : sF) (al : Int → Int) (hS : St al) (hi : v0 163 18 = -1) (hQ : ∀ v, Off [164, 168, 169] v0 v → midR al (v 164) (al 28) → ∃ r3 c1 v2, Ev (d + 5) 221 [(2, 163)] (c, v) (some (0, r3)) (c1, v2) ∧ Q (some (0, r3)) (c1, v2)) : ∀ (m : Nat) (k : Int) (v : sF), 0 ≤ k → k + m = al 28 → Off [164, 168, 169] v0 v → midR al (v 164) k → Wp (Ev (d + 5)) 0 (fun _ => 0) 227 Q 13 [(2, 163), (0, k)] [] c v := by
  have h0 := hS.2.2.1
  have h1 := hS.1.1
  have h2 := hS.1.2.1
  intro m
  induction m with
  | zero =>
    intro k v k0 hk ho hm
    refine E227_13 _ ?_
    rw [hm.2.1 28 (by omega)]
    exact brbI (fun _ => hQ v ho (by rw [show al 28 = k by omega]; exact hm)) (fun z => absurd z (by omega))
  | succ m ih =>
    intro k v k0 hk ho hm
    have hk6 : 0 ≤ k ∧ k < 6 := by omega
    have e29 : v 164 29 = al 29 := hm.2.1 29 (by omega)
    have hE := C_isGiven (d := d + 3) (c := c) (v := v) (al := v 164) (l := k) rfl (by rw [e29]; exact hS.2.2.2.1) hk6
    rw [isG_e e29 k] at hE
    have hll := hS.2.2.2.2.2.2 k k0 (by omega)
    have e84 : v 164 (84 + k) = al (84 + k) := hm.2.1 _ (by omega)
    have e78 : v 164 (78 + k) = al (78 + k) := hm.2.2.2 k (by omega) (by omega)
    have hsame : ∀ j : Int, (j < 27 ∨ (30 ≤ j ∧ j < 78) ∨ (854 ≤ j ∧ j < 1754)) → v 164 j = al j := fun j hj => hm.2.1 j (by omega)
    have hT2 : okT (v 164) := okT_cg (fun j hj => hsame j (by omega)) hS.1
    have hN2 : okN (v 164) := by
      unfold okN okMn
      rw [hsame 1 (by omega)]
      exact ⟨fun p p0 p1 => by rw [hsame (30 + p) (by omega), hsame (36 + p) (by omega)]; exact hS.2.1.1 p p0 p1, fun i i0 i1 => by rw [hsame (42 + i) (by omega)]; exact hS.2.1.2 i i0 i1⟩
    refine E227_13 _ ?_
    rw [hm.2.1 28 (by omega)]
    refine brbI (fun z => absurd z (by omega)) (fun _ => ⟨_, c, v, hE, bfi (fun z => rngI (by omega) (ih (k + 1) v (by omega) (by omega) ho ⟨hm.1, hm.2.1, fun l l0 l1 => ?_, fun l l0 l1 => hm.2.2.2 l (by omega) l1⟩)) (fun z => ?_)⟩)
    · by_cases e : l = k
      · rw [e, if_pos z]; exact e78
      · exact hm.2.2.1 l l0 (by omega)
    · obtain ⟨v1, hE1, hO1⟩ := C_nextOfM (d := d) (c := c) (v := v) (to := v 164 (84 + k)) (place := v 164 (78 + k)) hT2 hN2 (by rw [e84]; omega)
      rw [ho 163 (by decide), hi, nxA_cg hS.1 (by rw [e84]; omega) hsame, e84, e78] at hE1
      have e1 : v1 164 = v 164 := hO1 164 (by decide)
      rw [e84, e78]
      refine rngI (by omega) (rngI (by omega) (chkI (inbI (by omega) (by omega)) (rngI (by omega) (chkI (inbI (by omega) (by omega)) ⟨_, c, v1, hE1, chkI (inbI (by omega) (by omega)) (rngI (by omega) (ih (k + 1) _ (by omega) (by omega) ((ho.tr (hO1.wk (by decide))).up (by decide)) ?_))⟩))))
      rw [up_ua, e1]
      refine ⟨by rw [ua_n (by omega)]; exact hm.1, fun j hj => by rw [ua_n (by omega)]; exact hm.2.1 j hj, fun l l0 l1 => ?_, fun l l0 l1 => by rw [ua_n (by omega)]; exact hm.2.2.2 l (by omega) l1⟩
      by_cases e : l = k
      · rw [e, ua_s, if_neg z]
      · rw [ua_n (by omega)]; exact hm.2.2.1 l l0 (by omega)
theorem cnt_add {P P' P'' : Int → Bool} : ∀ {n : Nat}, (∀ k : Nat, k < n → P'' k = (P k || P' k) ∧ (P k && P' k) = false) → cnt P'' n = cnt P n + cnt P' n := by
  intro n
  induction n with
  | zero => intro _; rfl
  | succ n ih =>
    intro h
    have h1 := h n (by omega)
    rw [cnt_s, cnt_s, cnt_s, ih (fun k hk => h k (by omega)), h1.1]
    cases hp : P n <;> cases hp' : P' n
    · simp
    · simp; omega
    · simp; omega
    · rw [hp, hp'] at h1; exact absurd h1.2 (by decide)
theorem DyR_step {al a b a' : Int → Int} {n : Nat} {m : Int} (hS : St al) (h : DyR al n a) (hm : midR a b (al 28)) (hg : gvR b a' (al 28) m) : DyR al (n + 1) a' ∧ cmN al a' = cmN al a + m := by
  have h0 := hS.2.2.1
  have h2 := hS.1.2.1
  have e28 : a 28 = al 28 := h.1 28 (by omega)
  have hb : ∀ j : Int, ¬ (j = 27 ∨ (78 ≤ j ∧ j < 78 + al 28)) → b j = a j := fun j hj => hm.2.1 j (by rw [e28]; exact hj)
  have bG : ∀ l, isG b l = isG a l := fun l => isG_e (hb 29 (by omega)) l
  have hsame : ∀ j : Int, (j < 27 ∨ (30 ≤ j ∧ j < 78) ∨ (854 ≤ j ∧ j < 1754)) → a j = al j := fun j hj => h.1 j (by omega)
  have key : ∀ l : Int, 0 ≤ l → l < al 28 → (isG al l = false → b (78 + l) = itf (gLt al l) (n + 1) (al (78 + l)) ∧ (nwl b l = true ↔ (isG a l = false ∧ itf (gLt al l) (n + 1) (al (78 + l)) = tL al l))) ∧ (isG al l = true → b (78 + l) = al (78 + l) ∧ nwl b l = false) := fun l l0 l1 => by
    have hll := hS.2.2.2.2.2.2 l l0 l1
    have hd := h.2.2.2.2 l l0 l1
    have hml := hm.2.2.1 l l0 l1
    have e84 : a (84 + l) = al (84 + l) := h.1 _ (by omega)
    have e84b : b (84 + l) = al (84 + l) := (hb _ (by omega)).trans e84
    have e30b : b (30 + al (84 + l)) = tL al l := (hb _ (by omega)).trans (hsame _ (by omega))
    refine ⟨fun hgf => ?_, fun hgt => ?_⟩
    · have hd := hd.2 hgf
      have hbe : b (78 + l) = itf (gLt al l) (n + 1) (al (78 + l)) := by
        rw [hml, itf_succ]
        by_cases hga : isG a l = true
        · rw [if_pos hga, hd.1, hd.2.1.1 hga, gLt_t]
        · rw [if_neg hga, hd.1, e84, nxA_cg hS.1 (by omega) hsame]; rfl
      refine ⟨hbe, ?_⟩
      unfold nwl
      rw [bG, hbe, e84b, e30b]
      cases isG a l <;> simp
    · have hd := hd.1 hgt
      rw [hml, if_pos hd.2.1]
      exact ⟨hd.1, by unfold nwl; rw [bG, hd.2.1]; rfl⟩
  refine ⟨⟨fun k hk => ?_, ?_, hg.2.1, fun l l0 l1 => ?_, fun l l0 l1 => ?_⟩, ?_⟩
  · rw [hg.1 k (by omega), hb k (by omega)]; exact h.1 k hk
  · rw [hg.1 27 (by omega), hm.1, h.2.1]; omega
  · refine bf (fun z => ?_)
    rw [(hg.2.2.1 l (by omega) l1).1, bG, h.2.2.2.1 l l0 l1] at z
    rcases z with z | z
    · cases z
    · omega
  · have hk := key l l0 l1
    have hgl := hg.2.2.1 l l0 (by omega)
    have e78 : a' (78 + l) = b (78 + l) := hg.1 _ (by omega)
    have e96 : b (96 + l) = a (96 + l) := hb _ (by omega)
    refine ⟨fun hgt => ?_, fun hgf => ?_⟩
    · have hd := (h.2.2.2.2 l l0 l1).1 hgt
      have hk := hk.2 hgt
      refine ⟨e78.trans hk.1, hgl.1.2 (Or.inl (by rw [bG]; exact hd.2.1)), ?_⟩
      rw [hgl.2.2 (fun z => by rw [hk.2] at z; exact absurd z.2 (by decide)), e96]
      exact hd.2.2
    · have hd := (h.2.2.2.2 l l0 l1).2 hgf
      have hk := hk.1 hgf
      refine ⟨e78.trans hk.1, ?_, fun z => ?_⟩
      · rw [hgl.1, bG, hk.2]
        constructor
        · rintro (z | z)
          · rw [itf_succ, hd.2.1.1 z, gLt_t]
          · exact z.2.2
        · intro z
          by_cases hga : isG a l = true
          · exact Or.inl hga
          · exact Or.inr ⟨l1, bf hga, z⟩
      · by_cases hga : isG a l = true
        · obtain ⟨i, i1, i2, i3, i4, i5⟩ := hd.2.2 hga
          refine ⟨i, i1, by omega, i3, i4, ?_⟩
          rw [hgl.2.2 (fun z2 => by rw [hk.2, hga] at z2; exact absurd z2.2.1 (by decide)), e96]
          exact i5
        · rw [hgl.1, bG, hk.2] at z
          rcases z with z | z
          · exact absurd z hga
          · refine ⟨n + 1, by omega, Nat.le_refl _, z.2.2, fun j hj q => ?_, ?_⟩
            · have : itf (gLt al l) n (al (78 + l)) = tL al l := by rw [show n = j + (n - j) by omega, itf_add, q, gLt_tn]
              exact hga (hd.2.1.2 this)
            · rw [hgl.2.1 ⟨l1, hk.2.2 z.2⟩, hm.1, h.2.1]; omega
  · rw [hg.2.2.2]
    unfold cmN
    refine cnt_add (fun k hk => ?_)
    have l1 : (k : Int) < al 28 := by omega
    have hk2 := key k (by omega) l1
    have hgl := hg.2.2.1 k (by omega) (by omega)
    have ea' : isG a' k = (isG a k || nwl b k) := by
      rw [Bool.eq_iff_iff, hgl.1, bG, Bool.or_eq_true]
      exact ⟨fun z => z.elim Or.inl (fun q => Or.inr q.2), fun z => z.elim Or.inl (fun q => Or.inr ⟨l1, q⟩)⟩
    cases hga : isG al k with
    | true => have := (hk2.2 hga).2; simp [this]
    | false =>
      have hk2 := (hk2.1 hga).2
      rw [ea']
      cases hgb : isG a k with
      | true =>
        have : nwl b k = false := bf (fun z => by rw [hk2, hgb] at z; exact absurd z.1 (by decide))
        simp [this]
      | false => simp
theorem St_Dy {al al' : Int → Int} {n : Nat} (hS : St al) (h : DyR al n al') : St al' := by
  have h0 := hS.2.2.1
  have h1 := hS.1.1
  have h2 := hS.1.2.1
  have hsame := h.same h0
  refine ⟨okT_cg (fun k hk => hsame k (by omega)) hS.1, ?_, ?_⟩
  · unfold okN okMn
    rw [hsame 1 (by omega)]
    exact ⟨fun p p0 p1 => by rw [hsame (30 + p) (by omega), hsame (36 + p) (by omega)]; exact hS.2.1.1 p p0 p1, fun i i0 i1 => by rw [hsame (42 + i) (by omega)]; exact hS.2.1.2 i i0 i1⟩
  · have e27 := h.2.1
    have h27 := hS.2.2.2.2.1
    refine ⟨by rw [hsame 28 (by omega)]; exact h0, h.2.2.1, by omega, fun l l0 l1 => h.2.2.2.1 l (by rw [hsame 28 (by omega)] at l0; exact l0) l1, fun l l0 l1 => ?_⟩
    rw [hsame 28 (by omega)] at l1
    have hll := hS.2.2.2.2.2.2 l l0 l1
    have hd := h.2.2.2.2 l l0 l1
    have e84 : al' (84 + l) = al (84 + l) := hsame _ (by omega)
    have hgd : Gd (gLt al l) (al 1) := nx_gd hS.1 (-1) (by omega)
    rw [e84, hsame 2 (by omega), hsame 1 (by omega), hsame (90 + l) (by omega), hsame (30 + al (84 + l)) (by omega)]
    refine ⟨hll.1, ?_, by omega, fun hg => ?_, fun hg => ?_⟩
    · cases hgl : isG al l with
      | true => rw [(hd.1 hgl).1]; exact hll.2.1
      | false => rw [(hd.2 hgl).1]; exact hgd.it n hll.2.1
    · cases hgl : isG al l with
      | true => rw [(hd.1 hgl).2.2]; have := hll.2.2.2.1 hgl; omega
      | false =>
        obtain ⟨i, i1, i2, i3, i4, i5⟩ := (hd.2 hgl).2.2 hg
        rw [i5]; omega
    · cases hgl : isG al l with
      | true => rw [(hd.1 hgl).2.1] at hg; cases hg
      | false =>
        intro z
        have hd := hd.2 hgl
        rw [hd.1] at z
        rw [hd.2.1.2 z] at hg
        cases hg
theorem C_goesDay {v : sF} {al : Int → Int} {n : Nat} (hS : St al) (hi : v 163 18 = -1) (hd : DyR al n (v 164)) (hk : K96 al (v 164)) (h27 : v 164 27 ≤ 1000000) : ∃ m v', Ev (d + 6) 227 [(2, 163)] (c, v) (some (0, m)) (c, v') ∧ Off [164, 168, 169] v v' ∧ DyR al (n + 1) (v' 164) ∧ cmN al (v' 164) = cmN al (v 164) + m ∧ 0 ≤ m ∧ K96 al (v' 164) := by
  have hS2 := St_Dy hS hd
  have h0 := hS2.2.2.1
  have h270 := hS2.2.2.2.2.1
  have e28 : v 164 28 = al 28 := hd.1 28 (by have := hS.2.2.1; omega)
  refine CB_of loc227 (E227_0 (rngI (by omega) ?_))
  refine gd_loop (d := d) (up v 164 27 (v 164 27 + 1)) (v 164) hS2 (by rw [up_ne2 _ (by decide)]; exact hi) (fun v2 ho hm => ?_) (v 164 28).toNat 0 _ (by omega) (by omega) (Off.rf _ _) ?_
  · have hb28 : v2 164 28 = v 164 28 := hm.2.1 28 (by omega)
    obtain ⟨m, v3, hE, hO, hg⟩ := C_gives (d := d + 2) (c := c) (v := v2) (by omega) (by rw [hm.2.1 29 (by omega)]; exact hS2.2.2.2.1) (fun l l0 l1 => by
      rw [hm.2.1 (84 + l) (by omega)]
      have := (hS2.2.2.2.2.2.2 l l0 (by omega)).1
      have := hS2.1.2.1
      omega)
    have hK : K96 (v 164) (v3 164) := K96_e (gvR_K hg) (hm.2.1 29 (by omega)) (fun l l0 l1 => hm.2.1 (96 + l) (by omega))
    have hmo : ∀ l : Int, 0 ≤ l → l < 6 → isG (v 164) l = true → isG (v3 164) l = true := fun l l0 l1 z => (hg.2.2.1 l l0 l1).1.2 (Or.inl (by rw [isG_e (hm.2.1 29 (by omega)) l]; exact z))
    rw [hb28, e28] at hg
    rw [e28] at hm
    have hst := DyR_step hS hd hm hg
    refine ⟨m, c, v3, hE, m, v3, rfl, rfl, ((Off.rf _ v).up (by decide)).tr (ho.tr (hO.wk (by decide))), hst.1, hst.2, ?_, K96_tr hk hK (hd.mono hS.2.2) hmo⟩
    rw [hg.2.2.2]
    exact (cnt_rng _ _).1
  · rw [up_ua]
    exact ⟨ua_s _ _ _, fun j hj => ua_n (by omega), fun l l0 l1 => by omega, fun l l0 l1 => ua_n (by omega)⟩
end Dd2
