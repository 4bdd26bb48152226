section Dd6
variable {d c : Nat}
theorem C_whyMail {v : sF} {p x : Int} (hT : okT (v 164)) : Ev (d + 4) 222 [(2, 163), (1, p), (1, x)] (c, v) (some (0, dw (v 164) 0 p x)) (c, v) := by
  have h1 := hT.1
  have h2 := hT.2.1
  have hE := C_isPersonM (d := d + 1) (c := c) (v := v) (x := p) h2
  have hF := C_isPlaceM (d := d + 1) (c := c) (v := v) (x := x) (by omega)
  refine Ev_of (loc222 p x) (E222_0 p x ⟨_, c, v, hE, bfz (fun z => ?_) (fun z => ⟨_, c, v, hF, bfi (fun z2 => brbN (fun z3 => ?_) (fun z3 => ?_)) (fun z2 => ?_)⟩)⟩)
  · unfold dw; rw [if_pos z]; exact ⟨rfl, rfl⟩
  · unfold dw; rw [if_neg (fun q => q z), if_pos rfl, if_pos z2, if_neg z3]; exact ⟨rfl, rfl⟩
  · unfold dw; rw [if_neg (fun q => q z), if_pos rfl, if_pos z2, if_pos z3]; exact ⟨rfl, rfl⟩
  · unfold dw; rw [if_neg (fun q => q z), if_pos rfl, if_neg z2]; exact ⟨rfl, rfl⟩
theorem C_whyMove {v : sF} {p x : Int} (hT : okT (v 164)) : Ev (d + 4) 223 [(2, 163), (1, p), (1, x)] (c, v) (some (0, dw (v 164) 1 p x)) (c, v) := by
  have h1 := hT.1
  have h2 := hT.2.1
  have hE := C_isPersonM (d := d + 1) (c := c) (v := v) (x := p) h2
  have hF := C_isPlaceM (d := d + 1) (c := c) (v := v) (x := x) (by omega)
  refine Ev_of (loc223 p x) (E223_0 p x ⟨_, c, v, hE, bfz (fun z => ?_) (fun z => ⟨_, c, v, hF, bfi (fun z2 => rngI (by omega) (rngI (by omega) (chkI (inbI (by omega) (by omega)) (bne0 (fun z3 => ?_) (fun z3 => ?_))))) (fun z2 => ?_)⟩)⟩)
  · unfold dw; rw [if_pos z]; exact ⟨rfl, rfl⟩
  · unfold dw; rw [if_neg (fun q => q z), if_neg (by decide), if_pos rfl, if_pos z2, if_neg z3]; exact ⟨rfl, rfl⟩
  · unfold dw; rw [if_neg (fun q => q z), if_neg (by decide), if_pos rfl, if_pos z2, if_pos z3]; exact ⟨rfl, rfl⟩
  · unfold dw; rw [if_neg (fun q => q z), if_neg (by decide), if_pos rfl, if_neg z2]; exact ⟨rfl, rfl⟩
theorem C_whyArouse {v : sF} {p x : Int} (hT : okT (v 164)) : Ev (d + 4) 224 [(2, 163), (1, p), (1, x)] (c, v) (some (0, dw (v 164) 2 p x)) (c, v) := by
  have h1 := hT.1
  have h2 := hT.2.1
  have hE := C_areTwoM (d := d) (c := c) (v := v) (x := p) (y := x) h2
  refine Ev_of (loc224 p x) (E224_0 p x ⟨_, c, v, hE, bfi (fun z => rngI (by omega) (rngI (by omega) ⟨_, c, v, C_caresOf (d := d + 2) (c := c) (v := v) (p := p) (q := x) (by omega) (by omega), brbN (fun z3 => ?_) (fun z3 => ?_)⟩)) (fun z => ?_)⟩)
  · unfold dw; rw [if_neg (fun q => q z.1), if_neg (by decide), if_neg (by decide), if_pos rfl, if_pos ⟨z.2.1, z.2.2⟩, if_neg z3]; exact ⟨rfl, rfl⟩
  · unfold dw; rw [if_neg (fun q => q z.1), if_neg (by decide), if_neg (by decide), if_pos rfl, if_pos ⟨z.2.1, z.2.2⟩, if_pos z3]; exact ⟨rfl, rfl⟩
  · unfold dw
    by_cases hp : 0 ≤ p ∧ p < v 164 2
    · rw [if_neg (fun q => q hp), if_neg (by decide), if_neg (by decide), if_pos rfl, if_neg (fun q => z ⟨hp, q.1, q.2⟩)]; exact ⟨rfl, rfl⟩
    · rw [if_pos hp]; exact ⟨rfl, rfl⟩
theorem C_whyNot {v : sF} {e : Int} (hT : okT (v 164)) : Ev (d + 5) 234 [(2, 163), (1, e)] (c, v) (some (0, dwE (v 164) e)) (c, v) := by
  have h1 := hT.1
  have h2 := hT.2.1
  refine Ev_of (loc234 e) (E234_0 e (bne0 (fun he => ⟨_, c, v, C_within (d := d + 3) e 0 399, bfi (fun z => ?_) (fun z => ?_)⟩) (fun he => ?_)))
  · have ee : dwE (v 164) e = dw (v 164) (e / 100) (e % 100 / 10) (e % 10) := by unfold dwE; rw [if_neg he, if_pos z]
    rw [ee, tm100 z.1, tm10 z.1, td10 (by omega), w64_id (by omega)]
    refine bge (fun z1 => bge (fun z2 => bge (fun z3 => ?_) (fun z3 => ?_)) (fun z2 => ?_)) (fun z1 => ?_)
    · refine ⟨_, c, v, C_isPersonM (d := d + 2) (c := c) (v := v) (x := e % 100 / 10) h2, bfz (fun q => ?_) (fun q => ?_)⟩
      · unfold dw; rw [if_pos q]; exact ⟨rfl, rfl⟩
      · unfold dw; rw [if_neg (fun z => z q), if_neg (by omega), if_neg (by omega), if_neg (by omega), if_pos (by omega)]; exact ⟨rfl, rfl⟩
    · rw [show e / 100 = 2 by omega]
      exact ⟨_, c, v, C_whyArouse (d := d) hT, rfl, rfl⟩
    · rw [show e / 100 = 1 by omega]
      exact ⟨_, c, v, C_whyMove (d := d) hT, rfl, rfl⟩
    · rw [show e / 100 = 0 by omega]
      exact ⟨_, c, v, C_whyMail (d := d) hT, rfl, rfl⟩
  · unfold dwE; rw [if_neg he, if_neg z]; exact ⟨rfl, rfl⟩
  · unfold dwE; rw [if_pos he]; exact ⟨rfl, rfl⟩
/-- a deed is done in the model -/
theorem C_does {v : sF} {e : Int} (hS : St (v 164)) (hi : v 163 18 = -1) (h27 : v 164 27 ≤ 900000) (hw : dwE (v 164) e = 0) : ∃ v', Ev (d + 7) 235 [(2, 163), (0, e)] (c, v) none (c, v') ∧ Off [164, 168, 169] v v' ∧ dRE (v 164) e (v' 164) := by
  have h0 := hS.2.2.1
  have h2 := hS.1.2.1
  refine CV_of (loc235 e) (E235_0 e ?_)
  by_cases he : e = -1
  · obtain ⟨m, v', hE, hO, hd, _, _, hK⟩ := C_goesDay (d := d) (c := c) (v := v) (al := v 164) (n := 0) hS hi (DyR_0 hS.2.2) (K96_rf _) (by omega)
    exact brbN (fun z => absurd he z) (fun _ => ⟨m, c, v', hE, rfl, v', rfl, hO, fun _ => hd, fun z => absurd he z, hK⟩)
  · have hw2 := hw
    unfold dwE at hw2
    rw [if_neg he] at hw2
    by_cases hr : 0 ≤ e ∧ e ≤ 399
    · rw [if_pos hr] at hw2
      obtain ⟨hp, w0, w1, w2, w3⟩ := dw0 (by omega) hw2
      rw [tm100 hr.1, tm10 hr.1, td10 (by omega), w32_id (by omega)]
      refine brbN (fun _ => brbI (fun z1 => brbI (fun z2 => brbI (fun z3 => ?_) (fun z3 => ?_)) (fun z2 => ?_)) (fun z1 => ?_)) (fun z => absurd z he)
      · refine rngI (by omega) (chkI (inbI (by omega) (by omega)) ⟨rfl, _, rfl, (Off.rf _ v).up (by decide), fun q => absurd q he, fun _ => ⟨fun q => by omega, fun q => by omega, fun q => by omega, fun q => up_ua _ _ _ _⟩, fun l l0 l1 _ => up_ne _ (by omega)⟩)
      · have hw := w2 (by omega)
        have hc := hS.2.1.2 (6 * (e % 100 / 10) + e % 10) (by omega) (by omega)
        rw [show 42 + (6 * (e % 100 / 10) + e % 10) = 42 + 6 * (e % 100 / 10) + e % 10 by omega] at hc
        refine rngI (by omega) (rngI (by omega) (rngI (by omega) (chkI (inbI (by omega) (by omega)) (rngI (by omega) (chkI (inbI (by omega) (by omega)) ⟨rfl, _, rfl, (Off.rf _ v).up (by decide), fun q => absurd q he, fun _ => ⟨fun q => by omega, fun q => by omega, fun q => up_ua _ _ _ _, fun q => by omega⟩, fun l l0 l1 _ => up_ne _ (by omega)⟩)))))
      · obtain ⟨n, v', hE, hO, hm, hK⟩ := C_moves1 (d := d + 2) (c := c) (v := v) (p := e % 100 / 10) (x := e % 10) hS hp
        exact ⟨n, c, v', hE, rfl, v', rfl, hO.wk (by decide), fun q => absurd q he, fun _ => ⟨fun q => by omega, fun q => ⟨n, hm⟩, fun q => by omega, fun q => by omega⟩, hK⟩
      · have hw := w0 (by omega)
        obtain ⟨v', hE, hO, hm, hK⟩ := C_mails (d := d + 2) (c := c) (v := v) (p := e % 100 / 10) (x := e % 10) hS (by omega) hp
        exact ⟨c, v', hE, rfl, v', rfl, hO.wk (by decide), fun q => absurd q he, fun _ => ⟨fun q => hm, fun q => by omega, fun q => by omega, fun q => by omega⟩, hK⟩
    · rw [if_neg hr] at hw2; omega
theorem dwE_rng {al : Int → Int} {e : Int} (h : dwE al e = 0) : -1 ≤ e ∧ e ≤ 399 := by
  unfold dwE at h
  (repeat' split at h) <;> omega
/-- told deeds, in the model -/
def tlE (sz : Int) (nm : Int → Int) (n why : Int) (al' : Int → Int) : Prop := (n = sz ∧ why = 0) ∨ (n < sz ∧ why = dwE al' (nm n) ∧ why ≠ 0)
theorem tl_loop {t sz : Int} {nm : Int → Int} (ht : 0 ≤ t ∧ t < 4) (hz : 0 ≤ sz ∧ sz ≤ 40) : ∀ (m : Nat) (k : Int) (v : sF) (Q : sQ), 0 ≤ k → k + m = sz → TrM v t sz nm → St (v 164) → v 163 18 = -1 → v 164 27 + m ≤ 900000 → v 163 20 = 0 → (∀ (j : Nat) (why : Int) (v' : sF), Off [163, 164, 168, 169] v v' → (∀ i : Int, i ≠ 20 → v' 163 i = v 163 i) → v' 163 20 = why → RunR nm j k (v 164) (v' 164) → tlE sz nm (k + j) why (v' 164) → Q (some (0, k + j)) (c, v')) → Wp (Ev (d + 7)) 0 (fun _ => 0) 236 Q 7 [(2, 163), (0, t), (0, k)] [] c v := by
  intro m
  induction m with
  | zero =>
    intro k v Q k0 hk hr hS hi h27 hw hQ
    refine E236_7 _ _ (chkI (inbI (by omega) (by omega)) ?_)
    rw [hr.1]
    refine brbI (fun _ => chkI (inbI (by omega) (by omega)) ?_) (fun z => absurd z (by omega))
    have := hQ 0 0 v (Off.rf _ v) (fun _ _ => rfl) hw rfl (Or.inl ⟨by omega, rfl⟩)
    rw [show k + ((0 : Nat) : Int) = sz by omega] at this
    exact this
  | succ m ih =>
    intro k v Q k0 hk hr hS hi h27 hw hQ
    have hW := C_whyNot (d := d + 2) (c := c) (v := v) (e := nm k) hS.1
    refine E236_7 _ _ (chkI (inbI (by omega) (by omega)) ?_)
    rw [hr.1, hr.2 k k0 (by omega)]
    refine brbI (fun z => absurd z (by omega)) (fun _ => rngI (by omega) (rngI (by omega) (chkI (inbI (by omega) (by omega)) ⟨_, c, v, hW, brbI (fun z => rngI (by omega) (rngI (by omega) (chkI (inbI (by omega) (by omega)) ?_))) (fun z => ?_)⟩)))
    · have hrng := dwE_rng z
      rw [z, hr.2 k k0 (by omega)]
      have e164 : up v 163 20 0 164 = v 164 := up_off 164 (by decide)
      obtain ⟨v1, hE, hO, hd⟩ := C_does (d := d) (c := c) (v := up v 163 20 0) (e := nm k) (by rw [e164]; exact hS) (by rw [up_ne _ (by decide)]; exact hi) (by rw [e164]; omega) (by rw [e164]; exact z)
      rw [e164] at hd
      have hst := St_dRE hS z hd
      have e163 : v1 163 = up v 163 20 0 163 := hO 163 (by decide)
      have hO1 : Off [163, 164, 168, 169] v v1 := ((Off.rf _ v).up (by decide)).tr (hO.wk (by decide))
      refine rngI (by omega) ⟨c, v1, hE, rngI (by omega) (ih (k + 1) v1 Q (by omega) (by omega) ⟨by rw [hO1 180 (by decide)]; exact hr.1, fun i i0 i1 => by rw [hO1 181 (by decide)]; exact hr.2 i i0 i1⟩ hst.1 (by rw [e163, up_ne _ (by decide)]; exact hi) (by omega) (by rw [e163, up_same]) (fun j why v' ho' h163 hwy hrun htl => ?_))⟩
      have := hQ (j + 1) why v' (hO1.tr ho') (fun i hne => by rw [h163 i hne, e163, up_ne _ hne]) hwy ⟨v1 164, z, hd, hrun⟩ (by rw [show k + ((j + 1 : Nat) : Int) = k + 1 + (j : Int) by omega]; exact htl)
      rw [show k + ((j + 1 : Nat) : Int) = k + 1 + (j : Int) by omega] at this
      exact this
    · have := hQ 0 (dwE (v 164) (nm k)) (up v 163 20 (dwE (v 164) (nm k))) ((Off.rf _ v).up (by decide)) (fun i hne => up_ne _ hne) (up_same _ _ _ _) (up_off 164 (by decide)) (Or.inr ⟨by omega, by rw [up_off 164 (by decide), show k + ((0 : Nat) : Int) = k by omega], z⟩)
      rw [show k + ((0 : Nat) : Int) = k by omega] at this
      exact this
theorem C_tells {v : sF} {t sz : Int} {nm : Int → Int} (ht : 0 ≤ t ∧ t < 4) (hz : 0 ≤ sz ∧ sz ≤ 40) (hr : TrM v t sz nm) (hS : St (v 164)) (hi : v 163 18 = -1) (h27 : v 164 27 + 40 ≤ 900000) : ∃ n v', Ev (d + 8) 236 [(2, 163), (0, t)] (c, v) (some (0, n)) (c, v') ∧ Off [163, 164, 168, 169] v v' ∧ (∀ i : Int, i ≠ 20 → v' 163 i = v 163 i) ∧ 0 ≤ n ∧ RunR nm n.toNat 0 (v 164) (v' 164) ∧ tlE sz nm n (v' 163 20) (v' 164) := by
  have e164 : up v 163 20 0 164 = v 164 := up_off 164 (by decide)
  refine CB_of (loc236 t) (E236_0 t ?_)
  refine tl_loop (nm := nm) ht hz sz.toNat 0 (up v 163 20 0) _ (by omega) (by omega) ⟨by rw [up_off 180 (by decide)]; exact hr.1, fun i i0 i1 => by rw [up_off 181 (by decide)]; exact hr.2 i i0 i1⟩ (by rw [e164]; exact hS) (by rw [up_ne _ (by decide)]; exact hi) (by rw [e164]; omega) (up_same _ _ _ _) (fun j why v' ho h163 hwy hrun htl => ?_)
  refine ⟨0 + (j : Int), v', rfl, rfl, ((Off.rf _ v).up (by decide)).tr ho, fun i hne => by rw [h163 i hne, up_ne _ hne], by omega, ?_, ?_⟩
  · rw [show (0 + (j : Int)).toNat = j by omega, ← e164]; exact hrun
  · rw [hwy]; exact htl
end Dd6
