section Tom
variable {d c : Nat}
/-- the model's text -/
def TM (v : sF) (T : Int → Int) (n : Int) : Prop := v 163 8 = n ∧ 0 ≤ n ∧ n ≤ 900 ∧ ∀ i : Int, 0 ≤ i → i < n → v 166 i = T i ∧ 0 ≤ T i ∧ T i ≤ 255
def FX (v0 v : sF) : Prop := Off [163] v0 v ∧ ∀ i : Int, i ≠ 6 → i ≠ 7 → i ≠ 9 → i ≠ 10 → v 163 i = v0 163 i
theorem FX.rf (v : sF) : FX v v := ⟨Off.rf _ v, fun _ _ _ _ _ => rfl⟩
theorem FX.up {v0 v : sF} (h : FX v0 v) {i x : Int} (hi : i = 6 ∨ i = 7 ∨ i = 9 ∨ i = 10) : FX v0 (up v 163 i x) := ⟨h.1.up (by decide), fun j h1 h2 h3 h4 => by rw [up_ne _ (by omega)]; exact h.2 j h1 h2 h3 h4⟩
theorem TM.fx {v0 v : sF} {T : Int → Int} {n : Int} (h : TM v0 T n) (hf : FX v0 v) : TM v T n := ⟨(hf.2 8 (by decide) (by decide) (by decide) (by decide)).trans h.1, h.2.1, h.2.2.1, by rw [hf.1 166 (by decide)]; exact h.2.2.2⟩
def sgn (T : Int → Int) (n k : Int) : Int := if n ≤ k then -1 else T k
theorem C_see {v : sF} {T : Int → Int} {n : Int} (h : TM v T n) {k : Int} (h0 : 0 ≤ k) : Ev (d + 1) 172 [(2, 163), (0, k)] (c, v) (some (0, sgn T n k)) (c, v) := by
  have h8 := h.1
  have h9 := h.2.2.1
  unfold sgn
  refine Ev_of (loc172 k) (E172_0 k (brbI (fun q => ⟨by rw [if_pos (by omega)], rfl⟩) (fun q => chkI (inbI h0 (by omega)) ⟨?_, rfl⟩)))
  rw [if_neg (by omega), (h.2.2.2 k h0 (by omega)).1]
theorem C_isSmall (x : Int) {v : sF} : Ev (d + 1) 173 [(0, x)] (c, v) (some (0, if 97 ≤ x ∧ x ≤ 122 then 1 else 0)) (c, v) := by
  refine Ev_of (loc173 x) (E173_0 x (brbI (fun h => ⟨by rw [if_neg (by omega)], rfl⟩) (fun h => brbI (fun h2 => ⟨by rw [if_neg (by omega)], rfl⟩) (fun h2 => ⟨by rw [if_pos (by omega)], rfl⟩))))
theorem C_isDigit (x : Int) {v : sF} : Ev (d + 1) 174 [(0, x)] (c, v) (some (0, if 48 ≤ x ∧ x ≤ 57 then 1 else 0)) (c, v) := by
  refine Ev_of (loc174 x) (E174_0 x (brbI (fun h => ⟨by rw [if_neg (by omega)], rfl⟩) (fun h => brbI (fun h2 => ⟨by rw [if_neg (by omega)], rfl⟩) (fun h2 => ⟨by rw [if_pos (by omega)], rfl⟩))))
theorem sgn_97 {T : Int → Int} {n k : Int} : (97 ≤ sgn T n k ∧ sgn T n k ≤ 122) ↔ (k < n ∧ srt (T k) = 97) := by rw [srt_97]; unfold sgn; split <;> omega
theorem sgn_48 {T : Int → Int} {n k : Int} : (48 ≤ sgn T n k ∧ sgn T n k ≤ 57) ↔ (k < n ∧ srt (T k) = 48) := by rw [srt_48]; unfold sgn; split <;> omega
theorem sgn_32 {T : Int → Int} {n k : Int} : (sgn T n k = 32 ∨ sgn T n k = 10) ↔ (k < n ∧ srt (T k) = 32) := by rw [srt_32]; unfold sgn; split <;> omega
theorem ka_97 {Q : sQ} {v : sF} {k : Int} (hk : 0 ≤ k ∧ k ≤ 100) (z : List Int) : ∀ (r : List Int) (g : Int), 0 ≤ g → 32 ∉ r → (sL 2).drop g.toNat = r ++ 32 :: z → Wp (Ev (d + 4)) 0 (fun _ => 0) 175 Q 4 [(2, 163), (0, k + 1), (0, g + r.length + 1), (9, 0)] [] c v → Wp (Ev (d + 4)) 0 (fun _ => 0) 175 Q 97 [(2, 163), (0, k), (0, g), (9, 0)] [] c v := by
  have hL : (sL 2).length = 109 := by decide
  intro r
  induction r with
  | nil =>
    intro g h0 hr h4 hQ
    rw [List.nil_append] at h4
    obtain ⟨g1, g2, g3⟩ := gd_drop h4
    rw [hL] at g3
    refine E175_97 _ _ ⟨_, c, v, C_charAt (d := d) h0 (by rw [hL]; omega), ?_⟩
    rw [g1]
    simp only [List.length_nil] at hQ
    rw [show g + ((0 : Nat) : Int) + 1 = g + 1 by omega] at hQ
    exact brbI (fun _ => rngI (by omega) (rngI (by omega) hQ)) (fun q => absurd rfl q)
  | cons x r ih =>
    intro g h0 hr h4 hQ
    rw [List.cons_append] at h4
    obtain ⟨g1, g2, g3⟩ := gd_drop h4
    rw [hL] at g3
    refine E175_97 _ _ ⟨_, c, v, C_charAt (d := d) h0 (by rw [hL]; omega), ?_⟩
    rw [g1]
    rw [List.length_cons, show g + ((r.length + 1 : Nat) : Int) + 1 = g + 1 + r.length + 1 by omega] at hQ
    exact brbI (fun q => absurd (by rw [← q]; exact List.mem_cons_self) hr) (fun _ => rngI (by omega) (ih (g + 1) (by omega) (fun q => hr (List.mem_cons_of_mem _ q)) (by rw [show (g + 1).toNat = g.toNat + 1 by omega]; exact g2) hQ))
theorem ka_15 {Q : sQ} {v : sF} {T : Int → Int} {n : Int} (h : TM v T n) {k f s e : Int} (h6 : v 163 6 = s) (h7 : v 163 7 = e) (hs : 0 ≤ s) (hen : e ≤ n) (hf : 0 ≤ f) (z : List Int) (hQ2 : Wp (Ev (d + 4)) 0 (fun _ => 0) 175 Q 97 [(2, 163), (0, k), (0, f), (9, 0)] [] c v ∨ Q (some (0, k)) (c, v)) : ∀ (r : List Int) (i : Int), 0 ≤ i → i ≤ 200 → s + i ≤ e → 32 ∉ r → (sL 2).drop (f + i).toNat = r ++ 32 :: z → (bt T (e - (s + i)).toNat (s + i) = r → Q (some (0, k)) (c, v)) → (bt T (e - (s + i)).toNat (s + i) ≠ r → Wp (Ev (d + 4)) 0 (fun _ => 0) 175 Q 97 [(2, 163), (0, k), (0, f), (9, 0)] [] c v) → Wp (Ev (d + 4)) 0 (fun _ => 0) 175 Q 15 [(2, 163), (0, k), (0, f), (0, i)] [] c v := by
  clear hQ2
  have hL : (sL 2).length = 109 := by decide
  have h9 := h.2.2.1
  intro r
  induction r with
  | nil =>
    intro i h0 hi2 hse hr h4 hQ1 hQ2
    rw [List.nil_append] at h4
    obtain ⟨g1, g2, g3⟩ := gd_drop h4
    rw [hL] at g3
    have hC := C_charAt (d := d) (c := c) (v := v) (k := 2) (i := f + i) (by omega) (by rw [hL]; omega)
    rw [g1] at hC
    refine E175_15 _ _ _ (rngI (by omega) ⟨_, c, v, hC, brbI (fun _ => rngI (by omega) ⟨_, c, v, hC, brbN (fun q => absurd rfl q) (fun _ => ?_)⟩) (fun q => absurd rfl q)⟩)
    rw [h6, h7]
    refine rngI (by omega) (brbN (fun q => hQ2 (fun w => q ?_)) (fun q => hQ1 ?_))
    · have := congrArg List.length w; rw [bt_len, List.length_nil] at this; omega
    · rw [show (e - (s + i)).toNat = 0 by omega]; rfl
  | cons x r ih =>
    intro i h0 hi2 hse hr h4 hQ1 hQ2
    rw [List.cons_append] at h4
    obtain ⟨g1, g2, g3⟩ := gd_drop h4
    rw [hL] at g3
    have hx : ¬ x = 32 := fun q => hr (by rw [← q]; exact List.mem_cons_self)
    have hC := C_charAt (d := d) (c := c) (v := v) (k := 2) (i := f + i) (by omega) (by rw [hL]; omega)
    rw [g1] at hC
    refine E175_15 _ _ _ (rngI (by omega) ⟨_, c, v, hC, brbI (fun q => absurd q hx) (fun _ => ?_)⟩)
    rw [h6, h7]
    refine rngI (by omega) (brbI (fun q => rngI (by omega) ⟨_, c, v, hC, brbN (fun _ => hQ2 (fun w => ?_)) (fun q2 => absurd q2 hx)⟩) (fun q => rngI (by omega) (chkI (inbI (by omega) (by omega)) (rngI (by omega) ⟨_, c, v, hC, ?_⟩))))
    · have := congrArg List.length w; rw [bt_len, List.length_cons] at this; omega
    · have hT := (h.2.2.2 (s + i) (by omega) (by omega)).1
      rw [hT]
      have hb : bt T (e - (s + i)).toNat (s + i) = T (s + i) :: bt T (e - (s + (i + 1))).toNat (s + (i + 1)) := by
        rw [show (e - (s + i)).toNat = (e - (s + (i + 1))).toNat + 1 by omega, show s + (i + 1) = s + i + 1 by omega]
        rfl
      rw [hb] at hQ1 hQ2
      refine brbN (fun q2 => rngI (by omega) ⟨_, c, v, hC, brbN (fun _ => hQ2 (fun w => q2 (List.cons.inj w).1)) (fun q3 => absurd q3 hx)⟩) (fun q2 => rngI (by omega) (ih (i + 1) (by omega) (by omega) (by omega) (fun w => hr (List.mem_cons_of_mem _ w)) (by rw [show (f + (i + 1)).toNat = (f + i).toNat + 1 by omega]; exact g2) (fun w => hQ1 (by rw [q2, w])) (fun w => hQ2 (fun w2 => w (List.cons.inj w2).2))))
theorem ka_all {Q : sQ} {v : sF} {T : Int → Int} {n : Int} (h : TM v T n) {s e : Int} (h6 : v 163 6 = s) (h7 : v 163 7 = e) (hs : 0 ≤ s) (he : s ≤ e) (hen : e ≤ n) : ∀ (l : List (List Int)) (k f : Int), 0 ≤ f → 0 ≤ k → k + l.length ≤ 100 → (∀ w ∈ l, 32 ∉ w) → (sL 2).drop f.toNat = flw l → f + (flw l).length = 109 → Q (some (0, fk l k 23 (bt T (e - s).toNat s))) (c, v) → Wp (Ev (d + 4)) 0 (fun _ => 0) 175 Q 4 [(2, 163), (0, k), (0, f), (9, 0)] [] c v := by
  have hL : (sL 2).length = 109 := by decide
  intro l
  induction l with
  | nil =>
    intro k f h0 hk hk2 hw hd hf hQ
    refine E175_4 _ _ ⟨_, c, v, C_length (d := d + 2) 2, brbI (fun _ => hQ) (fun q => absurd q (by rw [hL]; simp [flw] at hf; omega))⟩
  | cons w r ih =>
    intro k f h0 hk hk2 hw hd hf hQ
    rw [List.length_cons] at hk2
    have hd2 : (sL 2).drop f.toNat = w ++ 32 :: flw r := hd
    have hdn := drop_add (a := w ++ [32]) (b := flw r) (by rw [hd2, List.append_assoc]; rfl)
    rw [List.length_append] at hdn
    have hf2 : (flw (w :: r)).length = w.length + 1 + (flw r).length := by
      show (w ++ 32 :: flw r).length = _
      rw [List.length_append, List.length_cons]; omega
    have hfe : fk (w :: r) k 23 (bt T (e - s).toNat s) = if bt T (e - s).toNat s = w then k else fk r (k + 1) 23 (bt T (e - s).toNat s) := rfl
    rw [hfe] at hQ
    have hn : bt T (e - s).toNat s ≠ w → Wp (Ev (d + 4)) 0 (fun _ => 0) 175 Q 97 [(2, 163), (0, k), (0, f), (9, 0)] [] c v := fun q => by
      rw [if_neg q] at hQ
      refine ka_97 ⟨hk, by omega⟩ (flw r) w f h0 (hw w List.mem_cons_self) hd2 (ih (k + 1) (f + w.length + 1) (by omega) (by omega) (by omega) (fun x hx => hw x (List.mem_cons_of_mem _ hx)) (by rw [← hdn]; congr 1; simp; omega) (by rw [hf2] at hf; omega) hQ)
    have hy : bt T (e - s).toNat s = w → Q (some (0, k)) (c, v) := fun q => by rw [if_pos q] at hQ; exact hQ
    refine E175_4 _ _ ⟨_, c, v, C_length (d := d + 2) 2, brbI (fun q => absurd q (by rw [hL]; omega)) (fun _ => ka_15 h h6 h7 hs hen h0 (flw r) ?_ w 0 (by omega) (by omega) (by omega) (hw w List.mem_cons_self) (by rw [Int.add_zero]; exact hd2) (by rw [Int.add_zero]; exact hy) (by rw [Int.add_zero]; exact hn))⟩
    rcases Decidable.em (bt T (e - s).toNat s = w) with q | q
    · exact Or.inr (hy q)
    · exact Or.inl (hn q)
theorem C_keyAt {v : sF} {T : Int → Int} {n : Int} (h : TM v T n) {s e : Int} (h6 : v 163 6 = s) (h7 : v 163 7 = e) (hs : 0 ≤ s) (he : s ≤ e) (hen : e ≤ n) : Ev (d + 5) 175 [(2, 163)] (c, v) (some (0, fk wlM 0 23 (bt T (e - s).toNat s))) (c, v) :=
  Ev_of loc175 (E175_0 (ka_all h h6 h7 hs he hen wlM 0 1 (by omega) (by omega) (by decide) (by decide) (by rw [wlM_s]; rfl) (by decide) ⟨rfl, rfl⟩))
theorem nx_89 {Q : sQ} {v0 : sF} {T : Int → Int} {n s a : Int} (h0 : TM v0 T n) (hs : 0 ≤ s) : ∀ (m : Nat) (e : Int) (v : sF), e + m = n → s ≤ e → FX v0 v → v 163 6 = s → v 163 7 = e → v 163 10 = a → (∀ v', FX v0 v' → v' 163 6 = s → v' 163 7 = eo T n 97 e → v' 163 9 = fk wlM 0 23 (bt T (eo T n 97 e - s).toNat s) → v' 163 10 = a → Q none (c, v')) → Wp (Ev (d + 5)) 0 (fun _ => 0) 176 Q 89 [(2, 163), (9, 0)] [] c v := by
  intro m
  induction m with
  | zero =>
    intro e v hm hse hf h6 h7 h10 hQ
    have h := h0.fx hf
    rw [eo_f (by omega)] at hQ
    have hk := C_keyAt (d := d) (c := c) h h6 h7 hs hse (by omega)
    have hsee := C_see (d := d + 4) (c := c) h (k := e) (by omega)
    rw [← h7] at hsee
    refine E176_89 ⟨_, c, v, hsee, _, c, v, C_isSmall _, ?_⟩
    rw [h7]
    rw [if_neg (fun q => by have := sgn_97.1 q; omega)]
    exact brbI (fun _ => ⟨_, c, v, hk, hQ _ (hf.up (by omega)) (by rw [up_ne _ (by decide)]; exact h6) (by rw [up_ne _ (by decide)]; exact h7) (up_same _ _ _ _) (by rw [up_ne _ (by decide)]; exact h10)⟩) (fun q => absurd rfl q)
  | succ m ih =>
    intro e v hm hse hf h6 h7 h10 hQ
    have h := h0.fx hf
    have h9 := h.2.2.1
    have hk := C_keyAt (d := d) (c := c) h h6 h7 hs hse (by omega)
    have hsee := C_see (d := d + 4) (c := c) h (k := e) (by omega)
    rw [← h7] at hsee
    refine E176_89 ⟨_, c, v, hsee, _, c, v, C_isSmall _, ?_⟩
    rw [h7]
    by_cases q : srt (T e) = 97
    · rw [if_pos (sgn_97.2 ⟨by omega, q⟩)]
      rw [eo_t (by omega) q] at hQ
      exact brbI (fun w => absurd w (by decide)) (fun _ => rngI (by omega) (ih (e + 1) _ (by omega) (by omega) (hf.up (by omega)) (by rw [up_ne _ (by decide)]; exact h6) (up_same _ _ _ _) (by rw [up_ne _ (by decide)]; exact h10) hQ))
    · rw [if_neg (fun w => q (sgn_97.1 w).2)]
      rw [eo_f (fun w => q w.2)] at hQ
      exact brbI (fun _ => ⟨_, c, v, hk, hQ _ (hf.up (by omega)) (by rw [up_ne _ (by decide)]; exact h6) (by rw [up_ne _ (by decide)]; exact h7) (up_same _ _ _ _) (by rw [up_ne _ (by decide)]; exact h10)⟩) (fun w => absurd rfl w)
theorem nx_146 {Q : sQ} {v0 : sF} {T : Int → Int} {n s E X : Int} (h0 : TM v0 T n) (hs : 0 ≤ s) (hE : E = eo T n 48 s) (hsE : s ≤ E) (hQ : ∀ v', FX v0 v' → v' 163 6 = s → v' 163 7 = E → v' 163 9 = (if E - s ≤ 3 then 24 else 26) → v' 163 10 = X → Q none (c, v')) : ∀ (m : Nat) (p acc : Int) (v : sF), p + m = n → s ≤ p → eo T n 48 p = E → FX v0 v → v 163 6 = s → v 163 7 = p → v 163 10 = acc → (p - s < 3 → 0 ≤ acc ∧ acc ≤ bdN (3 - (p - s).toNat) ∧ nvN T ((if E - s ≤ 3 then E - s else 3) - (p - s)).toNat p acc = X) → (3 ≤ p - s → acc = X) → Wp (Ev (d + 5)) 0 (fun _ => 0) 176 Q 146 [(2, 163), (9, 0)] [] c v := by
  have hend : ∀ (p acc : Int) (v : sF), p = E → FX v0 v → v 163 6 = s → v 163 7 = p → v 163 10 = acc → (p - s < 3 → 0 ≤ acc ∧ acc ≤ bdN (3 - (p - s).toNat) ∧ nvN T ((if E - s ≤ 3 then E - s else 3) - (p - s)).toNat p acc = X) → (3 ≤ p - s → acc = X) → E ≤ n → ¬ (p < n ∧ srt (T p) = 48) → Wp (Ev (d + 5)) 0 (fun _ => 0) 176 Q 146 [(2, 163), (9, 0)] [] c v := by
    intro p acc v hp hf h6 h7 h10 hA hB hEn hno
    have h := h0.fx hf
    have h9 := h.2.2.1
    have hsee := C_see (d := d + 4) (c := c) h (k := p) (by omega)
    rw [← h7] at hsee
    have hX : acc = X := by
      rcases Decidable.em (p - s < 3) with q | q
      · have := (hA q).2.2
        rw [if_pos (by omega), show E - s - (p - s) = 0 by omega] at this
        exact this
      · exact hB (by omega)
    refine E176_146 ⟨_, c, v, hsee, _, c, v, C_isDigit _, ?_⟩
    rw [h7, h6, if_neg (fun q => hno (sgn_48.1 q))]
    refine brbI (fun _ => rngI (by omega) (brbI (fun q => ?_) (fun q => ?_))) (fun q => absurd rfl q)
    · exact hQ _ (hf.up (by omega)) (by rw [up_ne _ (by decide)]; exact h6) (by rw [up_ne _ (by decide)]; exact h7.trans hp) (by rw [up_same, if_pos (by omega)]) (by rw [up_ne _ (by decide)]; exact h10.trans hX)
    · exact hQ _ (hf.up (by omega)) (by rw [up_ne _ (by decide)]; exact h6) (by rw [up_ne _ (by decide)]; exact h7.trans hp) (by rw [up_same, if_neg (by omega)]) (by rw [up_ne _ (by decide)]; exact h10.trans hX)
  intro m
  induction m with
  | zero =>
    intro p acc v hm hsp hEp hf h6 h7 h10 hA hB
    have hno : ¬ (p < n ∧ srt (T p) = 48) := by omega
    rw [eo_f hno] at hEp
    exact hend p acc v hEp hf h6 h7 h10 hA hB (by omega) hno
  | succ m ih =>
    intro p acc v hm hsp hEp hf h6 h7 h10 hA hB
    have h := h0.fx hf
    have h9 := h.2.2.1
    have hEn := (eo_sp (T := T) (s := 48) (show p ≤ n by omega)).2.1
    by_cases q : srt (T p) = 48
    · have hEp1 := hEp
      rw [eo_t (by omega) q] at hEp
      have hpE := (eo_sp (T := T) (s := 48) (show p + 1 ≤ n by omega)).1
      have hsee := C_see (d := d + 4) (c := c) h (k := p) (by omega)
      have hsg : sgn T n p = T p := by unfold sgn; rw [if_neg (by omega)]
      have hdg := srt_48.1 q
      rw [← h7] at hsee
      refine E176_146 ⟨_, c, v, hsee, _, c, v, C_isDigit _, ?_⟩
      rw [h7, h6, if_pos (sgn_48.2 ⟨by omega, q⟩)]
      refine brbI (fun w => absurd w (by decide)) (fun _ => rngI (by omega) (brbI (fun w => rngI (by omega) ?_) (fun w => ?_)))
      · exact ih (p + 1) acc _ (by omega) (by omega) hEp (hf.up (by omega)) (by rw [up_ne _ (by decide)]; exact h6) (up_same _ _ _ _) (by rw [up_ne _ (by decide)]; exact h10) (fun z => absurd z (by omega)) (fun _ => hB w)
      · obtain ⟨a0, a1, a2⟩ := hA (by omega)
        have hacc : acc ≤ 99 := by
          unfold bdN at a1
          split at a1
          · omega
          · split at a1
            · omega
            · split at a1 <;> omega
        rw [h10]
        have hsee2 := C_see (d := d + 4) (c := c) h (k := p) (by omega)
        rw [hsg] at hsee2
        refine rngI (by omega) ⟨_, c, v, hsee2, rngI (by omega) (rngI (by omega) ?_)⟩
        rw [h7]
        have hnv : nvN T ((if E - s ≤ 3 then E - s else 3) - (p + 1 - s)).toNat (p + 1) (10 * acc + T p - 48) = X := by
          rw [← a2, show ((if E - s ≤ 3 then E - s else 3) - (p - s)).toNat = ((if E - s ≤ 3 then E - s else 3) - (p + 1 - s)).toNat + 1 by split <;> omega]
          show _ = nvN T _ (p + 1) (acc * 10 + T p - 48)
          rw [Int.mul_comm 10 acc]
        refine rngI (by omega) (ih (p + 1) (10 * acc + T p - 48) _ (by omega) (by omega) hEp ((hf.up (by omega)).up (by omega)) (by rw [up_ne _ (by decide), up_ne _ (by decide)]; exact h6) (up_same _ _ _ _) (by rw [up_ne _ (by decide), up_same]) (fun z => ⟨by omega, ?_, hnv⟩) (fun z => ?_))
        · rcases (show p - s = 0 ∨ p - s = 1 by omega) with e | e
          · rw [show (p - s).toNat = 0 by omega] at a1; rw [show (p + 1 - s).toNat = 1 by omega]; unfold bdN at a1 ⊢; simp at a1 ⊢; omega
          · rw [show (p - s).toNat = 1 by omega] at a1; rw [show (p + 1 - s).toNat = 2 by omega]; unfold bdN at a1 ⊢; simp at a1 ⊢; omega
        · rw [show ((if E - s ≤ 3 then E - s else 3) - (p + 1 - s)).toNat = 0 by split <;> omega] at hnv
          exact hnv
    · rw [eo_f (fun w => q w.2)] at hEp
      exact hend p acc v hEp hf h6 h7 h10 hA hB (by omega) (fun w => q w.2)
def kG (x : Int) : Nat → Int
  | 0 => 26
  | i + 1 => if x = (sL 3).getD i 0 then 30 + (i : Int) else kG x i
theorem kG_e {x : Int} (h0 : 0 ≤ x) (h1 : x ≤ 255) : kG x 12 = km ((if 0 ≤ idxOf x 0 (sL 1) then 1000 + (23 + idxOf x 0 (sL 1)) else 1038) - 1000) := by
  have key : ∀ x : Fin 256, kG ((x.val : Nat) : Int) 12 = km ((if 0 ≤ idxOf ((x.val : Nat) : Int) 0 (sL 1) then 1000 + (23 + idxOf ((x.val : Nat) : Int) 0 (sL 1)) else 1038) - 1000) := by decide +kernel
  have := key ⟨x.toNat, by omega⟩
  rw [show ((x.toNat : Nat) : Int) = x by omega] at this
  exact this
theorem nx_254 {Q : sQ} {v0 : sF} {T : Int → Int} {n s : Int} (h0 : TM v0 T n) (hs : 0 ≤ s) (hsn : s < n) {e a : Int} (hQ : ∀ v', FX v0 v' → v' 163 6 = s → v' 163 7 = e → v' 163 9 = kG (T s) 12 → v' 163 10 = a → Q none (c, v')) : ∀ (m i : Nat) (v : sF), i + m = 12 → FX v0 v → v 163 6 = s → v 163 7 = e → v 163 10 = a → v 163 9 = kG (T s) i → Wp (Ev (d + 5)) 0 (fun _ => 0) 176 Q 254 [(2, 163), (0, (i : Int))] [] c v := by
  have hL : (sL 3).length = 12 := by decide
  intro m
  induction m with
  | zero =>
    intro i v hm hf h6 h7 h10 h9
    refine E176_254 _ ⟨_, c, v, C_length (d := d + 3) 3, brbI (fun _ => ?_) (fun q => absurd q (by rw [hL]; omega))⟩
    rw [show i = 12 by omega] at h9
    exact hQ v hf h6 h7 h9 h10
  | succ m ih =>
    intro i v hm hf h6 h7 h10 h9
    have h := h0.fx hf
    have hsee := C_see (d := d + 4) (c := c) h (k := s) hs
    have hsg : sgn T n s = T s := by unfold sgn; rw [if_neg (by omega)]
    rw [hsg, ← h6] at hsee
    refine E176_254 _ ⟨_, c, v, C_length (d := d + 3) 3, brbI (fun q => absurd q (by rw [hL]; omega)) (fun _ => ⟨_, c, v, hsee, _, c, v, C_charAt (d := d + 1) (by omega) (by rw [hL]; omega), ?_⟩)⟩
    rw [h6]
    rw [show ((i : Int)).toNat = i by omega]
    have hk : kG (T s) (i + 1) = if T s = (sL 3).getD i 0 then 30 + (i : Int) else kG (T s) i := rfl
    refine brbN (fun q => rngI (by omega) ?_) (fun q => rngI (by omega) (rngI (by omega) ?_))
    · rw [if_neg q] at hk
      exact ih (i + 1) v (by omega) hf h6 h7 h10 (h9.trans hk.symm)
    · rw [if_pos q] at hk
      exact ih (i + 1) _ (by omega) (hf.up (by omega)) (by rw [up_ne _ (by decide)]; exact h6) (by rw [up_ne _ (by decide)]; exact h7) (by rw [up_ne _ (by decide)]; exact h10) (by rw [up_same]; exact hk.symm)
/-- what next leaves -/
def NXp (T : Int → Int) (n p a : Int) (v0 v' : sF) : Prop := FX v0 v' ∧ v' 163 6 = ts T n p ∧ v' 163 7 = te T n p ∧ v' 163 9 = km (tkd T n p) ∧ v' 163 10 = tnum T n p a
theorem nx_8 {Q : sQ} {v0 : sF} {T : Int → Int} {n p a : Int} (h0 : TM v0 T n) (hp : 0 ≤ p ∧ p ≤ n) (hQ : ∀ v', NXp T n p a v0 v' → Q none (c, v')) : ∀ (m : Nat) (k : Int) (v : sF), k + m = n → p ≤ k → eo T n 32 k = ts T n p → FX v0 v → v 163 6 = k → v 163 10 = a → Wp (Ev (d + 5)) 0 (fun _ => 0) 176 Q 8 [(2, 163), (9, 0)] [] c v := by
  have hend : ∀ (s : Int) (v : sF), s = ts T n p → FX v0 v → v 163 6 = s → v 163 10 = a → ¬ (s < n ∧ srt (T s) = 32) → Wp (Ev (d + 5)) 0 (fun _ => 0) 176 Q 8 [(2, 163), (9, 0)] [] c v := by
    intro s v hsp hf h6 h10 hno
    have h := h0.fx hf
    have h9 := h.2.2.1
    have h8 := h.1
    have hts := ts_sp (T := T) hp.2
    have hs0 : 0 ≤ s := by omega
    have hsee := C_see (d := d + 4) (c := c) h (k := s) hs0
    rw [← h6] at hsee
    refine E176_8 ⟨_, c, v, hsee, ?_⟩
    rw [h6]
    have hsee3 := hsee
    rw [h6] at hsee3
    refine brbI (fun q => absurd (sgn_32.1 (Or.inr q)) hno) (fun _ => ⟨_, c, v, hsee3, brbN (fun _ => ?_) (fun q => absurd (sgn_32.1 (Or.inl q)) hno)⟩)
    rw [h6, h8]
    refine brbI (fun hlt => ?_) (fun hge => ?_)
    · have hf1 : FX v0 (up v 163 7 s) := hf.up (by omega)
      have h61 : up v 163 7 s 163 6 = s := by rw [up_ne _ (by decide)]; exact h6
      have h101 : up v 163 7 s 163 10 = a := by rw [up_ne _ (by decide)]; exact h10
      have h1 := h0.fx hf1
      have hsg : sgn T n s = T s := by unfold sgn; rw [if_neg (by omega)]
      have hsee1 := C_see (d := d + 4) (c := c) h1 (k := s) hs0
      have htn : ts T n p < n := by omega
      have hnt : ¬ n ≤ ts T n p := by omega
      refine ⟨_, c, _, hsee1, _, c, _, C_isSmall _, ?_⟩
      have hcd := tcd_rng (T := T) hp.2 htn
      rcases srt_v (T s) with q | q | q | q
      · rw [if_pos (sgn_97.2 ⟨hlt, q⟩)]
        refine brbI (fun w => absurd w (by decide)) (fun _ => nx_89 h0 hs0 (n - s).toNat s _ (by omega) (by omega) hf1 h61 (up_same _ _ _ _) h101 (fun v' a1 a2 a3 a4 a5 => hQ v' ⟨a1, a2.trans hsp, ?_, ?_, ?_⟩))
        · rw [a3, te_97 htn (by rw [← hsp]; exact q), hsp]
        · rw [a4, (fk_km _).1]
          unfold tkd
          have e : tcd T n p = 1000 + fk wlC 0 37 (bt T (eo T n 97 s - s).toNat s) := by
            unfold tcd cdF
            rw [← hsp, q, if_pos rfl, te_97 htn (by rw [← hsp]; exact q), ← hsp]
          have := (fk_km (bt T (eo T n 97 s - s).toNat s)).2.1
          rw [if_neg hnt, if_neg (show ¬ tcd T n p < 1000 by omega), e]
          congr 1; omega
        · rw [a5]; unfold tnum; rw [if_neg hnt, ← hsp, q, if_neg (by decide)]
      · rw [if_neg (fun w => by have := (sgn_97.1 w).2; omega)]
        refine brbI (fun _ => ⟨_, c, _, by rw [h61]; exact hsee1, _, c, _, C_isDigit _, ?_⟩) (fun w => absurd rfl w)
        rw [if_pos (sgn_48.2 ⟨hlt, q⟩)]
        have hE := te_48 htn (by rw [← hsp]; exact q)
        rw [← hsp] at hE
        have hEs := eo_sp (T := T) (s := 48) (show s ≤ n by omega)
        refine brbI (fun w => absurd w (by decide)) (fun _ => nx_146 (X := tnum T n p a) (E := eo T n 48 s) h0 hs0 rfl hEs.1 (fun v' a1 a2 a3 a4 a5 => hQ v' ⟨a1, a2.trans hsp, a3.trans hE.symm, ?_, a5⟩) (n - s).toNat s 0 _ (by omega) (by omega) rfl (hf1.up (by omega)) (by rw [up_ne _ (by decide)]; exact h61) (by rw [up_ne _ (by decide), up_same]) (up_same _ _ _ _) (fun _ => ⟨by omega, by rw [show (s - s).toNat = 0 by omega]; decide, ?_⟩) (fun w => absurd w (by omega)))
        · rw [a4, ← hE]
          unfold tkd
          rw [if_neg hnt]
          have e : tcd T n p = if te T n p - s ≤ 3 then nvN T (te T n p - s).toNat s 0 else 1038 := by
            unfold tcd cdF
            rw [← hsp, q, if_neg (by decide), if_pos rfl]
          rcases Decidable.em (te T n p - s ≤ 3) with w | w
          · rw [if_pos w]
            rw [if_pos w] at e
            rcases hcd with z | z
            · rw [if_pos z.2.2.2.1]; decide
            · have hh := nvN_rng (T := T) (te T n p - s).toNat s 0 (by omega) (by omega) (by unfold bdN; (repeat' split) <;> omega) (fun i i0 i1 => hEs.2.2.2 i i0 (by rw [hE] at i1; omega))
              omega
          · rw [if_neg w]
            rw [if_neg w] at e
            rw [e]; decide
        · unfold tnum
          rw [if_neg hnt, ← hsp, q, if_pos rfl, ← hE, show (if te T n p - s ≤ 3 then te T n p - s else 3) - (s - s) = if te T n p - s ≤ 3 then te T n p - s else 3 by omega]
      · exact absurd ⟨hlt, q⟩ hno
      · rw [if_neg (fun w => by have := (sgn_97.1 w).2; omega)]
        refine brbI (fun _ => ⟨_, c, _, by rw [h61]; exact hsee1, _, c, _, C_isDigit _, ?_⟩) (fun w => absurd rfl w)
        rw [if_neg (fun w => by have := (sgn_48.1 w).2; omega), up_same]
        refine brbI (fun _ => rngI (by omega) (nx_254 (e := s + 1) (a := a) h0 hs0 hlt (fun v' a1 a2 a3 a4 a5 => hQ v' ⟨a1, a2.trans hsp, ?_, ?_, ?_⟩) 12 0 _ (by omega) ((hf1.up (by omega)).up (by omega)) (by rw [up_ne _ (by decide), up_ne _ (by decide)]; exact h61) (by rw [up_ne _ (by decide), up_same]) (by rw [up_ne _ (by decide), up_ne _ (by decide)]; exact h101) (by rw [up_same]; rfl))) (fun w => absurd rfl w)
        · rw [a3]; unfold te; rw [if_neg hnt, ← hsp, q, if_pos rfl]
        · have hT := h0.2.2.2 s hs0 hlt
          rw [a4, kG_e hT.2.1 hT.2.2]
          have e : tcd T n p = if 0 ≤ idxOf (T s) 0 (sL 1) then 1000 + (23 + idxOf (T s) 0 (sL 1)) else 1038 := by
            unfold tcd cdF
            rw [← hsp, q, if_neg (by decide), if_neg (by decide)]
          unfold tkd
          have hi := idx1_rng (T s)
          rw [if_neg hnt, ← e, if_neg (show ¬ tcd T n p < 1000 by rw [e]; split <;> omega)]
        · rw [a5]; unfold tnum; rw [if_neg hnt, ← hsp, q, if_neg (by decide)]
    · have hsn : s = n := by omega
      refine hQ _ ⟨(hf.up (by omega)).up (by omega), ?_, ?_, ?_, ?_⟩
      · rw [up_ne _ (by decide), up_ne _ (by decide), h6, hsp]
      · rw [up_ne _ (by decide), up_same]; unfold te; rw [if_pos (by omega), hsp]
      · rw [up_same]; unfold tkd; rw [if_pos (by omega)]; decide
      · rw [up_ne _ (by decide), up_ne _ (by decide), h10]; unfold tnum; rw [if_pos (by omega)]
  intro m
  induction m with
  | zero =>
    intro k v hm hpk he hf h6 h10
    have hno : ¬ (k < n ∧ srt (T k) = 32) := by omega
    rw [eo_f hno] at he
    exact hend k v he hf h6 h10 hno
  | succ m ih =>
    intro k v hm hpk he hf h6 h10
    by_cases q : srt (T k) = 32
    · have h := h0.fx hf
      have h9 := h.2.2.1
      rw [eo_t (by omega) q] at he
      have hsee := C_see (d := d + 4) (c := c) h (k := k) (by omega)
      rw [← h6] at hsee
      have hgo : Wp (Ev (d + 5)) 0 (fun _ => 0) 176 Q 8 [(2, 163), (9, 0)] [] c (up v 163 6 (k + 1)) := ih (k + 1) _ (by omega) (by omega) he (hf.up (by omega)) (up_same _ _ _ _) (by rw [up_ne _ (by decide)]; exact h10)
      refine E176_8 ⟨_, c, v, hsee, ?_⟩
      rw [h6]
      have hsee3 := hsee
      rw [h6] at hsee3
      have hsg := sgn_32.2 ⟨show k < n by omega, q⟩
      exact brbI (fun _ => rngI (by omega) hgo) (fun w => ⟨_, c, v, hsee3, by rw [h6]; exact brbN (fun w2 => absurd hsg (by omega)) (fun _ => rngI (by omega) hgo)⟩)
    · rw [eo_f (fun w => q w.2)] at he
      exact hend k v he hf h6 h10 (fun w => q w.2)
theorem C_next {v : sF} {T : Int → Int} {n p a : Int} (h : TM v T n) (hp : 0 ≤ p ∧ p ≤ n) (h7 : v 163 7 = p) (h10 : v 163 10 = a) : ∃ v', Ev (d + 6) 176 [(2, 163)] (c, v) none (c, v') ∧ NXp T n p a v v' := by
  refine CV_of loc176 (E176_0 ?_)
  rw [h7]
  exact nx_8 h hp (fun v' hv => ⟨rfl, _, rfl, hv⟩) (n - p).toNat p _ (by omega) (by omega) rfl ((FX.rf v).up (by omega)) (up_same _ _ _ _) (by rw [up_ne _ (by decide)]; exact h10)
end Tom
