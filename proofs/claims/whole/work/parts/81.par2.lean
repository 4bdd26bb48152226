section Par2
variable {d c : Nat}
/-- kinds on the stack behind m codes from i -/
def tckR (cd : Int → Int) (i : Int) : Nat → List Bool → Option (List Bool)
  | 0, ts => some ts
  | m + 1, ts => (tckR cd i m ts).bind (tck (cd (i + m)))
theorem tckR_add (cd : Int → Int) (i : Int) (m1 : Nat) (ts : List Bool) : ∀ m2 : Nat, tckR cd i (m1 + m2) ts = (tckR cd i m1 ts).bind (tckR cd (i + m1) m2) := by
  intro m2
  induction m2 with
  | zero => rw [Nat.add_zero]; cases tckR cd i m1 ts <;> rfl
  | succ m2 ih =>
    show (tckR cd i (m1 + m2) ts).bind (tck (cd (i + ((m1 + m2 : Nat) : Int)))) = _
    rw [ih]
    cases tckR cd i m1 ts with
    | none => rfl
    | some x =>
      show (tckR cd (i + m1) m2 x).bind _ = (tckR cd (i + m1) m2 x).bind (tck (cd (i + m1 + m2)))
      rw [show i + ((m1 + m2 : Nat) : Int) = i + m1 + m2 by omega]
def Rn (cd : Int → Int) (i : Int) (m : Nat) (us ws : List Bool) (D : Nat) : Prop := ∀ ts : List Bool, tckR cd i m (us ++ ts) = some (ws ++ ts) ∧ ∀ k ≤ m, ∃ x, tckR cd i k (us ++ ts) = some x ∧ x.length ≤ ts.length + D
theorem Rn.tr {cd : Int → Int} {i : Int} {m1 m2 : Nat} {us ws zs : List Bool} {D : Nat} (h1 : Rn cd i m1 us ws D) (h2 : Rn cd (i + m1) m2 ws zs D) : Rn cd i (m1 + m2) us zs D := by
  intro ts
  obtain ⟨a1, a2⟩ := h1 ts
  obtain ⟨b1, b2⟩ := h2 ts
  refine ⟨?_, fun k hk => ?_⟩
  · rw [tckR_add, a1]; exact b1
  · rcases Nat.lt_or_ge m1 k with q | q
    · obtain ⟨x, x1, x2⟩ := b2 (k - m1) (by omega)
      refine ⟨x, ?_, x2⟩
      rw [show k = m1 + (k - m1) by omega, tckR_add, a1]; exact x1
    · exact a2 k q
theorem Rn.fr {cd : Int → Int} {i : Int} {m : Nat} {us ws : List Bool} {D : Nat} (h : Rn cd i m us ws D) (f : List Bool) : Rn cd i m (us ++ f) (ws ++ f) (D + f.length) := by
  intro ts
  obtain ⟨a1, a2⟩ := h (f ++ ts)
  rw [List.append_assoc, List.append_assoc]
  refine ⟨a1, fun k hk => ?_⟩
  obtain ⟨x, x1, x2⟩ := a2 k hk
  rw [List.length_append] at x2
  exact ⟨x, x1, by omega⟩
theorem Rn.mo {cd : Int → Int} {i : Int} {m : Nat} {us ws : List Bool} {D D' : Nat} (h : Rn cd i m us ws D) (hd : D ≤ D') : Rn cd i m us ws D' := fun ts => ⟨(h ts).1, fun k hk => by
  obtain ⟨x, x1, x2⟩ := (h ts).2 k hk
  exact ⟨x, x1, by omega⟩⟩
theorem Rn.nil (cd : Int → Int) (i : Int) {us : List Bool} {D : Nat} (hd : us.length ≤ D) : Rn cd i 0 us us D := fun ts => ⟨rfl, fun k hk => by
  rw [show k = 0 by omega]
  exact ⟨us ++ ts, rfl, by rw [List.length_append]; omega⟩⟩
theorem Rn.one {cd : Int → Int} {i : Int} {us ws : List Bool} {D : Nat} (h : ∀ ts, tck (cd i) (us ++ ts) = some (ws ++ ts)) (hu : us.length ≤ D) (hw : ws.length ≤ D) : Rn cd i 1 us ws D := fun ts => by
  have e : tckR cd i 1 (us ++ ts) = some (ws ++ ts) := by
    show (some (us ++ ts)).bind (tck (cd (i + ((0 : Nat) : Int)))) = _
    rw [show i + ((0 : Nat) : Int) = i by omega]
    exact h ts
  refine ⟨e, fun k hk => ?_⟩
  rcases (show k = 0 ∨ k = 1 by omega) with rfl | rfl
  · exact ⟨_, rfl, by rw [List.length_append]; omega⟩
  · exact ⟨_, e, by rw [List.length_append]; omega⟩
theorem tckR_cg {cd cd' : Int → Int} {i : Int} : ∀ (m : Nat), (∀ k, i ≤ k → k < i + m → cd' k = cd k) → ∀ ts, tckR cd' i m ts = tckR cd i m ts := by
  intro m
  induction m with
  | zero => intro _ ts; rfl
  | succ m ih =>
    intro h ts
    show (tckR cd' i m ts).bind (tck (cd' (i + m))) = (tckR cd i m ts).bind (tck (cd (i + m)))
    rw [ih (fun k k0 k1 => h k k0 (by omega)), h (i + m) (by omega) (by omega)]
theorem Rn.cg {cd cd' : Int → Int} {i : Int} {m : Nat} {us ws : List Bool} {D : Nat} (h : Rn cd i m us ws D) (he : ∀ k, i ≤ k → k < i + m → cd' k = cd k) : Rn cd' i m us ws D := fun ts => by
  refine ⟨by rw [tckR_cg m he]; exact (h ts).1, fun k hk => ?_⟩
  rw [tckR_cg k (fun j j0 j1 => he j j0 (by omega))]
  exact (h ts).2 k hk
/-- what reading a piece of a law does -/
def Sg (n : Int) (us ws : List Bool) (D : Nat) (e : Int) (s s' : PS) : Prop := Ok0 n s' ∧ s'.law = s.law ∧ s.st ≤ s'.st ∧ (s.ft ≠ 0 → s' = s) ∧ (∀ k : Int, k < 853 → s'.al k = s.al k) ∧ (s.al 853 ≤ s'.al 853 ∧ ∀ k : Int, 0 ≤ k → k < s.al 853 → s'.al (854 + k) = s.al (854 + k)) ∧ (s'.ft = 0 → s'.al 853 - s.al 853 ≤ s'.st - s.st + e ∧ Rn (fun k => s'.al (854 + k)) (s.al 853) (s'.al 853 - s.al 853).toNat us ws D ∧ ∀ k : Int, s.al 853 ≤ k → k < s'.al 853 → wok s.law (s'.al (854 + k)))
def Bd (s : PS) : Prop := (s.law = 0 ∨ s.law = 1) ∧ (s.ft = 0 → 0 ≤ s.al 853 ∧ s.al 853 ≤ s.st)
theorem Sg.live {n : Int} {us ws : List Bool} {D : Nat} {e : Int} {s s' : PS} (h : Sg n us ws D e s s') (hf : s'.ft = 0) : s.ft = 0 := by
  rcases Decidable.em (s.ft = 0) with q | q
  · exact q
  · have := h.2.2.2.1 q; rw [this] at hf; exact absurd hf q
theorem Sg.tr {n : Int} {us ws zs : List Bool} {D : Nat} {e1 e2 : Int} {s s1 s2 : PS} (h1 : Sg n us ws D e1 s s1) (h2 : Sg n ws zs D e2 s1 s2) (hb : Bd s) : Sg n us zs D (e1 + e2) s s2 := by
  have hlive := h1.live
  have hlive2 := h2.live
  obtain ⟨a1, a2, a3, a4, a5, ⟨a6, a6'⟩, a7⟩ := h1
  obtain ⟨b1, b2, b3, b4, b5, ⟨b6, b6'⟩, b7⟩ := h2
  refine ⟨b1, b2.trans a2, by omega, fun q => ?_, fun k hk => (b5 k hk).trans (a5 k hk), ⟨by omega, fun k k0 k1 => (b6' k k0 (by omega)).trans (a6' k k0 k1)⟩, fun q => ?_⟩
  · have x := a4 q
    have y := b4 (by rw [x]; exact q)
    exact y.trans x
  · have f1 := hlive2 q
    have f0 := hlive f1
    have hb0 := (hb.2 f0).1
    obtain ⟨c1, c2, c3⟩ := a7 f1
    obtain ⟨e1', e2', e3⟩ := b7 q
    refine ⟨by omega, ?_, fun k k0 k1 => ?_⟩
    · have r1 : Rn (fun k => s2.al (854 + k)) (s.al 853) (s1.al 853 - s.al 853).toNat us ws D := c2.cg (fun k k0 k1 => b6' k (by omega) (by omega))
      have r2 := e2'
      rw [show s1.al 853 = s.al 853 + ((s1.al 853 - s.al 853).toNat : Int) by omega] at r2
      have r3 := r1.tr r2
      rw [show (s1.al 853 - s.al 853).toNat + (s2.al 853 - (s.al 853 + ((s1.al 853 - s.al 853).toNat : Int))).toNat = (s2.al 853 - s.al 853).toNat by omega] at r3
      exact r3
    · rcases Decidable.em (k < s1.al 853) with w | w
      · rw [b6' k (by omega) w]; exact c3 k k0 w
      · rw [← a2]; exact e3 k (by omega) k1
theorem Sg.fr {n : Int} {us ws : List Bool} {D : Nat} {e : Int} {s s' : PS} (h : Sg n us ws D e s s') (f : List Bool) : Sg n (us ++ f) (ws ++ f) (D + f.length) e s s' := by
  obtain ⟨a1, a2, a3, a4, a5, a6, a7⟩ := h
  exact ⟨a1, a2, a3, a4, a5, a6, fun q => ⟨(a7 q).1, (a7 q).2.1.fr f, (a7 q).2.2⟩⟩
theorem Sg.mo {n : Int} {us ws : List Bool} {D D' : Nat} {e e' : Int} {s s' : PS} (h : Sg n us ws D e s s') (hd : D ≤ D') (he : e ≤ e') : Sg n us ws D' e' s s' := by
  obtain ⟨a1, a2, a3, a4, a5, a6, a7⟩ := h
  exact ⟨a1, a2, a3, a4, a5, a6, fun q => ⟨by have := (a7 q).1; omega, (a7 q).2.1.mo hd, (a7 q).2.2⟩⟩
theorem Sg.bd {n : Int} {us ws : List Bool} {D : Nat} {e : Int} {s s' : PS} (h : Sg n us ws D e s s') (hb : Bd s) (he : e ≤ 0) : Bd s' := ⟨by rw [h.2.1]; exact hb.1, fun q => by
  have f := hb.2 (h.live q)
  have := h.2.2.2.2.2.1.1
  have := (h.2.2.2.2.2.2 q).1
  omega⟩
theorem Sg.room {n : Int} {us ws : List Bool} {D : Nat} {s s' : PS} (h : Sg n us ws D (-1) s s') (hb : Bd s) : s'.ft = 0 → 0 ≤ s'.al 853 ∧ s'.al 853 < 900 := fun q => by
  have f := hb.2 (h.live q)
  have := h.2.2.2.2.2.1.1
  have := (h.2.2.2.2.2.2 q).1
  have := h.1
  obtain ⟨o1, o2, o3, o4, _⟩ := this
  omega
theorem Sg.rf {n : Int} {us : List Bool} {D : Nat} {s : PS} (ho : Ok0 n s) (hd : us.length ≤ D) : Sg n us us D 0 s s := by
  refine ⟨ho, rfl, by omega, fun _ => rfl, fun _ _ => rfl, ⟨by omega, fun _ _ _ => rfl⟩, fun q => ⟨by omega, ?_, fun k k0 k1 => by omega⟩⟩
  rw [show (s.al 853 - s.al 853).toNat = 0 by omega]
  exact Rn.nil _ _ hd
theorem Sg.dead {n : Int} {us ws : List Bool} {D : Nat} {e : Int} {s : PS} (ho : Ok0 n s) (hf : s.ft ≠ 0) : Sg n us ws D e s s := ⟨ho, rfl, by omega, fun _ => rfl, fun _ _ => rfl, ⟨by omega, fun _ _ _ => rfl⟩, fun q => absurd q hf⟩
theorem flS_p {w : Int} {s : PS} : (flS w s).st = s.st ∧ (flS w s).law = s.law ∧ (flS w s).al = s.al ∧ (flS w s).nx = s.nx ∧ (flS w s).kd = s.kd ∧ (flS w s).vl = s.vl ∧ (flS w s).num = s.num := by unfold flS; split <;> exact ⟨rfl, rfl, rfl, rfl, rfl, rfl, rfl⟩
theorem flS_d {w : Int} {s : PS} (h : s.ft ≠ 0) : flS w s = s := by unfold flS; rw [if_neg h]
theorem Sg.fl {n : Int} {us ws : List Bool} {D : Nat} {e w : Int} {s : PS} (ho : Ok0 n s) (hw : 1 ≤ w ∧ w ≤ 4) : Sg n us ws D e s (flS w s) := by
  obtain ⟨e1, e2, e3, _⟩ := flS_p (w := w) (s := s)
  exact ⟨Ok0_fl ho hw, e2, by omega, fun q => flS_d q, fun k _ => by rw [e3], ⟨by rw [e3]; omega, fun k _ _ => by rw [e3]⟩, fun q => absurd q (flS_ft hw.1)⟩
theorem Sg.st {T : Int → Int} {n : Int} {us : List Bool} {D : Nat} {s : PS} (ho : Ok0 n s) (hf : s.ft = 0) (hk : s.kd ≠ 36) (hd : us.length ≤ D) : Sg n us us D (-1) s (stS T n s) := by
  have h := Ok0_st (T := T) ho
  have h6 := ho.2.2.2.2.2.1 hk
  refine ⟨h.1, rfl, by omega, fun z => absurd hf z, fun _ _ => rfl, ⟨Int.le_refl _, fun _ _ _ => rfl⟩, fun q => ⟨?_, ?_, fun k k0 k1 => ?_⟩⟩
  · show s.al 853 - s.al 853 ≤ _; omega
  · show Rn _ _ (s.al 853 - s.al 853).toNat _ _ _
    rw [show (s.al 853 - s.al 853).toNat = 0 by omega]
    exact Rn.nil _ _ hd
  · have : k < s.al 853 := k1
    omega
theorem Sg.tk {T : Int → Int} {n k : Int} {us : List Bool} {D : Nat} {s : PS} (ho : Ok0 n s) (hk : k ≠ 36) (hd : us.length ≤ D) : Sg n us us D (-1) s (tkS T n k s) := by
  unfold tkS
  rcases Decidable.em (s.ft = 0) with q | q
  · rw [if_pos q]
    rcases Decidable.em (s.kd = k) with w | w
    · rw [if_pos w]; exact Sg.st ho q (by omega) hd
    · rw [if_neg w]; exact Sg.fl ho (by omega)
  · rw [if_neg q]; exact Sg.dead ho q
theorem Sg.ad {n x : Int} {us ws : List Bool} {D : Nat} {s : PS} (ho : Ok0 n s) (hb : s.ft = 0 → 0 ≤ s.al 853) (ht : ∀ ts, tck x (us ++ ts) = some (ws ++ ts)) (hu : us.length ≤ D) (hw : ws.length ≤ D) (hx : s.ft = 0 → wok s.law x) : Sg n us ws D 1 s (adS x s) := by
  rcases Decidable.em (s.ft = 0) with q | q
  · have hbq := hb q
    have hxq := hx q
    have ho2 := Ok0_ad (x := x) ho
    unfold adS at ho2 ⊢
    rw [if_pos q] at ho2 ⊢
    refine ⟨ho2, rfl, Int.le_refl _, fun z => absurd q z, fun k hk => ?_, ⟨?_, fun k k0 k1 => ?_⟩, fun _ => ⟨?_, ?_, fun k k0 k1 => ?_⟩⟩
    · show ua (ua s.al (854 + s.al 853) x) 853 (s.al 853 + 1) k = s.al k
      rw [ua_n (by omega), ua_n (by omega)]
    · show s.al 853 ≤ ua (ua s.al (854 + s.al 853) x) 853 (s.al 853 + 1) 853
      rw [ua_s]; omega
    · show ua (ua s.al (854 + s.al 853) x) 853 (s.al 853 + 1) (854 + k) = s.al (854 + k)
      rw [ua_n (by omega), ua_n (by omega)]
    · show ua (ua s.al (854 + s.al 853) x) 853 (s.al 853 + 1) 853 - s.al 853 ≤ s.st - s.st + 1
      rw [ua_s]; omega
    · show Rn (fun k => ua (ua s.al (854 + s.al 853) x) 853 (s.al 853 + 1) (854 + k)) (s.al 853) (ua (ua s.al (854 + s.al 853) x) 853 (s.al 853 + 1) 853 - s.al 853).toNat us ws D
      rw [ua_s, show (s.al 853 + 1 - s.al 853).toNat = 1 by omega]
      refine Rn.one (fun ts => ?_) hu hw
      show tck (ua (ua s.al (854 + s.al 853) x) 853 (s.al 853 + 1) (854 + s.al 853)) (us ++ ts) = _
      rw [ua_n (by omega), ua_s]
      exact ht ts
    · have k1' : k < ua (ua s.al (854 + s.al 853) x) 853 (s.al 853 + 1) 853 := k1
      rw [ua_s] at k1'
      show wok s.law (ua (ua s.al (854 + s.al 853) x) 853 (s.al 853 + 1) (854 + k))
      rw [ua_n (by omega), show k = s.al 853 by omega, ua_s]
      exact hxq
  · have e : adS x s = s := by unfold adS; rw [if_neg q]
    rw [e]; exact Sg.dead ho q
/-- both sides read from s to s' -/
def sC : List Int := [37, 42, 43, 56]
def Pt (T : Int → Int) (n : Int) (h yc ym : Nat) (dep : Int) (s s' : PS) : Prop := (∀ (D c : Nat) (v : sF), h ≤ D → CS T n v s → ∃ v', Ev D yc [(2, 37), (0, dep)] (c, v) none (c, v') ∧ (CS T n v' s' ∧ Off sC v v')) ∧ (∀ (D c : Nat) (v : sF), h ≤ D → MS T n v s → ∃ v', Ev D ym [(2, 163), (0, dep)] (c, v) none (c, v') ∧ (MS T n v' s' ∧ FR v v'))
def Gdp (T : Int → Int) (n : Int) (t : Bool) (D h yc ym : Nat) (dep : Int) : Prop := ∀ s : PS, Ok0 n s → Bd s → ∃ s', Sg n [] [t] D 0 s s' ∧ Pt T n h yc ym dep s s'
theorem Gdp.mo {T : Int → Int} {n : Int} {t : Bool} {D D' h h' yc ym : Nat} {dep : Int} (hg : Gdp T n t D h yc ym dep) (hd : D ≤ D') (hh : h ≤ h') : Gdp T n t D' h' yc ym dep := fun s ho hb => by
  obtain ⟨s', a1, a2, a3⟩ := hg s ho hb
  exact ⟨s', a1.mo hd (Int.le_refl _), fun D c v hD => a2 D c v (by omega), fun D c v hD => a3 D c v (by omega)⟩
/-- a call, and then -/
theorem kN {D y : Nat} {as : List sV} {v : sF} {R : sF → Prop} {P : Nat → sF → Prop} (h : ∃ v', Ev D y as (c, v) none (c, v') ∧ R v') (k : ∀ v', R v' → P c v') : ∃ c1 v2, Ev D y as (c, v) none (c1, v2) ∧ P c1 v2 := by
  obtain ⟨v', h1, h2⟩ := h
  exact ⟨c, v', h1, k v' h2⟩
theorem kI {D y : Nat} {as : List sV} {v : sF} {X : Int} {R : sF → Prop} {P : Int → Nat → sF → Prop} (h : ∃ v', Ev D y as (c, v) (some (0, X)) (c, v') ∧ R v') (k : ∀ v', R v' → P X c v') : ∃ r c1 v2, Ev D y as (c, v) (some (0, r)) (c1, v2) ∧ P r c1 v2 := by
  obtain ⟨v', h1, h2⟩ := h
  exact ⟨X, c, v', h1, k v' h2⟩
theorem kI0 {D y : Nat} {as : List sV} {v : sF} {X : Int} {P : Int → Nat → sF → Prop} (h : Ev D y as (c, v) (some (0, X)) (c, v)) (k : P X c v) : ∃ r c1 v2, Ev D y as (c, v) (some (0, r)) (c1, v2) ∧ P r c1 v2 := ⟨X, c, v, h, k⟩
/-- if it isn't eaten, it fails -/
theorem tk_m {T : Int → Int} {n : Int} {v : sF} {s : PS} (h : MS T n v s) (ho : Ok0 n s) {k' : Int} (k : Int) (hk : 0 ≤ k ∧ k ≤ 38) (e : k' = km k) {P : Nat → sF → Prop} (hP : ∀ v1, MS T n v1 (tkS T n k s) → FR v v1 → P c v1) : ∃ r c1 v2, Ev (d + 7) 179 [(2, 163), (0, k')] (c, v) (some (0, r)) (c1, v2) ∧ brb (!decide (r = 0)) (P c1 v2) (∃ c4 v5, Ev (d + 7) 177 [(2, 163), (0, 2)] (c1, v2) none (c4, v5) ∧ P c4 v5) := by
  obtain ⟨v1, e1, e2, e3⟩ := C_eatsS (d := d) (c := c) h ho k hk e
  refine ⟨_, c, v1, e1, ?_⟩
  unfold eaS at e2
  rcases Decidable.em (s.ft = 0 ∧ s.kd = k) with q | q
  · rw [if_pos q] at e2 ⊢
    refine brbN (fun _ => hP v1 ?_ e3) (fun w => absurd w (by decide))
    unfold tkS; rw [if_pos q.1, if_pos q.2]; exact e2
  · rw [if_neg q] at e2 ⊢
    refine brbN (fun w => absurd rfl w) (fun _ => kN (C_failsS (d := d + 6) e2 ho 2 (by omega)) (fun v2 hv => hP v2 ?_ (e3.tr hv.2)))
    unfold tkS
    rcases Decidable.em (s.ft = 0) with z | z
    · rw [if_pos z, if_neg (fun z2 => q ⟨z, z2⟩)]; exact hv.1
    · rw [if_neg z]; rw [flS_d z] at hv; exact hv.1
end Par2
