section Par4
variable {d c : Nat}
/-- the words of a law -/
def wo (law k : Int) : Int := if k = 12 then 0 else if k = 13 then 1 else if k = 5 then 2 else if k = 14 then 3 else if k = 7 then (if law = 0 then 4 else -1) else if k = 2 then (if law = 1 then 5 else -1) else if k = 3 then (if law = 1 then 6 else -1) else if k = 15 then (if law = 1 then 7 else -1) else -1
def woM (law j : Int) : Int := if j = 2 then (if law = 1 then 5 else -1) else if j = 3 then (if law = 1 then 6 else -1) else if j = 5 then 2 else if j = 7 then (if law = 0 then 4 else -1) else if j = 16 then 0 else if j = 17 then 1 else if j = 18 then 3 else if j = 19 then (if law = 1 then 7 else -1) else -1
theorem wo_km {law k : Int} (hl : law = 0 ∨ law = 1) (hk : 0 ≤ k ∧ k ≤ 38) : woM law (km k) = wo law k := by
  have key : ∀ l : Fin 2, ∀ k : Fin 39, woM ((l.val : Nat) : Int) (km ((k.val : Nat) : Int)) = wo ((l.val : Nat) : Int) ((k.val : Nat) : Int) := by decide +kernel
  have := key ⟨law.toNat, by omega⟩ ⟨k.toNat, by omega⟩
  rw [show ((law.toNat : Nat) : Int) = law by omega, show ((k.toNat : Nat) : Int) = k by omega] at this
  exact this
theorem wo_enc {law k : Int} (hl : law = 0 ∨ law = 1) (hk : 0 ≤ k ∧ k ≤ 38) (h : wo law k ≠ -1) : 1000 + k = enc (1000 + wo law k) ∧ (0 ≤ wo law k ∧ wo law k < 8) ∧ wok law (1000 + wo law k) := by
  have key : ∀ l : Fin 2, ∀ k : Fin 39, wo ((l.val : Nat) : Int) ((k.val : Nat) : Int) ≠ -1 → 1000 + ((k.val : Nat) : Int) = enc (1000 + wo ((l.val : Nat) : Int) ((k.val : Nat) : Int)) ∧ (0 ≤ wo ((l.val : Nat) : Int) ((k.val : Nat) : Int) ∧ wo ((l.val : Nat) : Int) ((k.val : Nat) : Int) < 8) ∧ (if ((l.val : Nat) : Int) = 0 then 1000 + wo ((l.val : Nat) : Int) ((k.val : Nat) : Int) ≤ 1004 else 1000 + wo ((l.val : Nat) : Int) ((k.val : Nat) : Int) ≠ 1004) := by decide +kernel
  have := key ⟨law.toNat, by omega⟩ ⟨k.toNat, by omega⟩
  rw [show ((law.toNat : Nat) : Int) = law by omega, show ((k.toNat : Nat) : Int) = k by omega] at this
  obtain ⟨a, b, e⟩ := this h
  exact ⟨a, b, Or.inr (Or.inr e)⟩
theorem C_isOfLaw {v : sF} {law : Int} (h : v 37 5 = law) (k : Int) : Ev (d + 1) 58 [(2, 37), (0, k)] (c, v) (some (0, if wo law k = -1 then 0 else 1)) (c, v) := by
  refine Ev_of (loc58 k) (E58_0 k ?_)
  rw [h]
  have hz : ∀ x : Int, x = wo law k → ((x = -1 → ((some (0, 0) : Option sV) = some (0, if wo law k = -1 then 0 else 1))) ∧ (x ≠ -1 → ((some (0, 1) : Option sV) = some (0, if wo law k = -1 then 0 else 1)))) := fun x hx => by
    subst hx
    exact ⟨fun q => by rw [if_pos q], fun q => by rw [if_neg q]⟩
  (repeat' (first | (refine brbI (fun _ => ?_) (fun _ => ?_) <;> try (exfalso; omega)) | (refine brbN (fun _ => ?_) (fun _ => ?_) <;> try (exfalso; omega)) | refine rngI (by omega) ?_ | refine rnlI (by omega) ?_ | refine chkI (inbI (by omega) (by omega)) ?_)) <;> first
    | exact ⟨(hz (-1) (by unfold wo; simp [*])).1 rfl, rfl⟩
    | exact ⟨(hz _ (by unfold wo; simp [*]; rfl)).2 (by decide), rfl⟩
theorem C_wordOf {v : sF} {law : Int} (h : v 163 15 = law) (j : Int) : Ev (d + 1) 182 [(2, 163), (0, j)] (c, v) (some (0, woM law j)) (c, v) := by
  refine Ev_of (loc182 j) (E182_0 j ?_)
  rw [h]
  (repeat' (first | (refine brbI (fun _ => ?_) (fun _ => ?_) <;> try (exfalso; omega)) | (refine brbN (fun _ => ?_) (fun _ => ?_) <;> try (exfalso; omega)) | refine rngI (by omega) ?_ | refine rnlI (by omega) ?_ | refine chkI (inbI (by omega) (by omega)) ?_)) <;> exact ⟨by unfold woM; simp [*], rfl⟩
def mnS (dep : Int) (s : PS) : PS := if dep < 6 then s else flS 4 s
theorem C_mayNest {T : Int → Int} {n dep : Int} {v : sF} {s : PS} (h : CS T n v s) : ∃ v', Ev (d + 2) 57 [(2, 37), (0, dep)] (c, v) (some (0, if (mnS dep s).ft = 0 then 1 else 0)) (c, v') ∧ (CS T n v' (mnS dep s) ∧ Off [37] v v') := by
  refine CI_of (loc57 dep) (E57_0 dep ?_)
  have h2 := h.2.1.1
  rcases Decidable.em (dep < 6) with q | q
  · have e : mnS dep s = s := by unfold mnS; rw [if_pos q]
    rw [e, h2]
    exact brbI (fun _ => brbN (fun z => ⟨by rw [if_neg z], _, rfl, h, Off.rf _ v⟩) (fun z => ⟨by rw [if_pos z], _, rfl, h, Off.rf _ v⟩)) (fun z => absurd q z)
  · have e : mnS dep s = flS 4 s := by unfold mnS; rw [if_neg q]
    rw [e]
    refine brbI (fun z => absurd z q) (fun _ => kN (C_failR (d := d) h 4 (by omega)) (fun v1 hv => ?_))
    rw [hv.1.2.1.1]
    exact brbN (fun z => ⟨by rw [if_neg z], _, rfl, hv⟩) (fun z => absurd z (flS_ft (by omega)))
def giS (T : Int → Int) (n dep : Int) (s : PS) : PS := if (mnS dep s).ft = 0 then stS T n (mnS dep s) else mnS dep s
theorem C_goesIn {T : Int → Int} {n dep : Int} {v : sF} {s : PS} (h : MS T n v s) (ho : Ok0 n s) (hd : dep ≤ 6) : ∃ v', Ev (d + 7) 184 [(2, 163), (0, dep)] (c, v) (some (0, if (mnS dep s).ft = 0 then 1 else 0)) (c, v') ∧ (MS T n v' (giS T n dep s) ∧ FR v v') := by
  refine CI_of (loc184 dep) (E184_0 dep ?_)
  have h2 := h.2.2.1.1
  unfold giS
  rcases Decidable.em (dep < 6) with q | q
  · have e : mnS dep s = s := by unfold mnS; rw [if_pos q]
    rw [e, h2]
    refine brbN (fun _ => brbN (fun z => brbN (fun _ => ⟨by rw [if_neg z], _, rfl, by rw [if_neg z]; exact h, FR.rf v⟩) (fun z2 => absurd z2 z)) (fun z => kN (C_nextS (d := d) h ho) (fun v1 hv => ?_))) (fun z => absurd z (by omega))
    rw [hv.1.2.2.1.1]
    exact brbN (fun z2 => absurd z z2) (fun z2 => ⟨by rw [if_pos z], _, rfl, by rw [if_pos z]; exact hv.1, hv.2⟩)
  · have e : mnS dep s = flS 4 s := by unfold mnS; rw [if_neg q]
    rw [e]
    have hne : (flS 4 s).ft ≠ 0 := flS_ft (by omega)
    rw [if_neg hne, if_neg hne]
    refine brbN (fun z => absurd (show dep = 6 by omega) z) (fun _ => kN (C_failsS (d := d + 5) h ho 4 (by omega)) (fun v1 hv => ?_))
    rw [hv.1.2.2.1.1]
    exact brbN (fun _ => brbN (fun _ => ⟨rfl, _, rfl, hv⟩) (fun z => absurd z hne)) (fun z => absurd z hne)
theorem tkS_d {T : Int → Int} {n k : Int} {s : PS} (h : s.ft ≠ 0) : tkS T n k s = s := by unfold tkS; rw [if_neg h]
theorem tkS_t {T : Int → Int} {n k : Int} {s : PS} (h : s.ft = 0) (hk : s.kd = k) : tkS T n k s = stS T n s := by unfold tkS; rw [if_pos h, if_pos hk]
theorem adS_d {x : Int} {s : PS} (h : s.ft ≠ 0) : adS x s = s := by unfold adS; rw [if_neg h]
/-- if .. then .. else .. end -/
theorem if_ok {T : Int → Int} {n dep : Int} {A B Dm h : Nat} (hdep : 0 ≤ dep ∧ dep < 6) (hs : Gdp T n false A h 53 188 (dep + 1)) (ht : Gdp T n true B h 59 191 (dep + 1)) (hA : A + 2 ≤ Dm) (hB : B ≤ Dm) (h3 : 3 ≤ Dm) (h8 : 8 ≤ h) (s : PS) (ho : Ok0 n s) (hb : Bd s) (hf : s.ft = 0) (hk : s.kd = 16) : ∃ s', Sg n [] [false] Dm 0 s s' ∧ (∀ (D c : Nat) (v : sF), h + 1 ≤ D → CS T n v s → ∃ v', Ev D 56 [(2, 37), (0, dep + 1)] (c, v) none (c, v') ∧ (CS T n v' s' ∧ Off sC v v')) ∧ (∀ (D c : Nat) (v : sF), h + 1 ≤ D → MS T n v s → ∃ v', Ev D 186 [(2, 163), (0, dep)] (c, v) none (c, v') ∧ (MS T n v' s' ∧ FR v v')) := by
  have e1 : Sg n [] [] Dm (-1) s (stS T n s) := Sg.st ho hf (by omega) (by simp)
  obtain ⟨s2, g2, gc2, gm2⟩ := ht (stS T n s) e1.1 (e1.bd hb (by omega))
  have e2 : Sg n [] [true] Dm (-1) s s2 := by have := e1.tr (g2.mo hB (Int.le_refl _)) hb; exact this
  have e3 : Sg n [] [true] Dm (-2) s (tkS T n 17 s2) := by have := e2.tr (Sg.tk (T := T) (k := 17) g2.1 (by decide) (by simp; omega)) hb; exact this
  obtain ⟨s4, g4, gc4, gm4⟩ := hs (tkS T n 17 s2) e3.1 (e3.bd hb (by omega))
  have e4 : Sg n [] [false, true] Dm (-2) s s4 := by have := e3.tr ((g4.fr [true]).mo (show A + 1 ≤ Dm by omega) (Int.le_refl _)) hb; exact this
  have e5 : Sg n [] [false, true] Dm (-3) s (tkS T n 18 s4) := by have := e4.tr (Sg.tk (T := T) (k := 18) g4.1 (by decide) (by simp; omega)) hb; exact this
  obtain ⟨s6, g6, gc6, gm6⟩ := hs (tkS T n 18 s4) e5.1 (e5.bd hb (by omega))
  have e6 : Sg n [] [false, false, true] Dm (-3) s s6 := by have := e5.tr ((g6.fr [false, true]).mo (show A + 2 ≤ Dm by omega) (Int.le_refl _)) hb; exact this
  have e7 : Sg n [] [false, false, true] Dm (-4) s (tkS T n 19 s6) := by have := e6.tr (Sg.tk (T := T) (k := 19) g6.1 (by decide) (by simp; omega)) hb; exact this
  have hroom := (e7.mo (Nat.le_refl _) (show (-4 : Int) ≤ -1 by omega)).room hb
  have e8 : Sg n [] [false] Dm 0 s (adS 3009 (tkS T n 19 s6)) := by
    have := e7.tr (Sg.ad (x := 3009) (us := [false, false, true]) (ws := [false]) e7.1 (fun z => (hroom z).1) (fun ts => rfl) (by simp; omega) (by simp; omega) (fun _ => Or.inr (Or.inl (by decide)))) hb
    exact this.mo (Nat.le_refl _) (by omega)
  refine ⟨_, e8, fun D c v hD hC => ?_, fun D c v hD hM => ?_⟩
  · obtain ⟨d, rfl⟩ : ∃ d, D = d + 8 + 1 := ⟨D - 9, by omega⟩
    refine CV_of (loc56 _) (E56_0 _ (kN (C_take (d := d + 6) hC ho 16) (fun v1 h1 => ?_)))
    rw [tkS_t hf hk] at h1
    refine kN (gc2 (d + 8) c v1 (by omega) h1.1) (fun v2 h2 => kN (C_take (d := d + 6) h2.1 g2.1 17) (fun v3 h3 => kN (gc4 (d + 8) c v3 (by omega) h3.1) (fun v4 h4 => kN (C_take (d := d + 6) h4.1 g4.1 18) (fun v5 h5 => kN (gc6 (d + 8) c v5 (by omega) h5.1) (fun v6 h6 => kN (C_take (d := d + 6) h6.1 g6.1 19) (fun v7 h7 => kN (C_addR (d := d + 6) (x := 3009) h7.1 (fun _ => by decide) (by omega) hroom) (fun v8 h8 => ⟨rfl, _, rfl, h8.1, ?_⟩)))))))
    exact (((((((h1.2.wk (by decide)).tr h2.2).tr (h3.2.wk (by decide))).tr h4.2).tr (h5.2.wk (by decide))).tr h6.2).tr (h7.2.wk (by decide))).tr (h8.2.wk (by decide))
  · obtain ⟨d, rfl⟩ : ∃ d, D = d + 8 + 1 := ⟨D - 9, by omega⟩
    have em : mnS dep s = s := by unfold mnS; rw [if_pos hdep.2]
    have eg : giS T n dep s = stS T n s := by unfold giS; rw [em, if_pos hf]
    refine CV_of (loc186 _) (E186_0 _ (kI (C_goesIn (d := d + 1) hM ho (by omega)) (fun v1 h1 => ?_)))
    rw [eg] at h1
    rw [em, if_pos hf]
    refine brbN (fun _ => rngI (by omega) (kN (gm2 (d + 8) c v1 (by omega) h1.1) (fun v2 h2 => tk_m (d := d + 1) h2.1 g2.1 17 (by omega) (by decide) (fun v3 h3 f3 => rngI (by omega) (kN (gm4 (d + 8) c v3 (by omega) h3) (fun v4 h4 => tk_m (d := d + 1) h4.1 g4.1 18 (by omega) (by decide) (fun v5 h5 f5 => rngI (by omega) (kN (gm6 (d + 8) c v5 (by omega) h5) (fun v6 h6 => tk_m (d := d + 1) h6.1 g6.1 19 (by omega) (by decide) (fun v7 h7 f7 => kN (C_codesS (d := d + 7) (x := 3009) h7 hroom) (fun v8 h8 => ⟨rfl, _, rfl, h8.1, ?_⟩))))))))))) (fun w => absurd w (by decide))
    exact ((((((h1.2.tr h2.2).tr f3).tr h4.2).tr f5).tr h6.2).tr f7).tr h8.2
end Par4
