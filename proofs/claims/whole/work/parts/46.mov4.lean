section Mov4
variable {d c : Nat}
/-- what questions leave of the model: weaker -/
def QN (v v' : sF) : Prop := Off scM v v' ∧ ∀ k : Int, (k = 5 ∨ k = 13 ∨ k = 14 ∨ k = 18) → v' 163 k = v 163 k
theorem QM.n {v v' : sF} (h : QM v v') : QN v v' := ⟨h.1, fun k hk => h.2 k (by omega)⟩
theorem QN.tr {v v1 v2 : sF} (h1 : QN v v1) (h2 : QN v1 v2) : QN v v2 := ⟨h1.1.tr h2.1, fun k hk => (h2.2 k hk).trans (h1.2 k hk)⟩
theorem QN.al {v v1 : sF} (h : QN v v1) : v1 164 = v 164 := h.1 164 (by decide)
theorem QN.idle {v v1 : sF} (h : QN v v1) : v1 163 18 = v 163 18 := h.2 18 (by omega)
theorem keeps_loop {Q : sQ} (v0 : sF) (hQ : ∀ v, Off [170] v0 v → (∀ j : Int, 0 ≤ j → j < 75 → v 170 j = v0 164 (27 + j)) → Q none (c, v)) : ∀ (m : Nat) (k : Int) (v : sF), 0 ≤ k → k + m = 75 → Off [170] v0 v → (∀ j : Int, 0 ≤ j → j < k → v 170 j = v0 164 (27 + j)) → Wp (Ev d) 0 (fun _ => 0) 218 Q 2 [(2, 163), (0, k)] [] c v := by
  intro m
  induction m with
  | zero =>
    intro k v k0 hk ho hj
    exact E218_2 _ (brbI (fun _ => hQ v ho (fun j j0 j1 => hj j j0 (by omega))) (fun q => absurd q (by omega)))
  | succ m ih =>
    intro k v k0 hk ho hj
    refine E218_2 _ (brbI (fun q => absurd q (by omega)) (fun _ => rngI (by omega) (chkI (inbI (by omega) (by omega)) (chkI (inbI (by omega) (by omega)) (rngI (by omega) (ih (k + 1) _ (by omega) (by omega) (ho.up (by decide)) (fun j j0 j1 => ?_)))))))
    by_cases e : j = k
    · rw [e, up_same, ho 164 (by decide)]
    · rw [up_ne _ e]; exact hj j j0 (by omega)
theorem C_keeps {v : sF} : ∃ v', Ev (d + 1) 218 [(2, 163)] (c, v) none (c, v') ∧ Off [170] v v' ∧ ∀ j : Int, 0 ≤ j → j < 75 → v' 170 j = v 164 (27 + j) := CV_of loc218 (E218_0 (keeps_loop v (fun v2 ho hj => ⟨rfl, _, rfl, ho, hj⟩) 75 0 v (by omega) (by omega) (Off.rf _ _) (fun j j0 j1 => absurd j0 (by omega))))
theorem C_isTold {v : sF} {x : Int} (hx : x ≤ 2147483647) (hP : 0 ≤ v 164 2 ∧ v 164 2 ≤ 6) : Ev (d + 3) 264 [(2, 163), (0, x)] (c, v) (some (0, if x = 0 ∨ (10 ≤ x ∧ x - 10 < v 164 2) then 1 else 0)) (c, v) := by
  refine Ev_of (loc264 x) (E264_0 x (brbI (fun h => ⟨by rw [if_pos (Or.inl h)], rfl⟩) (fun h => brbI (fun h2 => ⟨by rw [if_neg (by omega)], rfl⟩) (fun h2 => rngI (by omega) ⟨_, c, v, C_isPersonM hP, bfz (fun h3 => ⟨by rw [if_neg (by omega)], rfl⟩) (fun h3 => ⟨by rw [if_pos (by omega)], rfl⟩)⟩))))
set_option maxRecDepth 100000 in
theorem mvo_loop {v : sF} {al w : Int → Int} {Q : sQ} (h2 : 0 ≤ al 2 ∧ al 2 ≤ 6) (e : v 164 = pl al w) (h170 : ∀ r : Int, 0 ≤ r → r < 6 → v 170 (3 + r) = al (30 + r)) (hQ : Q (some (0, mvc al w (al 2).toNat 0)) (c, v)) : ∀ (m k : Nat), (k : Int) + m = al 2 → Wp (Ev d) 0 (fun _ => 0) 262 Q 4 [(2, 163), (0, mvc al w k 0), (0, (k : Int))] [] c v := by
  intro m
  induction m with
  | zero =>
    intro k hk
    refine E262_4 _ _ ?_
    rw [e, pl_n (show (2 : Int) < 30 ∨ (36 : Int) ≤ 2 by omega)]
    rw [show (al 2).toNat = k by omega] at hQ
    exact brbI (fun _ => hQ) (fun q => absurd q (by omega))
  | succ m ih =>
    intro k hk
    have ihk := ih (k + 1) (by omega)
    have hr := mvc_rng al w k 0
    rw [mvc_e, show (0 : Int) + (k : Int) = (k : Int) by omega] at ihk
    refine E262_4 _ _ ?_
    rw [e, pl_n (show (2 : Int) < 30 ∨ (36 : Int) ≤ 2 by omega), pl_at ⟨by omega, by omega⟩, h170 k (by omega) (by omega)]
    refine brbI (fun q => absurd q (by omega)) (fun _ => rngI (by omega) (chkI (inbI (by omega) (by omega)) (rngI (by omega) (chkI (inbI (by omega) (by omega)) (brbN (fun q => rngI (by omega) (rngI (by omega) ?_)) (fun q => rngI (by omega) (rngI (by omega) ?_)))))))
    · rw [if_neg q] at ihk; exact ihk
    · rw [if_pos q] at ihk; exact ihk
theorem C_movedOf {v : sF} {al w : Int → Int} (h2 : 0 ≤ al 2 ∧ al 2 ≤ 6) (e : v 164 = pl al w) (h170 : ∀ r : Int, 0 ≤ r → r < 6 → v 170 (3 + r) = al (30 + r)) : Ev (d + 1) 262 [(2, 163)] (c, v) (some (0, mvc al w (al 2).toNat 0)) (c, v) := Ev_of loc262 (E262_0 (mvo_loop h2 e h170 ⟨rfl, rfl⟩ (al 2).toNat 0 (by omega)))
/-- the best of a set, or what was before -/
def bR (al : Int → Int) (p x : Int) (S : (Int → Int) → Prop) (L : Int) (f : Int → Int) (L' : Int) (f' : Int → Int) : Prop := (L' = L ∧ (∀ r : Int, 0 ≤ r → r < 6 → f' r = f r) ∧ ∀ w, S w → cmW al p x w → L ≤ mvc al w (al 2).toNat 0) ∨ (∃ w', S w' ∧ cmW al p x w' ∧ mvc al w' (al 2).toNat 0 < L ∧ L' = mvc al w' (al 2).toNat 0 ∧ (∀ r : Int, 0 ≤ r → r < 6 → f' r = w' r) ∧ ∀ w, S w → cmW al p x w → mvc al w' (al 2).toNat 0 < mvc al w (al 2).toNat 0 ∨ (mvc al w' (al 2).toNat 0 = mvc al w (al 2).toNat 0 ∧ lx w' w (al 2).toNat 0))
theorem bR_cg {al : Int → Int} {p x : Int} {S S' : (Int → Int) → Prop} {L : Int} {f : Int → Int} {L' : Int} {f' : Int → Int} (h : ∀ w, S w ↔ S' w) (hb : bR al p x S L f L' f') : bR al p x S' L f L' f' := by
  rcases hb with ⟨h1, h2, h3⟩ | ⟨w', h1, h2, h3, h4, h5, h6⟩
  · exact Or.inl ⟨h1, h2, fun w hw => h3 w ((h w).2 hw)⟩
  · exact Or.inr ⟨w', (h w').1 h1, h2, h3, h4, h5, fun w hw => h6 w ((h w).2 hw)⟩
theorem bR_un {al : Int → Int} {p x : Int} {S1 S2 : (Int → Int) → Prop} {L L1 L2 : Int} {f f1 f2 : Int → Int} (h1 : bR al p x S1 L f L1 f1) (h2 : bR al p x S2 L1 f1 L2 f2) (hlx : ∀ a b, S1 a → S2 b → lx a b (al 2).toNat 0) : bR al p x (fun w => S1 w ∨ S2 w) L f L2 f2 := by
  rcases h1 with ⟨rfl, a2, a3⟩ | ⟨w1, a1, a2, a3, rfl, a5, a6⟩
  · rcases h2 with ⟨rfl, b2, b3⟩ | ⟨w2, b1, b2, b3, rfl, b5, b6⟩
    · exact Or.inl ⟨rfl, fun r r0 r1 => (b2 r r0 r1).trans (a2 r r0 r1), fun w hw hc => hw.elim (fun q => a3 w q hc) (fun q => b3 w q hc)⟩
    · refine Or.inr ⟨w2, Or.inr b1, b2, b3, rfl, b5, fun w hw hc => hw.elim (fun q => ?_) (fun q => b6 w q hc)⟩
      left
      have := a3 w q hc
      omega
  · rcases h2 with ⟨rfl, b2, b3⟩ | ⟨w2, b1, b2, b3, rfl, b5, b6⟩
    · refine Or.inr ⟨w1, Or.inl a1, a2, a3, rfl, fun r r0 r1 => (b2 r r0 r1).trans (a5 r r0 r1), fun w hw hc => hw.elim (fun q => a6 w q hc) (fun q => ?_)⟩
      have := b3 w q hc
      have hl := hlx w1 w a1 q
      by_cases e : mvc al w1 (al 2).toNat 0 = mvc al w (al 2).toNat 0
      · exact Or.inr ⟨e, hl⟩
      · left; omega
    · refine Or.inr ⟨w2, Or.inr b1, b2, by omega, rfl, b5, fun w hw hc => hw.elim (fun q => ?_) (fun q => b6 w q hc)⟩
      left
      have := a6 w q hc
      omega
/-- the model's own cells while it goes through all moves -/
def FM (v v' : sF) : Prop := Off [163, 164, 168, 169, 171, 173] v v' ∧ ∀ k : Int, k ≠ 25 → v' 163 k = v 163 k
theorem FM.rf (v : sF) : FM v v := ⟨Off.rf _ v, fun _ _ => rfl⟩
theorem FM.tr {v v1 v2 : sF} (h1 : FM v v1) (h2 : FM v1 v2) : FM v v2 := ⟨h1.1.tr h2.1, fun k hk => (h2.2 k hk).trans (h1.2 k hk)⟩
theorem FM.o {S : List Int} {v v1 : sF} (h : Off S v v1) (hs : ∀ x ∈ S, x ∈ [164, 168, 169, 171, 173]) : FM v v1 := ⟨h.wk (fun x hx => List.mem_cons_of_mem _ (hs x hx)), fun k _ => by rw [h 163 (fun q => absurd (hs 163 q) (by decide))]⟩
def gt1 (al : Int → Int) (p q : Int) (w w' : Int → Int) : Prop := adM al p (fun _ => True) w' ∧ ∀ r : Int, 0 ≤ r → r < q → w' r = w r
theorem fnd_loop {Q : sQ} (v0 : sF) (hQ : ∀ v, Off [173] v0 v → (∀ j : Int, 0 ≤ j → j < 6 → v 173 j = v0 164 (30 + j)) → Q none (c, v)) : ∀ (m : Nat) (k : Int) (v : sF), 0 ≤ k → k + m = 6 → Off [173] v0 v → (∀ j : Int, 0 ≤ j → j < k → v 173 j = v0 164 (30 + j)) → Wp (Ev d) 0 (fun _ => 0) 263 Q 45 [(2, 163), (9, 0), (9, 0), (9, 0), (9, 0), (0, k)] [] c v := by
  intro m
  induction m with
  | zero =>
    intro k v k0 hk ho hj
    exact E263_45 _ (brbI (fun _ => hQ v ho (fun j j0 j1 => hj j j0 (by omega))) (fun q => absurd q (by omega)))
  | succ m ih =>
    intro k v k0 hk ho hj
    refine E263_45 _ (brbI (fun q => absurd q (by omega)) (fun _ => rngI (by omega) (chkI (inbI (by omega) (by omega)) (chkI (inbI (by omega) (by omega)) (rngI (by omega) (ih (k + 1) _ (by omega) (by omega) (ho.up (by decide)) (fun j j0 j1 => ?_)))))))
    by_cases e : j = k
    · rw [e, up_same, ho 164 (by decide)]
    · rw [up_ne _ e]; exact hj j j0 (by omega)
/-- the start of a search in the model -/
def GM (v : sF) (al : Int → Int) (w : Int → Int) : Prop := v 164 = pl al w ∧ (∀ r : Int, 0 ≤ r → r < 6 → v 170 (3 + r) = al (30 + r)) ∧ v 163 18 = -1
theorem gm0 {v : sF} {al w : Int → Int} {p x q : Int} (hS : Sn al) (hp : 0 ≤ p ∧ p < al 2) (hx : 0 ≤ x ∧ x < al 1) (hq : q = al 2) (h : GM v al w) (hw : adM al p (fun _ => True) w) : ∃ v', Ev (d + 8) 263 [(2, 163), (0, q), (0, p), (0, x)] (c, v) none (c, v') ∧ FM v v' ∧ v' 164 = v 164 ∧ bR al p x (gt1 al p q w) (v 163 25) (v 173) (v' 163 25) (v' 173) := by
  have h2 := hS.1.2.1
  have hp6 : 0 ≤ p ∧ p < 6 := by omega
  have e2 : pl al w 2 = al 2 := pl_n (by omega)
  have e1 : pl al w 1 = al 1 := pl_n (by omega)
  have hsm : ∀ w'', gt1 al p q w w'' → ∀ r : Int, 0 ≤ r → r < 6 → w'' r = w r := fun w'' hg r r0 r1 => by
    by_cases e : r < q
    · exact hg.2 r r0 e
    · have e1 : w'' r = al (30 + r) := Classical.byContradiction fun z => by have := (hg.1.2 r r0 r1 z).1; omega
      have e2 : w r = al (30 + r) := Classical.byContradiction fun z => by have := (hw.2 r r0 r1 z).1; omega
      rw [e1, e2]
  have hmv : ∀ w'', gt1 al p q w w'' → mvc al w'' (al 2).toNat 0 = mvc al w (al 2).toNat 0 := fun w'' hg => mvc_congr _ _ (fun r r0 r1 => hsm w'' hg r r0 (by omega))
  have hcm : ∀ w'', gt1 al p q w w'' → (cmW al p x w'' ↔ cmW al p x w) := fun w'' hg => by unfold cmW; rw [pl_eq (hsm w'' hg)]
  refine CV_of (loc263 q p x) (E263_0 q p x ?_)
  rw [h.1, e2]
  refine brbN (fun z => absurd hq z) (fun _ => ⟨_, c, v, C_movedOf h2 h.1 h.2.1, brbI (fun z => ⟨rfl, _, rfl, FM.rf v, by rw [h.1], Or.inl ⟨rfl, fun _ _ _ => rfl, fun w'' hg _ => by rw [hmv w'' hg]; exact z⟩⟩) (fun z => ?_)⟩)
  obtain ⟨v1, hE, hO⟩ := C_comesNow (d := d) (c := c) (v := v) (p := p) (x := x) (by rw [h.1]; exact Sn_pl hS hw.1) (by rw [h.1, e2]; exact hp) (by rw [h.1, e1]; exact hx)
  rw [h.1, h.2.2] at hE
  have hF1 : FM v v1 := FM.o hO (by decide)
  refine ⟨_, c, v1, hE, brbN (fun z2 => ?_) (fun z2 => ⟨rfl, _, rfl, hF1, by rw [← h.1]; exact hO 164 (by decide), Or.inl ⟨by rw [hO 163 (by decide)], fun r _ _ => by rw [hO 173 (by decide)], fun w'' hg hc => absurd z2 ((hcm w'' hg).1 hc)⟩⟩)⟩
  refine fnd_loop _ (fun v3 ho3 hj3 => ⟨rfl, _, rfl, ⟨(hF1.1.up (by decide)).tr (ho3.wk (by decide)), fun k hk => by rw [ho3 163 (by decide), up_ne _ hk]; exact hF1.2 k hk⟩, ?_, Or.inr ⟨w, ⟨hw, fun _ _ _ => rfl⟩, z2, by omega, ?_, fun r r0 r1 => ?_, fun w'' hg hc => Or.inr ⟨(hmv w'' hg).symm, ?_⟩⟩⟩) 6 0 _ (by omega) (by omega) (Off.rf _ _) (fun j j0 j1 => absurd j0 (by omega))
  · rw [ho3 164 (by decide), up_off 164 (by decide), hO 164 (by decide), h.1]
  · rw [ho3 163 (by decide), up_same]
  · rw [hj3 r r0 r1, up_off 164 (by decide), hO 164 (by decide), h.1, pl_at ⟨r0, r1⟩]
  · exact lx_congr (w1 := w) (w2 := w) _ _ (fun r r0 r1 => ⟨rfl, (hsm w'' hg r r0 (by omega)).symm⟩) (lx_rf w _ _)
theorem gm_loop {al w : Int → Int} {p x q : Int} {m : Nat} {Q : sQ} (v0 : sF) (hS : Sn al) (hp : 0 ≤ p ∧ p < al 2) (hq : 0 ≤ q ∧ q < al 2) (hqp : q ≠ p) (h0 : GM v0 al w) (hw : adM al p (fun _ => True) w) (hwq : ∀ r : Int, q ≤ r → r < 6 → w r = al (30 + r))
    (ih : ∀ (v : sF) (w : Int → Int), GM v al w → adM al p (fun _ => True) w → (∀ r : Int, q + 1 ≤ r → r < 6 → w r = al (30 + r)) → ∃ v', Ev (d + 1) 263 [(2, 163), (0, q + 1), (0, p), (0, x)] (c, v) none (c, v') ∧ FM v v' ∧ v' 164 = v 164 ∧ bR al p x (gt1 al p (q + 1) w) (v 163 25) (v 173) (v' 163 25) (v' 173))
    (hQ : ∀ v', FM v0 v' → v' 164 = v0 164 → bR al p x (gt1 al p q w) (v0 163 25) (v0 173) (v' 163 25) (v' 173) → Q none (c, v')) :
    ∀ (n : Nat) (k : Int) (v : sF) (y : Int), 0 ≤ k → k + n = al 1 → FM v0 v → v 164 = pl al (ua w q y) → bR al p x (fun w' => gt1 al p q w w' ∧ w' q < k) (v0 163 25) (v0 173) (v 163 25) (v 173) → Wp (Ev (d + 1)) 0 (fun _ => 0) 263 Q 94 [(2, 163), (0, q), (0, p), (0, x), (0, k), (9, 0)] [] c v := by
  have h1 := hS.1.1
  have h2 := hS.1.2.1
  have hwqq : w q = al (30 + q) := hwq q (by omega) (by omega)
  have hq6 : 0 ≤ q ∧ q < 6 := by omega
  intro n
  induction n with
  | zero =>
    intro k v y k0 hk hF he hb
    refine E263_94 _ _ _ _ ?_
    rw [he, pl_n (show (1 : Int) < 30 ∨ (36 : Int) ≤ 1 by omega), hF.1 170 (by decide), h0.2.1 q hq.1 (by omega)]
    refine brbI (fun _ => rngI (by omega) (rngI (by omega) (chkI (inbI (by omega) (by omega)) (chkI (inbI (by omega) (by omega)) (hQ _ ⟨hF.1.up (by decide), fun k hk => by rw [up_ne2 _ (by decide)]; exact hF.2 k hk⟩ ?_ ?_))))) (fun z => absurd z (by omega))
    · rw [up_ua, he, pl_ua hq6, ua_ua, ← hwqq, ua_id, h0.1]
    · rw [up_ne2 _ (by decide), up_off 173 (by decide)]
      exact bR_cg (fun w' => ⟨fun z => z.1, fun z => ⟨z, by have := z.1.1 q hq.1 (by omega); omega⟩⟩) hb
  | succ n ihn =>
    intro k v y k0 hk hF he hb
    have e2 : up v 164 (30 + q) k 164 = pl al (ua w q k) := by rw [up_ua, he, pl_ua hq6, ua_ua]
    have hF1 : FM v0 (up v 164 (30 + q) k) := ⟨hF.1.up (by decide), fun k hk => by rw [up_ne2 _ (by decide)]; exact hF.2 k hk⟩
    have hG1 : GM (up v 164 (30 + q) k) al (ua w q k) := ⟨e2, fun r r0 r1 => by rw [hF1.1 170 (by decide)]; exact h0.2.1 r r0 r1, by rw [hF1.2 18 (by decide)]; exact h0.2.2⟩
    have hw2 : adM al p (fun _ => True) (ua w q k) := by
      refine ⟨fun r r0 r1 => ?_, fun r r0 r1 hne => ?_⟩
      · by_cases e : r = q
        · rw [e, ua_s]; omega
        · rw [ua_n e]; exact hw.1 r r0 r1
      · by_cases e : r = q
        · subst e; exact ⟨hq.2, hqp, trivial⟩
        · rw [ua_n e] at hne; exact hw.2 r r0 r1 hne
    obtain ⟨v1, hE, hFv, hav, hbv⟩ := ih _ _ hG1 hw2 (fun r r0 r1 => by rw [ua_n (by omega)]; exact hwq r (by omega) r1)
    rw [up_ne2 _ (by decide), up_off 173 (by decide)] at hbv
    refine E263_94 _ _ _ _ ?_
    rw [he, pl_n (show (1 : Int) < 30 ∨ (36 : Int) ≤ 1 by omega)]
    refine brbI (fun z => absurd z (by omega)) (fun _ => rngI (by omega) (chkI (inbI (by omega) (by omega)) (rngI (by omega) ⟨c, v1, hE, rngI (by omega) (ihn (k + 1) v1 k (by omega) (by omega) (hF1.tr hFv) (hav.trans e2) ?_)⟩)))
    refine bR_cg (fun w' => ?_) (bR_un hb hbv (fun a b ha hb2 => ?_))
    · constructor
      · rintro (⟨z1, z2⟩ | z)
        · exact ⟨z1, by omega⟩
        · refine ⟨⟨z.1, fun r r0 r1 => ?_⟩, ?_⟩
          · rw [z.2 r r0 (by omega), ua_n (by omega)]
          · rw [z.2 q hq.1 (by omega), ua_s]; omega
      · rintro ⟨z1, z2⟩
        by_cases e : w' q = k
        · right
          refine ⟨z1.1, fun r r0 r1 => ?_⟩
          by_cases e2 : r = q
          · rw [e2, ua_s]; exact e
          · rw [ua_n e2]; exact z1.2 r r0 (by omega)
        · left; exact ⟨z1, by omega⟩
    · have hb3 : b q = k := by rw [hb2.2 q hq.1 (by omega), ua_s]
      have := lx_pre (w := a) (w' := b) q.toNat ((al 2).toNat - q.toNat) 0 (fun r r0 r1 => ?_) ?_
      · rw [show q.toNat + ((al 2).toNat - q.toNat) = (al 2).toNat by omega] at this
        exact this
      · rw [ha.1.2 r r0 (by omega), hb2.2 r r0 (by omega), ua_n (by omega)]
      · rw [show (al 2).toNat - q.toNat = ((al 2).toNat - q.toNat - 1) + 1 by omega]
        left
        rw [show (0 : Int) + (q.toNat : Int) = q by omega, hb3]
        exact ha.2
theorem C_goesMoves {al : Int → Int} {p x : Int} (hS : Sn al) (hp : 0 ≤ p ∧ p < al 2) (hx : 0 ≤ x ∧ x < al 1) : ∀ (m : Nat) (q : Int) (v : sF) (w : Int → Int), 0 ≤ q → q + m = al 2 → GM v al w → adM al p (fun _ => True) w → (∀ r : Int, q ≤ r → r < 6 → w r = al (30 + r)) → ∃ v', Ev (d + 8 + m) 263 [(2, 163), (0, q), (0, p), (0, x)] (c, v) none (c, v') ∧ FM v v' ∧ v' 164 = v 164 ∧ bR al p x (gt1 al p q w) (v 163 25) (v 173) (v' 163 25) (v' 173) := by
  have h1 := hS.1.1
  have h2 := hS.1.2.1
  intro m
  induction m with
  | zero => intro q v w q0 hq hG hw hwq; exact gm0 hS hp hx (by omega) hG hw
  | succ m ih =>
    intro q v w q0 hq hG hw hwq
    rw [show d + 8 + (m + 1) = d + 7 + m + 1 + 1 by omega]
    have ih1 := fun v w hG hw hwq => ih (q + 1) v w (by omega) (by omega) hG hw hwq
    rw [show d + 8 + m = d + 7 + m + 1 by omega] at ih1
    refine CV_of (loc263 q p x) (E263_0 q p x ?_)
    rw [hG.1, pl_n (show (2 : Int) < 30 ∨ (36 : Int) ≤ 2 by omega)]
    refine brbN (fun _ => brbN (fun z => ?_) (fun z => rngI (by omega) ?_)) (fun z => absurd z (by omega))
    · have := gm_loop (d := d + 7 + m) (c := c) (x := x) (Q := fun r μ => r = none ∧ ∃ v', μ = (c, v') ∧ FM v v' ∧ v' 164 = v 164 ∧ bR al p x (gt1 al p q w) (v 163 25) (v 173) (v' 163 25) (v' 173)) (m := m) v hS hp ⟨q0, by omega⟩ z hG hw hwq ih1 (fun v' hF he hb => ⟨rfl, _, rfl, hF, he, hb⟩) (al 1).toNat 0 v (w q) (by omega) (by omega) (FM.rf v) (by rw [ua_id]; exact hG.1) (Or.inl ⟨rfl, fun _ _ _ => rfl, fun w' hw' _ => by have := hw'.1.1.1 q q0 (by omega); omega⟩)
      rw [← hG.1]
      exact this
    · obtain ⟨v1, hE, hF, he, hb⟩ := ih1 v w hG hw (fun r r0 r1 => hwq r (by omega) r1)
      refine ⟨c, v1, hE, rfl, _, rfl, hF, by rw [← hG.1]; exact he, bR_cg (fun w' => ⟨fun z2 => ⟨z2.1, fun r r0 r1 => z2.2 r r0 (by omega)⟩, fun z2 => ⟨z2.1, fun r r0 r1 => ?_⟩⟩) hb⟩
      by_cases e : r = q
      · rw [e, hwq q (by omega) (by omega), z]
        exact z2.1.p (by omega)
      · exact z2.2 r r0 (by omega)
theorem M_moves {v : sF} {p x w : Int} (hS : St (v 164)) (hi : v 163 18 = -1) (hwi : w ≤ 2147483647) (X : Int) (hX2 : ¬ (((0 ≤ p ∧ p < v 164 2) ∧ (0 ≤ x ∧ x < v 164 1)) ∧ (w = 0 ∨ (10 ≤ w ∧ w - 10 < v 164 2))) → X = -2) (hX1 : ((0 ≤ p ∧ p < v 164 2) ∧ (0 ≤ x ∧ x < v 164 1)) ∧ (w = 0 ∨ (10 ≤ w ∧ w - 10 < v 164 2)) → (∀ z, adM (v 164) p (fun _ => True) z → q_com (pl (v 164) z) (-1) p x = -1) → X = -1) (hX : ((0 ≤ p ∧ p < v 164 2) ∧ (0 ≤ x ∧ x < v 164 1)) ∧ (w = 0 ∨ (10 ≤ w ∧ w - 10 < v 164 2)) → ∀ z, bestM (v 164) p x (fun _ => True) z → X = if w = 0 then mvc (v 164) z (v 164 2).toNat 0 else z (w - 10)) : ∃ v', Ev (d + 20) 265 [(2, 163), (0, p), (0, x), (0, w)] (c, v) (some (0, X)) (c, v') ∧ QN v v' := by
  have hq := QM.t0 v 0
  have h1 := hS.1.1
  have h2 := hS.1.2.1
  have ea := hq.al
  have hw := C_isWayM (d := d + 16) (c := c) (v := up v 163 0 0) (x := p) (y := x) (by rw [ea]; omega) (by rw [ea]; omega)
  have hcp := C_isTold (d := d + 16) (c := c) (v := up v 163 0 0) (x := w) hwi (by rw [ea]; omega)
  rw [ea] at hw hcp
  refine CI_of (loc265 p x w) (E265_0 p x w ⟨_, c, _, hw, bfz (fun h => ⟨by rw [hX2 (fun z => h z.1)], _, rfl, hq.n⟩) (fun h => ⟨_, c, _, hcp, bfi (fun h3 => ?_) (fun h3 => ⟨by rw [hX2 (fun z => h3 z.2)], _, rfl, hq.n⟩)⟩)⟩)
  obtain ⟨v1, hE1, hO1, hj1⟩ := C_keeps (d := d + 18) (c := c) (v := up v 163 0 0)
  rw [ea] at hj1
  have hO2 : Off [163, 170] (up v 163 0 0) (up v1 163 25 268435456) := (hO1.wk (by decide)).up (by decide)
  have e2 : up v1 163 25 268435456 164 = v 164 := (hO2 164 (by decide)).trans ea
  have hG : GM (up v1 163 25 268435456) (v 164) (fun r => v 164 (30 + r)) := by
    refine ⟨by rw [pl_id]; exact e2, fun r r0 r1 => ?_, ?_⟩
    · rw [up_off 170 (by decide), hj1 _ (by omega) (by omega)]; congr 1; omega
    · rw [up_ne _ (by decide), hO1 163 (by decide), up_ne _ (by decide)]; exact hi
  obtain ⟨v3, hE3, hF3, he3, hb3⟩ := C_goesMoves (d := d + 11 - (v 164 2).toNat) (c := c) hS.n h.1 h.2 (v 164 2).toNat 0 _ _ (by omega) (by omega) hG (adM_id hS.n p _) (fun _ _ _ => rfl)
  rw [show d + 11 - (v 164 2).toNat + 8 + (v 164 2).toNat = d + 19 by omega] at hE3
  have hqn : QN v v3 := by
    refine ⟨fun a ha => ?_, fun k hk => ?_⟩
    · by_cases e : a = 164
      · rw [e, he3, e2]
      · have m1 : a ∉ ([163, 164, 168, 169, 171, 173] : List Int) := fun z => by
          rcases List.mem_cons.1 z with z | z
          · exact ha (by rw [z]; decide)
          · rcases List.mem_cons.1 z with z | z
            · exact e z
            · exact ha ((show ∀ b ∈ ([168, 169, 171, 173] : List Int), b ∈ scM by decide) a z)
        have m2 : a ∉ ([163, 170] : List Int) := fun z => ha ((show ∀ b ∈ ([163, 170] : List Int), b ∈ scM by decide) a z)
        have m3 : a ≠ 163 := fun z => ha (by rw [z]; decide)
        rw [hF3.1 a m1, hO2 a m2, up_off a m3]
    · rw [hF3.2 k (by omega), up_ne _ (by omega), hO1 163 (by decide), up_ne _ (by omega)]
  rw [up_same] at hb3
  refine ⟨c, v1, hE1, c, v3, hE3, ?_⟩
  rcases hb3 with ⟨hL, _, hno⟩ | ⟨z, hz1, hz2, hz3, hL, hf, hz4⟩
  · have hn : X = -1 := hX1 ⟨h, h3⟩ (fun z hz => Classical.byContradiction fun q => by
      have h7 := hno z ⟨hz, fun r r0 r1 => absurd r0 (by omega)⟩ q
      have h8 := mvc_rng (v 164) z (v 164 2).toNat 0
      omega)
    exact brbN (fun q => absurd hL q) (fun _ => ⟨by rw [hn], _, rfl, hqn⟩)
  · have hX := hX ⟨h, h3⟩ z ⟨hz1.1, hz2, fun w' hw' hc => hz4 w' ⟨hw', fun r r0 r1 => absurd r0 (by omega)⟩ hc⟩
    rw [hL]
    refine brbN (fun _ => brbN (fun q => rngI (by omega) (chkI (inbI (by omega) (by omega)) ⟨?_, _, rfl, hqn⟩)) (fun q => ⟨?_, _, rfl, hqn⟩)) (fun q => absurd q (by omega))
    · rw [if_neg q] at hX
      rw [hX, hf (w - 10) (by omega) (by omega)]
    · rw [if_pos q] at hX
      rw [hX]
end Mov4
