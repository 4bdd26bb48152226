section Fee2
variable {d c : Nat}
/-- what goesFeeling leaves -/
def gfR (al : Int → Int) (p x : Int) (m : Nat) (q left : Int) (a : Int → Int) (r : Int) (v v' : sF) : Prop := (∀ j : Int, 0 ≤ j → j < q → v' 173 j = v 173 j) ∧ ((r = 1 ∧ ∃ a', fsR al p x m q left a a' ∧ ∀ j : Int, q ≤ j → j < al 2 → v' 173 j = a' j) ∨ (r = 0 ∧ fsN al p x m q left a))
def GF (v : sF) (al : Int → Int) (p : Int) (a : Int → Int) : Prop := v 164 = cra al p a ∧ v 163 18 = -1
theorem gf0 {v : sF} {al a : Int → Int} {p x q left : Int} (hS : Sn al) (hp : 0 ≤ p ∧ p < al 2) (hx : 0 ≤ x ∧ x < al 1) (hq : q = al 2) (h : GF v al p a) (ha : adF al p a) : ∃ r v', Ev (d + 8) 266 [(2, 163), (0, q), (0, left), (0, p), (0, x)] (c, v) (some (0, r)) (c, v') ∧ Off [164, 168, 169, 171, 173] v v' ∧ v' 164 = v 164 ∧ gfR al p x 0 q left a r v v' := by
  have h2 := hS.1.2.1
  have hp6 : 0 ≤ p ∧ p < 6 := by omega
  have e2 : cra al p a 2 = al 2 := cra_n (by omega)
  have e1 : cra al p a 1 = al 1 := cra_n (by omega)
  have hsame : ∀ a'', goF al p q a a'' → q_com (cra al p a'') (-1) p x = q_com (cra al p a) (-1) p x := fun a'' hg => by rw [cra_eq (goF_end ha hq hg)]
  obtain ⟨v1, hE, hO⟩ := C_comesNow (d := d) (c := c) (v := v) (p := p) (x := x) (by rw [h.1]; exact Sn_cra hp6 hS ha) (by rw [h.1, e2]; exact hp) (by rw [h.1, e1]; exact hx)
  rw [h.1, h.2] at hE
  have hO2 : Off [164, 168, 169, 171, 173] v v1 := hO.wk (by decide)
  refine CB_of (loc266 q left p x) (E266_0 q left p x ?_)
  rw [h.1, e2]
  refine brbN (fun z => absurd hq z) (fun _ => brbN (fun z => ⟨0, v, rfl, rfl, Off.rf _ v, by rw [h.1], fun _ _ _ => rfl, Or.inr ⟨rfl, fun a'' _ hm _ => z hm.symm⟩⟩) (fun z => ⟨_, c, v1, hE, brbI (fun z2 => ⟨0, v1, rfl, rfl, hO2, by rw [← h.1]; exact hO 164 (by decide), fun j _ _ => by rw [hO 173 (by decide)], Or.inr ⟨rfl, fun a'' hg _ hc => hc ((hsame a'' hg).trans z2)⟩⟩) (fun z2 => ⟨1, v1, rfl, rfl, hO2, by rw [← h.1]; exact hO 164 (by decide), fun j _ _ => by rw [hO 173 (by decide)], Or.inl ⟨rfl, a, ⟨⟨ha, fun _ _ _ => rfl⟩, z.symm, z2, fun a'' _ _ _ => trivial⟩, fun j j0 j1 => absurd j0 (by omega)⟩⟩)⟩))
theorem gf_loop {v0 : sF} {al a : Int → Int} {p x q left most : Int} {m : Nat} {Q : sQ} (hS : Sn al) (hp : 0 ≤ p ∧ p < al 2) (hq : 0 ≤ q ∧ q < al 2) (hqm : q + (m + 1 : Nat) = al 2) (hl : 0 ≤ left ∧ left ≤ 10) (ha : adF al p a) (h0 : GF v0 al p a) (hqa : ∀ r : Int, q ≤ r → r < 6 → a r = 0) (hmost : (q = p ∧ most = 0) ∨ (q ≠ p ∧ most = left ∧ left ≤ 9 - al (42 + 6 * q + p)) ∨ (q ≠ p ∧ most = 9 - al (42 + 6 * q + p) ∧ 9 - al (42 + 6 * q + p) ≤ left))
    (ih : ∀ (left : Int) (v : sF) (a : Int → Int), 0 ≤ left ∧ left ≤ 10 → GF v al p a → adF al p a → (∀ r : Int, q + 1 ≤ r → r < 6 → a r = 0) → ∃ r v', Ev (d + 1) 266 [(2, 163), (0, q + 1), (0, left), (0, p), (0, x)] (c, v) (some (0, r)) (c, v') ∧ Off [164, 168, 169, 171, 173] v v' ∧ v' 164 = v 164 ∧ gfR al p x m (q + 1) left a r v v')
    (hQ : ∀ r v', Off [164, 168, 169, 171, 173] v0 v' → v' 164 = v0 164 → gfR al p x (m + 1) q left a r v0 v' → Q (some (0, r)) (c, v')) :
    ∀ (k : Nat) (n is : Int) (v : sF) (y : Int), 0 ≤ n → n + k = most + 1 → Off [164, 168, 169, 171, 173] v0 v → v 164 = cra al p (ua a q y) → (∀ j : Int, 0 ≤ j → j < q → v 173 j = v0 173 j) → ((is = 0 ∧ ∀ a'', goF al p q a a'' → a'' q < n → smF a'' (m + 1) q = left → ¬ cmF al p x a'') ∨ (is = 1 ∧ ∃ a', fsR al p x (m + 1) q left a a' ∧ ∀ j : Int, q ≤ j → j < al 2 → v 173 j = a' j)) → Wp (Ev (d + 1)) 0 (fun _ => 0) 266 Q 86 [(2, 163), (0, q), (0, left), (0, p), (0, x), (0, 42 + 6 * q + p), (0, al (42 + 6 * q + p)), (0, most), (0, is), (0, n)] [] c v := by
  have h2 := hS.1.2.1
  have hp6 : 0 ≤ p ∧ p < 6 := by omega
  have hq6 : 0 ≤ q ∧ q < 6 := by omega
  have hcr := hS.2.2 (6 * q + p) (by omega) (by omega)
  rw [show 42 + (6 * q + p) = 42 + 6 * q + p by omega] at hcr
  have haq : a q = 0 := hqa q (by omega) (by omega)
  have hout : ∀ (is : Int) (v : sF) (y : Int), Off [164, 168, 169, 171, 173] v0 v → v 164 = cra al p (ua a q y) → (∀ j : Int, 0 ≤ j → j < q → v 173 j = v0 173 j) → ((is = 0 ∧ fsN al p x (m + 1) q left a) ∨ (is = 1 ∧ ∃ a', fsR al p x (m + 1) q left a a' ∧ ∀ j : Int, q ≤ j → j < al 2 → v 173 j = a' j)) → chk (inb (42 + 6 * q + p) 5262) (chk (decide (is = 0) || decide (is = 1)) (Q (some (0, is)) (c, up v 164 (42 + 6 * q + p) (al (42 + 6 * q + p))))) := fun is v y ho he hj hres => by
    refine chkI (inbI (by omega) (by omega)) (chkI (by rcases hres with z | z <;> simp [z.1]) (hQ is _ (ho.up (by decide)) ?_ ⟨fun j j0 j1 => by rw [up_off 173 (by decide)]; exact hj j j0 j1, ?_⟩))
    · rw [up_ua, he, show al (42 + 6 * q + p) = al (42 + 6 * q + p) + 0 by omega, cra_ua hp6 hq6, ua_ua, show ua a q 0 = a by rw [← haq, ua_id], h0.1]
    · rcases hres with ⟨z1, z2⟩ | ⟨z1, a', z2, z3⟩
      · exact Or.inr ⟨z1, z2⟩
      · exact Or.inl ⟨z1, a', z2, fun j j0 j1 => by rw [up_off 173 (by decide)]; exact z3 j j0 j1⟩
  intro k
  induction k with
  | zero =>
    intro n is v y n0 hn ho he hj hres
    refine E266_86 _ _ _ _ _ _ _ _ _ (brbI (fun _ => hout is v y ho he hj ?_) (fun z => absurd z (by omega)))
    rcases hres with ⟨z1, z2⟩ | z
    · refine Or.inl ⟨z1, ?_⟩
      by_cases e : q = p
      · intro a'' hg hs
        refine z2 a'' hg ?_ hs
        have := hg.1.p hp6
        rw [e, this]
        omega
      · exact fs_e (by omega) (by omega) z2
    · exact Or.inr z
  | succ k ihk =>
    intro n is v y n0 hn ho he hj hres
    refine E266_86 _ _ _ _ _ _ _ _ _ (brbI (fun z => absurd z (by omega)) (fun _ => brbN (fun z => ?_) (fun z => ?_)))
    · rcases hres with ⟨z1, _⟩ | z2
      · exact absurd z1 z
      · exact hout is v y ho he hj (Or.inr z2)
    · rcases hres with ⟨_, hno⟩ | ⟨z1, _⟩
      · have e2 : up (up v 173 q n) 164 (42 + 6 * q + p) (al (42 + 6 * q + p) + n) 164 = cra al p (ua a q n) := by rw [up_ua, up_off 164 (by decide), he, cra_ua hp6 hq6, ua_ua]
        have ho1 : Off [164, 168, 169, 171, 173] v0 (up (up v 173 q n) 164 (42 + 6 * q + p) (al (42 + 6 * q + p) + n)) := (ho.up (by decide)).up (by decide)
        have ha2 : adF al p (ua a q n) := by
          by_cases e : q = p
          · have : n = 0 := by omega
            rw [this, ← haq, ua_id]; exact ha
          · exact adF_ua ha hq e (by omega)
        obtain ⟨r, v1, hE, hO1, hav, hj1, hr1⟩ := ih (left - n) _ (ua a q n) (by omega) ⟨e2, by rw [ho1 163 (by decide)]; exact h0.2⟩ ha2 (fun r r0 r1 => by rw [ua_n (by omega)]; exact hqa r (by omega) r1)
        have h73 : v1 173 q = n := by rw [hj1 q hq.1 (by omega), up_off 173 (by decide), up_same]
        refine chkI (inbI (by omega) (by omega)) (rngI (by omega) (chkI (inbI (by omega) (by omega)) (rngI (by omega) (rngI (by omega) ⟨r, c, v1, hE, rngI (by omega) (ihk (n + 1) r v1 n (by omega) (by omega) (ho1.tr hO1) (hav.trans e2) (fun j j0 j1 => ?_) ?_)⟩))))
        · rw [hj1 j j0 (by omega), up_off 173 (by decide), up_ne _ (by omega)]; exact hj j j0 j1
        · rcases hr1 with ⟨rfl, a', hf, hfj⟩ | ⟨rfl, hf⟩
          · refine Or.inr ⟨rfl, a', fs_y hq.1 hno hf, fun j j0 j1 => ?_⟩
            by_cases e : j = q
            · rw [e, h73, hf.1.2 q hq.1 (by omega), ua_s]
            · exact hfj j (by omega) j1
          · exact Or.inl ⟨rfl, fs_n hno hf⟩
      · exact absurd z (by omega)
theorem C_goesFeeling {al : Int → Int} {p x : Int} (hS : Sn al) (hp : 0 ≤ p ∧ p < al 2) (hx : 0 ≤ x ∧ x < al 1) : ∀ (m : Nat) (q left : Int) (v : sF) (a : Int → Int), 0 ≤ q → q + m = al 2 → 0 ≤ left ∧ left ≤ 10 → GF v al p a → adF al p a → (∀ r : Int, q ≤ r → r < 6 → a r = 0) → ∃ r v', Ev (d + 8 + m) 266 [(2, 163), (0, q), (0, left), (0, p), (0, x)] (c, v) (some (0, r)) (c, v') ∧ Off [164, 168, 169, 171, 173] v v' ∧ v' 164 = v 164 ∧ gfR al p x m q left a r v v' := by
  have h2 := hS.1.2.1
  intro m
  induction m with
  | zero => intro q left v a q0 hq hl hG ha haq; exact gf0 hS hp hx (by omega) hG ha
  | succ m ih =>
    intro q left v a q0 hq hl hG ha haq
    have hq6 : 0 ≤ q ∧ q < al 2 := by omega
    have hp6 : 0 ≤ p ∧ p < 6 := by omega
    rw [show d + 8 + (m + 1) = d + 7 + m + 1 + 1 by omega]
    have hcr := hS.2.2 (6 * q + p) (by omega) (by omega)
    rw [show 42 + (6 * q + p) = 42 + 6 * q + p by omega] at hcr
    have hlp := fun most hmost => gf_loop (d := d + 7 + m) (c := c) (v0 := v) (x := x) (most := most) (m := m) (Q := fun r μ => ∃ x1 v', r = some (0, x1) ∧ μ = (c, v') ∧ Off [164, 168, 169, 171, 173] v v' ∧ v' 164 = v 164 ∧ gfR al p x (m + 1) q left a x1 v v') hS hp hq6 hq hl ha hG haq hmost (fun left v a hl hG ha haq => by
      have := ih (q + 1) left v a (by omega) (by omega) (by omega) hG ha haq
      rw [show d + 8 + m = d + 7 + m + 1 by omega] at this
      exact this) (fun r v' ho he hr => ⟨r, v', rfl, rfl, ho, he, hr⟩) (most + 1).toNat 0 0 v (a q) (by omega) (by omega) (Off.rf _ _) (by rw [ua_id]; exact hG.1) (fun _ _ _ => rfl) (Or.inl ⟨rfl, fun a'' hg hlt => by have := (hg.1 q q0 (by omega)).1; omega⟩)
    refine CB_of (loc266 q left p x) (E266_0 q left p x ?_)
    have e1 : v 164 2 = al 2 := by rw [hG.1]; exact cra_n (by omega)
    have e2 : v 164 (42 + 6 * q + p) = al (42 + 6 * q + p) := by rw [hG.1, cra_at hp6 (by omega), haq q (by omega) (by omega)]; omega
    rw [e1, e2]
    refine brbN (fun _ => rngI (by omega) (rngI (by omega) (rngI (by omega) (chkI (inbI (by omega) (by omega)) (brbN (fun z => rngI (by omega) (brbI (fun z2 => rngI (by omega) ?_) (fun z2 => ?_))) (fun z => ?_)))))) (fun z => absurd z (by omega))
    · exact hlp _ (Or.inr (Or.inr ⟨z, rfl, z2⟩))
    · exact hlp _ (Or.inr (Or.inl ⟨z, rfl, by omega⟩))
    · exact hlp _ (Or.inl ⟨z, rfl⟩)
theorem fe_loop {p x w X : Int} {Q : sQ} (v0 : sF) (hS : Sn (v0 164)) (hi : v0 163 18 = -1) (hp : 0 ≤ p ∧ p < v0 164 2) (hx : 0 ≤ x ∧ x < v0 164 1) (hw : w = 0 ∨ (10 ≤ w ∧ w - 10 < v0 164 2)) (hX1 : (∀ k : Int, 0 ≤ k → k ≤ 9 → fsN (v0 164) p x (v0 164 2).toNat 0 k (fun _ => 0)) → X = -1) (hX : ∀ n a, bestF (v0 164) p x n a → X = if w = 0 then n else a (w - 10)) (hQ : ∀ v', Off [168, 169, 171, 173] v0 v' → Q (some (0, X)) (c, v')) : ∀ (m : Nat) (n : Int) (v : sF), 0 ≤ n → n + m = 10 → Off [168, 169, 171, 173] v0 v → (∀ k : Int, 0 ≤ k → k < n → fsN (v0 164) p x (v0 164 2).toNat 0 k (fun _ => 0)) → Wp (Ev (d + 8 + (v0 164 2).toNat)) 0 (fun _ => 0) 267 Q 28 [(2, 163), (0, p), (0, x), (0, w), (0, n)] [] c v := by
  have h2 := hS.1.2.1
  intro m
  induction m with
  | zero =>
    intro n v n0 hn ho hno
    refine E267_28 _ _ _ _ (brbI (fun _ => ?_) (fun z => absurd z (by omega)))
    have := hQ v ho
    rw [hX1 (fun k k0 k1 => hno k k0 (by omega))] at this
    exact this
  | succ m ih =>
    intro n v n0 hn ho hno
    have ea := ho 164 (by decide)
    obtain ⟨r, v1, hE, hO, hav, hj, hr⟩ := C_goesFeeling (d := d) (c := c) hS hp hx (v0 164 2).toNat 0 n v (fun _ => 0) (by omega) (by omega) (by omega) ⟨by rw [cra_0 (fun _ _ _ => rfl)]; exact ea, by rw [ho 163 (by decide)]; exact hi⟩ (adF_0 hS (by omega)) (fun _ _ _ => rfl)
    have hO2 : Off [168, 169, 171, 173] v v1 := fun a ha => by
      by_cases e : a = 164
      · rw [e]; exact hav
      · exact hO a (fun q => by rcases List.mem_cons.1 q with q | q; exact e q; exact ha q)
    refine E267_28 _ _ _ _ (brbI (fun z => absurd z (by omega)) (fun _ => ⟨r, c, v1, hE, ?_⟩))
    rcases hr with ⟨rfl, a', hf, hfj⟩ | ⟨rfl, hf⟩
    · have hXe := hX n a' ⟨by omega, hf, hno⟩
      have hQ1 := hQ v1 (ho.tr hO2)
      refine brbI (fun z => absurd z (by decide)) (fun _ => brbN (fun z => rngI (by omega) (chkI (inbI (by omega) (by omega)) ?_)) (fun z => ?_))
      · rw [if_neg z] at hXe
        rw [hfj (w - 10) (by omega) (by omega), ← hXe]; exact hQ1
      · rw [if_pos z] at hXe
        rw [← hXe]; exact hQ1
    · refine brbI (fun _ => rngI (by omega) (ih (n + 1) v1 (by omega) (by omega) (ho.tr hO2) (fun k k0 k1 => ?_))) (fun z => absurd rfl z)
      by_cases e : k = n
      · rw [e]; exact hf
      · exact hno k k0 (by omega)
theorem M_feeling {v : sF} {p x w : Int} (hS : St (v 164)) (hi : v 163 18 = -1) (hwi : w ≤ 2147483647) (X : Int) (hX2 : ¬ (((0 ≤ p ∧ p < v 164 2) ∧ (0 ≤ x ∧ x < v 164 1)) ∧ (w = 0 ∨ (10 ≤ w ∧ w - 10 < v 164 2))) → X = -2) (hX1 : ((0 ≤ p ∧ p < v 164 2) ∧ (0 ≤ x ∧ x < v 164 1)) ∧ (w = 0 ∨ (10 ≤ w ∧ w - 10 < v 164 2)) → (∀ k : Int, 0 ≤ k → k ≤ 9 → fsN (v 164) p x (v 164 2).toNat 0 k (fun _ => 0)) → X = -1) (hX : ((0 ≤ p ∧ p < v 164 2) ∧ (0 ≤ x ∧ x < v 164 1)) ∧ (w = 0 ∨ (10 ≤ w ∧ w - 10 < v 164 2)) → ∀ n a, bestF (v 164) p x n a → X = if w = 0 then n else a (w - 10)) : ∃ v', Ev (d + 20) 267 [(2, 163), (0, p), (0, x), (0, w)] (c, v) (some (0, X)) (c, v') ∧ QM v v' := by
  have hq := QM.t0 v 0
  have h1 := hS.1.1
  have h2 := hS.1.2.1
  have ea := hq.al
  have hw := C_isWayM (d := d + 16) (c := c) (v := up v 163 0 0) (x := p) (y := x) (by rw [ea]; omega) (by rw [ea]; omega)
  have hcp := C_isTold (d := d + 16) (c := c) (v := up v 163 0 0) (x := w) hwi (by rw [ea]; omega)
  rw [ea] at hw hcp
  refine CI_of (loc267 p x w) (E267_0 p x w ⟨_, c, _, hw, bfz (fun h => ⟨by rw [hX2 (fun z => h z.1)], _, rfl, hq⟩) (fun h => ⟨_, c, _, hcp, bfi (fun h3 => ?_) (fun h3 => ⟨by rw [hX2 (fun z => h3 z.2)], _, rfl, hq⟩)⟩)⟩)
  have := fe_loop (d := d + 11 - (v 164 2).toNat) (c := c) (p := p) (x := x) (w := w) (X := X) (Q := fun r μ => r = some (0, X) ∧ ∃ v', μ = (c, v') ∧ QM v v') (up v 163 0 0) (by rw [ea]; exact hS.n) (by rw [hq.idle]; exact hi) (by rw [ea]; exact h.1) (by rw [ea]; exact h.2) (by rw [ea]; exact h3) (by rw [ea]; exact hX1 ⟨h, h3⟩) (by rw [ea]; exact hX ⟨h, h3⟩) (fun v' ho => ⟨rfl, _, rfl, hq.tr (QM.of ho (by decide))⟩) 10 0 _ (by omega) (by omega) (Off.rf _ _) (fun k k0 k1 => absurd k0 (by omega))
  rw [ea, show d + 11 - (v 164 2).toNat + 8 + (v 164 2).toNat = d + 19 by omega] at this
  exact this
end Fee2
