section Qry1
variable {d c : Nat}
theorem bfi {C : Prop} [Decidable C] {P Q : Prop} (h1 : C → P) (h2 : ¬ C → Q) : brb (!decide ((if C then (1 : Int) else 0) = 0)) P Q := by
  by_cases h : C
  · rw [if_pos h]; exact h1 h
  · rw [if_neg h]; exact h2 h
theorem bfz {C : Prop} [Decidable C] {P Q : Prop} (h1 : ¬ C → P) (h2 : C → Q) : brb (decide ((if C then (1 : Int) else 0) = 0)) P Q := by
  by_cases h : C
  · rw [if_pos h]; exact h2 h
  · rw [if_neg h]; exact h1 h
/-- whether a letter is given, by bits; what letters are -/
def okLt (al : Int → Int) : Prop := (0 ≤ al 28 ∧ al 28 ≤ 6) ∧ (0 ≤ al 29 ∧ al 29 < 64) ∧ 0 ≤ al 27 ∧ (∀ l : Int, al 28 ≤ l → l < 6 → isG al l = false) ∧ ∀ l : Int, 0 ≤ l → l < al 28 → (0 ≤ al (84 + l) ∧ al (84 + l) < al 2) ∧ (0 ≤ al (78 + l) ∧ al (78 + l) < al 1) ∧ (0 ≤ al (90 + l) ∧ al (90 + l) ≤ al 27) ∧ (isG al l = true → 0 ≤ al (96 + l) ∧ al (96 + l) ≤ al 27) ∧ (isG al l = false → al (78 + l) ≠ al (30 + al (84 + l)))
def St (al : Int → Int) : Prop := okT al ∧ okN al ∧ okLt al
def Sn (al : Int → Int) : Prop := okT al ∧ okN al
theorem St.n {al : Int → Int} (h : St al) : Sn al := ⟨h.1, h.2.1⟩
/-- the class's cells that questions write -/
def scX : List Int := [7, 11, 12, 140, 141, 142, 143, 144, 145, 146, 147, 148, 149, 150, 154]
/-- the model's -/
def scM : List Int := [163, 168, 169, 170, 171, 172, 173, 174, 175, 176, 177, 178]
def QM (v v' : sF) : Prop := Off scM v v' ∧ ∀ k : Int, k ≠ 0 → v' 163 k = v 163 k
theorem QM.rf (v : sF) : QM v v := ⟨Off.rf _ v, fun _ _ => rfl⟩
theorem QM.t0 (v : sF) (x : Int) : QM v (up v 163 0 x) := ⟨(Off.rf _ v).up (by decide), fun _ hk => up_ne v hk⟩
theorem QM.tr {v v1 v2 : sF} (h1 : QM v v1) (h2 : QM v1 v2) : QM v v2 := ⟨h1.1.tr h2.1, fun k hk => (h2.2 k hk).trans (h1.2 k hk)⟩
theorem QM.of {S : List Int} {v v1 : sF} (h : Off S v v1) (hs : ∀ x ∈ S, x ∈ scM ∧ x ≠ 163) : QM v v1 := ⟨h.wk (fun x hx => (hs x hx).1), fun k _ => by rw [h 163 (fun q => (hs 163 q).2 rfl)]⟩
theorem QM.al {v v1 : sF} (h : QM v v1) : v1 164 = v 164 := h.1 164 (by decide)
theorem QM.idle {v v1 : sF} (h : QM v v1) : v1 163 18 = v 163 18 := h.2 18 (by decide)
theorem C_isPersonX {v : sF} {x : Int} : Ev (d + 1) 160 [(2, 1), (0, x)] (c, v) (some (0, if 0 ≤ x ∧ x < v 3 1 then 1 else 0)) (c, v) := by
  refine Ev_of (loc160 x) (E160_0 x (brbI (fun h => ⟨by rw [if_neg (by omega)], rfl⟩) (fun h => brbI (fun h2 => ⟨by rw [if_neg (by omega)], rfl⟩) (fun h2 => ⟨by rw [if_pos (by omega)], rfl⟩))))
theorem C_isPlaceX {v : sF} {x : Int} : Ev (d + 1) 161 [(2, 1), (0, x)] (c, v) (some (0, if 0 ≤ x ∧ x < v 3 0 then 1 else 0)) (c, v) := by
  refine Ev_of (loc161 x) (E161_0 x (brbI (fun h => ⟨by rw [if_neg (by omega)], rfl⟩) (fun h => brbI (fun h2 => ⟨by rw [if_neg (by omega)], rfl⟩) (fun h2 => ⟨by rw [if_pos (by omega)], rfl⟩))))
theorem C_isWayX {v : sF} {x y : Int} : Ev (d + 2) 162 [(2, 1), (0, x), (0, y)] (c, v) (some (0, if (0 ≤ x ∧ x < v 3 1) ∧ (0 ≤ y ∧ y < v 3 0) then 1 else 0)) (c, v) := by
  refine Ev_of (loc162 x y) (E162_0 x y ⟨_, c, v, C_isPersonX, bfz (fun h => ⟨by rw [if_neg (fun q => h q.1)], rfl⟩) (fun h => ⟨_, c, v, C_isPlaceX, bfz (fun h2 => ⟨by rw [if_neg (fun q => h2 q.2)], rfl⟩) (fun h2 => ⟨by rw [if_pos ⟨h, h2⟩], rfl⟩)⟩)⟩)
theorem C_areTwoX {v : sF} {x y : Int} : Ev (d + 2) 163 [(2, 1), (0, x), (0, y)] (c, v) (some (0, if (0 ≤ x ∧ x < v 3 1) ∧ (0 ≤ y ∧ y < v 3 1) ∧ x ≠ y then 1 else 0)) (c, v) := by
  refine Ev_of (loc163 x y) (E163_0 x y ⟨_, c, v, C_isPersonX, bfz (fun h => ⟨by rw [if_neg (fun q => h q.1)], rfl⟩) (fun h => ⟨_, c, v, C_isPersonX, bfz (fun h2 => ⟨by rw [if_neg (fun q => h2 q.2.1)], rfl⟩) (fun h2 => brbI (fun h3 => ⟨by rw [if_neg (fun q => q.2.2 h3)], rfl⟩) (fun h3 => ⟨by rw [if_pos ⟨h, h2, h3⟩], rfl⟩))⟩)⟩)
theorem C_aimX {v : sF} {p : Int} {al : Int → Int} (hS : St al) (hR : CR v 13 al) (hp : 0 ≤ p ∧ p < al 2) : ∃ v', Ev (d + 6) 87 [(2, 140), (2, 13), (0, p)] (c, v) none (c, v') ∧ Off cW v v' ∧ CR v' 13 al ∧ WG v' al p (-1) (-1) ∧ WN v' (nxA al (-1) p) (al 1) (al (30 + p)) ∧ v' 140 1 = 13 := by
  have h6 := hS.1.2.1
  obtain ⟨v1, hE, hO, hW⟩ := C_aim (d := d) (c := c) (Or.inl rfl) hS.1 hS.2.1 hR (show 0 ≤ p ∧ p < 6 by omega)
  have hR1 := hR.w (Or.inl rfl) hO
  exact ⟨v1, hE, hO, hR1, hW.g hR1, (hW.g hR1).n hS.1 (by omega), hW.1⟩
theorem C_laysM {v : sF} {p : Int} (hS : Sn (v 164)) (hp : 0 ≤ p ∧ p < v 164 2) : ∃ v', Ev (d + 6) 244 [(2, 163), (0, p)] (c, v) none (c, v') ∧ Off [168, 169, 171] v v' ∧ MN v' (nxA (v 164) (v 163 18) p) (v 164 1) := by
  have h6 := hS.1.2.1
  obtain ⟨v1, hE, hO, hx⟩ := C_laysNext (d := d) (c := c) hS.1 hS.2 (show 0 ≤ p ∧ p < 6 by omega)
  exact ⟨v1, hE, hO, nx_gd hS.1 _ (by omega), hx⟩
theorem oX {v v' : sF} (h : Off cW v v') : Off scX v v' := h.wk (by decide)
theorem oM {v v' : sF} (h : Off [168, 169, 171] v v') : QM v v' := QM.of h (by decide)
theorem oM2 {v v' : sF} (h : Off [168, 169] v v') : QM v v' := QM.of h (by decide)
theorem CR.p {v : sF} {a : Int} {al : Int → Int} (h : CR v a al) : v 3 0 = al 1 ∧ v 3 1 = al 2 := ⟨h.1.1, h.1.2.1⟩
/-- lies -/
def q_lies (al : Int → Int) (p x n : Int) : Int := if (0 ≤ p ∧ p < al 2) ∧ (0 ≤ x ∧ x < al 1) then (if 0 ≤ n ∧ n ≤ 99999 then itf (nxA al (-1) p) n.toNat x else -3) else -2
theorem X_lies {v : sF} {al : Int → Int} {p x n : Int} (hS : St al) (hR : CR v 13 al) : ∃ v', Ev (d + 9) 129 [(2, 1), (0, p), (0, x), (0, n)] (c, v) (some (0, q_lies al p x n)) (c, v') ∧ Off scX v v' := by
  have hw := C_isWayX (d := d + 6) (c := c) (v := v) (x := p) (y := x)
  rw [hR.p.1, hR.p.2] at hw
  refine CI_of (loc129 p x n) (E129_0 p x n ⟨_, c, v, hw, bfi (fun h => ?_) (fun h => ⟨by unfold q_lies; rw [if_neg h], _, rfl, Off.rf _ v⟩)⟩)
  refine brbI (fun h1 => ⟨by unfold q_lies; rw [if_pos h, if_neg (by omega)], _, rfl, Off.rf _ v⟩) (fun h1 => brbI (fun h2 => ?_) (fun h2 => ⟨by unfold q_lies; rw [if_pos h, if_neg (by omega)], _, rfl, Off.rf _ v⟩))
  obtain ⟨v1, hE, hO, hR1, hG, hN, _⟩ := C_aimX (d := d + 2) (c := c) hS hR h.1
  have hE2 := C_placeIn (d := d + 5) (c := c) (n := n.toNat) hN h.2 (by omega)
  rw [show ((n.toNat : Nat) : Int) = n by omega] at hE2
  exact ⟨c, v1, hE, _, c, v1, hE2, by unfold q_lies; rw [if_pos h, if_pos (by omega)], _, rfl, oX hO⟩
theorem M_lies {v : sF} {p x n : Int} (hS : St (v 164)) (hi : v 163 18 = -1) : ∃ v', Ev (d + 9) 247 [(2, 163), (0, p), (0, x), (0, n)] (c, v) (some (0, q_lies (v 164) p x n)) (c, v') ∧ QM v v' := by
  have hq := QM.t0 v 0
  have h1 := hS.1.1
  have h2 := hS.1.2.1
  have ea := hq.al
  have ei := hq.idle
  have hw := C_isWayM (d := d + 5) (c := c) (v := up v 163 0 0) (x := p) (y := x) (by rw [ea]; omega) (by rw [ea]; omega)
  rw [ea] at hw
  refine CI_of (loc247 p x n) (E247_0 p x n ⟨_, c, _, hw, bfi (fun h => ?_) (fun h => ⟨by unfold q_lies; rw [if_neg h], _, rfl, hq⟩)⟩)
  refine ⟨_, c, _, C_within _ _ _, bfi (fun h3 => ?_) (fun h3 => ⟨by unfold q_lies; rw [if_pos h, if_neg h3], _, rfl, hq⟩)⟩
  obtain ⟨v1, hE, hO, hN⟩ := C_laysM (d := d + 2) (c := c) (v := up v 163 0 0) (p := p) (by rw [ea]; exact hS.n) (by rw [ea]; exact h.1)
  rw [ea, ei, hi] at hN
  have hE2 := C_lies (d := d + 7) (c := c) (n := n.toNat) hN h.2 (by omega)
  rw [show ((n.toNat : Nat) : Int) = n by omega] at hE2
  exact ⟨c, v1, hE, _, c, v1, hE2, by unfold q_lies; rw [if_pos h, if_pos h3], _, rfl, hq.tr (oM hO)⟩
/-- comes -/
def q_com (al : Int → Int) (idle p x : Int) : Int := cmo (nxA al idle p) (al (30 + p)) (al 1).toNat 0 x
def q_comes (al : Int → Int) (p x : Int) : Int := if (0 ≤ p ∧ p < al 2) ∧ (0 ≤ x ∧ x < al 1) then q_com al (-1) p x else -2
theorem C_comesNow {v : sF} {p x : Int} (hS : Sn (v 164)) (hp : 0 ≤ p ∧ p < v 164 2) (hx : 0 ≤ x ∧ x < v 164 1) : ∃ v', Ev (d + 7) 249 [(2, 163), (0, p), (0, x)] (c, v) (some (0, q_com (v 164) (v 163 18) p x)) (c, v') ∧ Off [168, 169, 171] v v' := by
  have h2 := hS.1.2.1
  obtain ⟨v1, hE, hO, hN⟩ := C_laysM (d := d) (c := c) (v := v) hS hp
  have hE2 := C_comesIn (d := d + 5) (c := c) hN (to := p) (by omega) hx
  rw [hO 164 (by decide)] at hE2
  exact CI_of (loc249 p x) (E249_0 p x ⟨c, v1, hE, _, c, v1, hE2, rfl, _, rfl, hO⟩)
theorem X_comes {v : sF} {al : Int → Int} {p x : Int} (hS : St al) (hR : CR v 13 al) : ∃ v', Ev (d + 9) 130 [(2, 1), (0, p), (0, x)] (c, v) (some (0, q_comes al p x)) (c, v') ∧ Off scX v v' := by
  have hw := C_isWayX (d := d + 6) (c := c) (v := v) (x := p) (y := x)
  rw [hR.p.1, hR.p.2] at hw
  refine CI_of (loc130 p x) (E130_0 p x ⟨_, c, v, hw, bfi (fun h => ?_) (fun h => ⟨by unfold q_comes; rw [if_neg h], _, rfl, Off.rf _ v⟩)⟩)
  obtain ⟨v1, hE, hO, hR1, hG, hN, _⟩ := C_aimX (d := d + 2) (c := c) hS hR h.1
  exact ⟨c, v1, hE, _, c, v1, C_dtg (d := d + 5) (c := c) hN h.2, by unfold q_comes; rw [if_pos h]; rfl, _, rfl, oX hO⟩
theorem M_comes {v : sF} {p x : Int} (hS : St (v 164)) (hi : v 163 18 = -1) : ∃ v', Ev (d + 9) 250 [(2, 163), (0, p), (0, x)] (c, v) (some (0, q_comes (v 164) p x)) (c, v') ∧ QM v v' := by
  have hq := QM.t0 v 0
  have h1 := hS.1.1
  have h2 := hS.1.2.1
  have ea := hq.al
  have ei := hq.idle
  have hw := C_isWayM (d := d + 5) (c := c) (v := up v 163 0 0) (x := p) (y := x) (by rw [ea]; omega) (by rw [ea]; omega)
  rw [ea] at hw
  refine CI_of (loc250 p x) (E250_0 p x ⟨_, c, _, hw, bfz (fun h => ⟨by unfold q_comes; rw [if_neg h], _, rfl, hq⟩) (fun h => ?_)⟩)
  obtain ⟨v1, hE, hO⟩ := C_comesNow (d := d + 1) (c := c) (v := up v 163 0 0) (p := p) (x := x) (by rw [ea]; exact hS.n) (by rw [ea]; exact h.1) (by rw [ea]; exact h.2)
  rw [ea, ei, hi] at hE
  exact ⟨_, c, v1, hE, by unfold q_comes; rw [if_pos h], _, rfl, hq.tr (oM hO)⟩
/-- ends -/
theorem rg_tgt {al : Int → Int} (hT : okT al) {p x : Int} (hp : 0 ≤ p ∧ p < 6) (hx : 0 ≤ x ∧ x < al 1) {mu la : Nat} (hr : Rho (nxA al (-1) p) x (al 1) mu la) (ht : 0 ≤ al (30 + p) ∧ al (30 + p) < al 1) : (rgB (nxA al (-1) p) x = ishl 1 (al (30 + p)) ↔ itf (nxA al (-1) p) mu x = al (30 + p)) ∧ (nxA al (-1) p (itf (nxA al (-1) p) mu x) = itf (nxA al (-1) p) mu x ↔ la = 1) := by
  have hg := nx_gd hT (-1) hp
  have hN := hg.1
  have h1 := hr.1
  have hfix : nxA al (-1) p (al (30 + p)) = al (30 + p) := by unfold nxA; rw [if_pos rfl]
  have hfixn : ∀ n, itf (nxA al (-1) p) n (al (30 + p)) = al (30 + p) := fun n => by
    induction n with
    | zero => rfl
    | succ n ih => rw [itf_succ, ih, hfix]
  refine ⟨⟨fun h => ?_, fun h => ?_⟩, ⟨fun h => ?_, fun h => ?_⟩⟩
  · have hk : ∀ y : Fin 6, tb (ishl 1 ((y.val : Nat) : Int)) ((y.val : Nat) : Int) = true := by decide +kernel
    have hk := hk ⟨(al (30 + p)).toNat, by omega⟩
    (try dsimp only at hk)
    rw [show (((al (30 + p)).toNat : Nat) : Int) = al (30 + p) by omega, ← h] at hk
    obtain ⟨n, q1, q2⟩ := (rg_tb hg hx hr (j := al (30 + p)) (by omega)).1 hk
    have e := hfixn (la * n + mu - n)
    rw [← q2, ← itf_add] at e
    rw [← hr.perk n mu (Nat.le_refl mu)]
    have hle : n ≤ la * n := Nat.le_mul_of_pos_left n h1
    rw [show n + (la * n + mu - n) = mu + la * n by omega, q2] at e
    exact e
  · have e6 : itf (nxA al (-1) p) 6 x = al (30 + p) := by
      have h2 := hr.2.1
      rw [show 6 = mu + (6 - mu) by omega, itf_add, h, hfixn]
    have ho : ∀ n, itf (nxA al (-1) p) n (al (30 + p)) = al (30 + p) := hfixn
    unfold rgB
    rw [e6]
    have hz : ∀ n, orb (nxA al (-1) p) (al (30 + p)) (n + 1) = ishl 1 (al (30 + p)) := fun n => by
      have hk : ∀ y : Fin 6, ior 0 (ishl 1 ((y.val : Nat) : Int)) = ishl 1 ((y.val : Nat) : Int) ∧ ior (ishl 1 ((y.val : Nat) : Int)) (ishl 1 ((y.val : Nat) : Int)) = ishl 1 ((y.val : Nat) : Int) := by decide +kernel
      have hk := hk ⟨(al (30 + p)).toNat, by omega⟩
      (try dsimp only at hk)
      rw [show (((al (30 + p)).toNat : Nat) : Int) = al (30 + p) by omega] at hk
      induction n with
      | zero => rw [orb_s, ho]; exact hk.1
      | succ n ih => rw [orb_s, ho, ih]; exact hk.2
    exact hz 5
  · refine Decidable.byContradiction fun q => ?_
    refine hr.2.2.2 mu (mu + 1) (by omega) (by omega) ?_
    rw [itf_succ, h]
  · have := hr.2.2.1
    rw [h, itf_succ] at this
    exact this
def e_mu (g : Int → Int) (N x : Int) (mu la : Nat) : Prop := Rho g x N mu la
theorem rho_uniq {g : Int → Int} {x N : Int} {mu la mu' la' : Nat} (h : Rho g x N mu la) (h' : Rho g x N mu' la') : mu = mu' ∧ la = la' := by
  have key : ∀ {mu la mu' la' : Nat}, Rho g x N mu la → Rho g x N mu' la' → mu ≤ mu' := fun {mu la mu' la'} h h' => by
    refine Decidable.byContradiction fun q => ?_
    exact h.sep (m := mu') (n := mu' + la') (by omega) (by have := h'.1; omega) h'.2.2.1.symm
  have e : mu = mu' := Nat.le_antisymm (key h h') (key h' h)
  subst e
  refine ⟨rfl, ?_⟩
  rcases Nat.lt_trichotomy la la' with q | q | q
  · exact absurd h.2.2.1.symm (h'.2.2.2 mu (mu + la) (by have := h.1; omega) (by omega))
  · exact q
  · exact absurd h'.2.2.1.symm (h.2.2.2 mu (mu + la') (by have := h'.1; omega) (by omega))
/-- what is answered, by tail and ring -/
def q_end (al : Int → Int) (p x what : Int) (mu la : Nat) : Int := if what = 0 then (if itf (nxA al (-1) p) mu x = al (30 + p) then 0 else if la = 1 then 1 else 2) else if what = 1 then (la : Int) else if what = 2 then (mu : Int) else itf (nxA al (-1) p) mu x
theorem X_ends {v : sF} {al : Int → Int} {p x w : Int} (hS : St al) (hR : CR v 13 al) (X : Int) (hX : ∀ mu la, (((0 ≤ p ∧ p < al 2) ∧ (0 ≤ x ∧ x < al 1)) ∧ (0 ≤ w ∧ w ≤ 3) → Rho (nxA al (-1) p) x (al 1) mu la → X = q_end al p x w mu la)) (hX2 : ¬ (((0 ≤ p ∧ p < al 2) ∧ (0 ≤ x ∧ x < al 1)) ∧ (0 ≤ w ∧ w ≤ 3)) → X = -2) : ∃ v', Ev (d + 9) 131 [(2, 1), (0, p), (0, x), (0, w)] (c, v) (some (0, X)) (c, v') ∧ Off scX v v' := by
  have h6 := hS.1.2.1
  have hw := C_isWayX (d := d + 6) (c := c) (v := v) (x := p) (y := x)
  rw [hR.p.1, hR.p.2] at hw
  refine CI_of (loc131 p x w) (E131_0 p x w ⟨_, c, v, hw, bfz (fun h => ⟨by rw [hX2 (fun q => h q.1)], _, rfl, Off.rf _ v⟩) (fun h => ?_)⟩)
  refine brbI (fun h1 => ⟨by rw [hX2 (fun q => by omega)], _, rfl, Off.rf _ v⟩) (fun h1 => brbI (fun h2 => ?_) (fun h2 => ⟨by rw [hX2 (fun q => by omega)], _, rfl, Off.rf _ v⟩))
  obtain ⟨v1, hE, hO, hR1, hG, hN, _⟩ := C_aimX (d := d + 2) (c := c) hS hR h.1
  obtain ⟨mu, la, hr⟩ := rho hN.2.1 h.2
  have hX := hX mu la ⟨h, by omega⟩ hr
  have ht := (hS.2.1.1 p h.1.1 (by omega)).1
  have htg := rg_tgt hS.1 (by omega) h.2 hr ht
  have hb := rg_rng hN.2.1 h.2
  have hbc := C_bitCount (d := d + 7) (c := c) (v := v1) hb.1 hb.2
  rw [rg_cnt hN.2.1 h.2 hr] at hbc
  refine ⟨c, v1, hE, _, c, v1, C_ringBits (d := d + 4) hN h.2, _, c, v1, hbc, ?_⟩
  rw [hN.1.2.2]
  unfold q_end at hX
  refine brbI (fun h3 => brbN (fun h4 => ?_) (fun h4 => ?_)) (fun h3 => brbI (fun h4 => ?_) (fun h4 => brbI (fun h5 => ?_) (fun h5 => ?_)))
  · have h4 := fun q => h4 (htg.1.2 q)
    rw [if_pos h3, if_neg h4] at hX
    refine brbN (fun h5 => ⟨?_, _, rfl, oX hO⟩) (fun h5 => ⟨?_, _, rfl, oX hO⟩)
    · rw [hX, if_neg (by omega)]
    · rw [hX, if_pos (by omega)]
  · rw [if_pos h3, if_pos (htg.1.1 h4)] at hX
    exact ⟨by rw [hX], _, rfl, oX hO⟩
  · rw [if_neg h3, if_pos h4] at hX
    exact ⟨by rw [hX], _, rfl, oX hO⟩
  · rw [if_neg h3, if_neg h4, if_pos h5] at hX
    exact ⟨_, c, v1, C_daysTillIn (d := d + 5) hN h.2 hr, by rw [hX], _, rfl, oX hO⟩
  · rw [if_neg h3, if_neg h4, if_neg h5] at hX
    have h2 := hr.2.1
    have := hN.2.1.1
    exact ⟨_, c, v1, C_daysTillIn (d := d + 5) hN h.2 hr, _, c, v1, C_placeIn (d := d + 5) hN h.2 (by omega), by rw [hX], _, rfl, oX hO⟩
theorem M_ends {v : sF} {p x w : Int} (hS : St (v 164)) (hi : v 163 18 = -1) (X : Int) (hX : ∀ mu la, (((0 ≤ p ∧ p < v 164 2) ∧ (0 ≤ x ∧ x < v 164 1)) ∧ (0 ≤ w ∧ w ≤ 3) → Rho (nxA (v 164) (-1) p) x (v 164 1) mu la → X = q_end (v 164) p x w mu la)) (hX2 : ¬ (((0 ≤ p ∧ p < v 164 2) ∧ (0 ≤ x ∧ x < v 164 1)) ∧ (0 ≤ w ∧ w ≤ 3)) → X = -2) : ∃ v', Ev (d + 9) 254 [(2, 163), (0, p), (0, x), (0, w)] (c, v) (some (0, X)) (c, v') ∧ QM v v' := by
  have hq := QM.t0 v 0
  have h1 := hS.1.1
  have h2 := hS.1.2.1
  have ea := hq.al
  have ei := hq.idle
  have hw := C_isWayM (d := d + 5) (c := c) (v := up v 163 0 0) (x := p) (y := x) (by rw [ea]; omega) (by rw [ea]; omega)
  rw [ea] at hw
  refine CI_of (loc254 p x w) (E254_0 p x w ⟨_, c, _, hw, bfz (fun h => ⟨by rw [hX2 (fun q => h q.1)], _, rfl, hq⟩) (fun h => ?_)⟩)
  refine ⟨_, c, _, C_within _ _ _, bfi (fun h3 => ?_) (fun h3 => ⟨by rw [hX2 (fun q => h3 q.2)], _, rfl, hq⟩)⟩
  obtain ⟨v1, hE, hO, hN⟩ := C_laysM (d := d + 2) (c := c) (v := up v 163 0 0) (p := p) (by rw [ea]; exact hS.n) (by rw [ea]; exact h.1)
  rw [ea, ei, hi] at hN
  have e1 : v1 164 = v 164 := (hO 164 (by decide)).trans ea
  have hqq := hq.tr (oM hO)
  obtain ⟨mu, la, hr⟩ := rho hN.1 h.2
  have hX := hX mu la ⟨h, h3⟩ hr
  have ht := (hS.2.1.1 p h.1.1 (by omega)).1
  have htg := rg_tgt hS.1 (by omega) h.2 hr ht
  have hb := hr.2.1
  have hNN := hN.1.1
  have hy := hN.1.it mu h.2
  unfold q_end at hX
  refine ⟨c, v1, hE, _, c, v1, C_tailOf (d := d + 6) hN h.2 hr, _, c, v1, C_lies (d := d + 7) hN h.2 (by omega), ?_⟩
  rw [e1]
  refine brbI (fun h4 => rngI (by omega) (chkI (inbI (by omega) (by omega)) (brbN (fun h5 => chkI (inbI (by omega) (by omega)) ?_) (fun h5 => ?_)))) (fun h4 => brbI (fun h5 => ?_) (fun h5 => brbI (fun h6 => ?_) (fun h6 => ?_)))
  · rw [hN.2 _ hy.1 hy.2]
    rw [if_pos h4, if_neg h5] at hX
    refine brbN (fun h7 => ⟨?_, _, rfl, hqq⟩) (fun h7 => ⟨?_, _, rfl, hqq⟩)
    · rw [hX, if_neg (fun q => h7 (htg.2.2 q))]
    · rw [hX, if_pos (htg.2.1 h7)]
  · rw [if_pos h4, if_pos h5] at hX
    exact ⟨by rw [hX], _, rfl, hqq⟩
  · rw [if_neg h4, if_pos h5] at hX
    exact ⟨_, c, v1, C_lengthOf (d := d + 7) hN hy (hr.shift (Nat.le_refl mu)), by rw [hX], _, rfl, hqq⟩
  · rw [if_neg h4, if_neg h5, if_pos h6] at hX
    exact ⟨by rw [hX], _, rfl, hqq⟩
  · rw [if_neg h4, if_neg h5, if_neg h6] at hX
    exact ⟨by rw [hX], _, rfl, hqq⟩
end Qry1
