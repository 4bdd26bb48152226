section Fee1
variable {d c : Nat}
/-- feelings aroused -/
def cra (al : Int → Int) (p : Int) (a : Int → Int) : Int → Int := fun k => if 42 ≤ k ∧ k < 78 ∧ (k - 42) % 6 = p then al k + a ((k - 42) / 6) else al k
theorem cra_at {al a : Int → Int} {p r : Int} (hp : 0 ≤ p ∧ p < 6) (hr : 0 ≤ r ∧ r < 6) : cra al p a (42 + 6 * r + p) = al (42 + 6 * r + p) + a r := by
  unfold cra
  rw [if_pos (by omega)]
  congr 2
  omega
theorem cra_n {al a : Int → Int} {p k : Int} (h : k < 42 ∨ 78 ≤ k) : cra al p a k = al k := by unfold cra; rw [if_neg (by omega)]
theorem cra_ua {al a : Int → Int} {p q : Int} (hp : 0 ≤ p ∧ p < 6) (hq : 0 ≤ q ∧ q < 6) (n : Int) : ua (cra al p a) (42 + 6 * q + p) (al (42 + 6 * q + p) + n) = cra al p (ua a q n) := by
  funext k
  by_cases e : k = 42 + 6 * q + p
  · rw [e, ua_s, cra_at hp hq, ua_s]
  · rw [ua_n e]
    unfold cra
    by_cases h : 42 ≤ k ∧ k < 78 ∧ (k - 42) % 6 = p
    · rw [if_pos h, if_pos h, ua_n (by omega)]
    · rw [if_neg h, if_neg h]
theorem cra_0 {al a : Int → Int} {p : Int} (h : ∀ r : Int, 0 ≤ r → r < 6 → a r = 0) : cra al p a = al := by
  funext k
  unfold cra
  split
  · rw [h _ (by omega) (by omega)]; omega
  · rfl
theorem sameT_cra (al : Int → Int) (p : Int) (a : Int → Int) : sameT al (cra al p a) := fun k hk => cra_n (by omega)
def adF (al : Int → Int) (p : Int) (a : Int → Int) : Prop := ∀ r : Int, 0 ≤ r → r < 6 → (0 ≤ a r ∧ al (42 + 6 * r + p) + a r ≤ 9) ∧ (a r ≠ 0 → r < al 2 ∧ r ≠ p)
theorem Sn_cra {al a : Int → Int} {p : Int} (hp : 0 ≤ p ∧ p < 6) (h : Sn al) (ha : adF al p a) : Sn (cra al p a) := by
  refine ⟨okT_cg (sameT_cra al p a) h.1, fun q q0 q1 => ?_, fun i i0 i1 => ?_⟩
  · rw [cra_n (show (1 : Int) < 42 ∨ (78 : Int) ≤ 1 by omega), cra_n (show 30 + q < 42 ∨ 78 ≤ 30 + q by omega), cra_n (show 36 + q < 42 ∨ 78 ≤ 36 + q by omega)]
    exact h.2.1 q q0 q1
  · have h3 := h.2.2 i i0 i1
    by_cases e : i % 6 = p
    · have har := (ha (i / 6) (by omega) (by omega)).1
      have e2 : 42 + i = 42 + 6 * (i / 6) + p := by omega
      rw [e2, cra_at hp (by omega), ← e2]
      rw [← e2] at har
      omega
    · have : cra al p a (42 + i) = al (42 + i) := by unfold cra; rw [if_neg (by omega)]
      rw [this]; exact h3
def smF (a : Int → Int) : Nat → Int → Int
  | 0, _ => 0
  | m + 1, q => a q + smF a m (q + 1)
theorem smF_s (a : Int → Int) (m : Nat) (q : Int) : smF a (m + 1) q = a q + smF a m (q + 1) := rfl
theorem smF_nn {a : Int → Int} : ∀ (m : Nat) (q : Int), (∀ r : Int, q ≤ r → r < q + m → 0 ≤ a r) → 0 ≤ smF a m q := by
  intro m
  induction m with
  | zero => intro q _; show (0 : Int) ≤ 0; decide
  | succ m ih => intro q h; rw [smF_s]; have h1 := h q (by omega) (by omega); have h2 := ih (q + 1) (fun r r0 r1 => h r (by omega) (by omega)); omega
def goF (al : Int → Int) (p q : Int) (a a' : Int → Int) : Prop := adF al p a' ∧ ∀ r : Int, 0 ≤ r → r < q → a' r = a r
def cmF (al : Int → Int) (p x : Int) (a : Int → Int) : Prop := q_com (cra al p a) (-1) p x ≠ -1
/-- the first one, or none -/
def fsR (al : Int → Int) (p x : Int) (m : Nat) (q left : Int) (a a' : Int → Int) : Prop := goF al p q a a' ∧ smF a' m q = left ∧ cmF al p x a' ∧ ∀ a'', goF al p q a a'' → smF a'' m q = left → cmF al p x a'' → lx a' a'' m q
def fsN (al : Int → Int) (p x : Int) (m : Nat) (q left : Int) (a : Int → Int) : Prop := ∀ a'', goF al p q a a'' → smF a'' m q = left → ¬ cmF al p x a''
theorem adF.p {al a : Int → Int} {p : Int} (h : adF al p a) (hp : 0 ≤ p ∧ p < 6) : a p = 0 := Classical.byContradiction fun z => ((h p hp.1 hp.2).2 z).2 rfl
theorem cra_eq {al a a' : Int → Int} {p : Int} (h : ∀ r : Int, 0 ≤ r → r < 6 → a' r = a r) : cra al p a' = cra al p a := by
  funext k
  unfold cra
  split
  · rw [h _ (by omega) (by omega)]
  · rfl
theorem goF_end {al a a' : Int → Int} {p q : Int} (ha : adF al p a) (hq : q = al 2) (hg : goF al p q a a') : ∀ r : Int, 0 ≤ r → r < 6 → a' r = a r := fun r r0 r1 => by
  by_cases e : r < q
  · exact hg.2 r r0 e
  · have e1 : a' r = 0 := Classical.byContradiction fun z => by have := ((hg.1 r r0 r1).2 z).1; omega
    have e2 : a r = 0 := Classical.byContradiction fun z => by have := ((ha r r0 r1).2 z).1; omega
    rw [e1, e2]
/-- the steps of both searches -/
theorem fs_p {al a : Int → Int} {p x q left : Int} {m : Nat} (hp : 0 ≤ p ∧ p < 6) (ha : a q = 0) (hq : q = p) (h0 : 0 ≤ q) : (∀ a', fsR al p x m (q + 1) left a a' → fsR al p x (m + 1) q left a a') ∧ (fsN al p x m (q + 1) left a → fsN al p x (m + 1) q left a) := by
  have hgo : ∀ a'', goF al p q a a'' ↔ goF al p (q + 1) a a'' := fun a'' => ⟨fun z => ⟨z.1, fun r r0 r1 => by
      by_cases e : r = q
      · rw [e, ha, hq]; exact z.1.p hp
      · exact z.2 r r0 (by omega)⟩, fun z => ⟨z.1, fun r r0 r1 => z.2 r r0 (by omega)⟩⟩
  have hsm : ∀ a'', goF al p (q + 1) a a'' → smF a'' (m + 1) q = smF a'' m (q + 1) := fun a'' hg => by rw [smF_s, hg.2 q h0 (by omega), ha]; omega
  refine ⟨fun a' h => ⟨(hgo a').2 h.1, by rw [hsm a' h.1]; exact h.2.1, h.2.2.1, fun a'' hg hs hc => Or.inr ⟨?_, ?_⟩⟩, fun h a'' hg hs => h a'' ((hgo a'').1 hg) (by rw [← hsm a'' ((hgo a'').1 hg)]; exact hs)⟩
  · rw [h.1.2 q h0 (by omega), ((hgo a'').1 hg).2 q h0 (by omega)]
  · exact h.2.2.2 a'' ((hgo a'').1 hg) (by rw [← hsm a'' ((hgo a'').1 hg)]; exact hs) hc
/-- with n given to q: found there -/
theorem fs_y {al a a' : Int → Int} {p x q left n : Int} {m : Nat} (h0 : 0 ≤ q) (hno : ∀ a'', goF al p q a a'' → a'' q < n → smF a'' (m + 1) q = left → ¬ cmF al p x a'') (h : fsR al p x m (q + 1) (left - n) (ua a q n) a') : fsR al p x (m + 1) q left a a' := by
  have e : a' q = n := by rw [h.1.2 q h0 (by omega), ua_s]
  refine ⟨⟨h.1.1, fun r r0 r1 => by rw [h.1.2 r r0 (by omega), ua_n (by omega)]⟩, by rw [smF_s, e, h.2.1]; omega, h.2.2.1, fun a'' hg hs hc => ?_⟩
  rcases Int.lt_trichotomy (a'' q) n with z | z | z
  · exact absurd hc (hno a'' hg z hs)
  · refine Or.inr ⟨by rw [e, z], h.2.2.2 a'' ⟨hg.1, fun r r0 r1 => ?_⟩ (by rw [smF_s] at hs; omega) hc⟩
    by_cases e2 : r = q
    · rw [e2, ua_s]; exact z
    · rw [ua_n e2]; exact hg.2 r r0 (by omega)
  · exact Or.inl (by omega)
theorem fs_n {al a : Int → Int} {p x q left n : Int} {m : Nat} (hno : ∀ a'', goF al p q a a'' → a'' q < n → smF a'' (m + 1) q = left → ¬ cmF al p x a'') (h : fsN al p x m (q + 1) (left - n) (ua a q n)) : ∀ a'', goF al p q a a'' → a'' q < n + 1 → smF a'' (m + 1) q = left → ¬ cmF al p x a'' := fun a'' hg hlt hs => by
  by_cases z : a'' q = n
  · refine h a'' ⟨hg.1, fun r r0 r1 => ?_⟩ (by rw [smF_s] at hs; omega)
    by_cases e2 : r = q
    · rw [e2, ua_s]; exact z
    · rw [ua_n e2]; exact hg.2 r r0 (by omega)
  · exact hno a'' hg (by omega) hs
theorem fs_e {al a : Int → Int} {p x q left n : Int} {m : Nat} (hq : 0 ≤ q ∧ q + (m + 1 : Nat) ≤ 6) (hend : left < n ∨ 9 < al (42 + 6 * q + p) + n) (hno : ∀ a'', goF al p q a a'' → a'' q < n → smF a'' (m + 1) q = left → ¬ cmF al p x a'') : fsN al p x (m + 1) q left a := fun a'' hg hs => by
  refine hno a'' hg ?_ hs
  have h1 := (hg.1 q hq.1 (by omega)).1
  have h2 := smF_nn m (q + 1) (fun r r0 r1 => (hg.1 r (by omega) (by omega)).1.1)
  rw [smF_s] at hs
  omega
theorem adF_ua {al a : Int → Int} {p q n : Int} (ha : adF al p a) (hq : 0 ≤ q ∧ q < al 2) (hqp : q ≠ p) (hn : 0 ≤ n ∧ al (42 + 6 * q + p) + n ≤ 9) : adF al p (ua a q n) := fun r r0 r1 => by
  by_cases e : r = q
  · rw [e, ua_s]; exact ⟨hn, fun _ => ⟨hq.2, hqp⟩⟩
  · rw [ua_n e]; exact ha r r0 r1
/-- the class's rows -/
def PF (v : sF) (al : Int → Int) (p x : Int) (a : Int → Int) : Prop := WG v (cra al p a) p (-1) (-1) ∧ CR v 13 al ∧ v 140 1 = 13 ∧ v 145 2 = x ∧ (∀ r : Int, 0 ≤ r → r < al 2 → r ≠ p → ∀ k : Int, 0 ≤ k → k ≤ 9 → v 147 (r * 10 + k) = mnB al r p k) ∧ ∀ r : Int, 0 ≤ r → r < al 2 → v 146 r = a r
theorem pf_up {v : sF} {al a : Int → Int} {p x q n : Int} (h : PF v al p x a) (hS : Sn al) (hp : 0 ≤ p ∧ p < 6) (hq : 0 ≤ q ∧ q < 6) (hqp : q ≠ p) : PF (up (up v 146 q n) 142 q (mnB al q p (al (42 + 6 * q + p) + n))) al p x (ua a q n) := by
  have hO : Off [142, 146] v (up (up v 146 q n) 142 q (mnB al q p (al (42 + 6 * q + p) + n))) := ((Off.rf _ v).up (by decide)).up (by decide)
  have hG1 : WG (up v 146 q n) (cra al p a) p (-1) (-1) := h.1.off (S := [146]) ((Off.rf _ v).up (by decide)) (by decide)
  have hG2 := hG1.cre (okT_cg (sameT_cra al p a) hS.1) hp hq hqp (al (42 + 6 * q + p) + n)
  rw [cra_ua hp hq, mnB_cg (sameT_cra al p a) hS.1 hq hp (cra_n (by omega))] at hG2
  refine ⟨hG2, h.2.1.off hO ⟨by decide, fun k k0 k1 => by simp only [List.mem_cons, List.not_mem_nil, or_false]; omega⟩, by rw [hO 140 (by decide)]; exact h.2.2.1, by rw [hO 145 (by decide)]; exact h.2.2.2.1, by rw [hO 147 (by decide)]; exact h.2.2.2.2.1, fun r r0 r1 => ?_⟩
  rw [up_off 146 (by decide)]
  by_cases e : r = q
  · rw [e, up_same, ua_s]
  · rw [up_ne _ e, ua_n e]; exact h.2.2.2.2.2 r r0 r1
/-- what stirUp leaves -/
def suR (al : Int → Int) (p x : Int) (m : Nat) (q left : Int) (a : Int → Int) (r : Int) (v' : sF) : Prop := (r = 1 ∧ ∃ a', PF v' al p x a' ∧ fsR al p x m q left a a') ∨ (r = 0 ∧ PF v' al p x a ∧ fsN al p x m q left a)
theorem su0 {v : sF} {al a : Int → Int} {p x q left : Int} (hS : Sn al) (hp : 0 ≤ p ∧ p < 6) (hx : 0 ≤ x ∧ x < al 1) (hq : q = al 2) (h : PF v al p x a) (ha : adF al p a) : ∃ r v', Ev (d + 4) 68 [(2, 145), (0, q), (0, left)] (c, v) (some (0, r)) (c, v') ∧ Off [142, 146] v v' ∧ suR al p x 0 q left a r v' := by
  have hN := h.1.n (Sn_cra hp hS ha).1 hp
  rw [cra_n (show (1 : Int) < 42 ∨ (78 : Int) ≤ 1 by omega), cra_n (show 30 + p < 42 ∨ 78 ≤ 30 + p by omega)] at hN
  have hE := C_dtg (d := d) (c := c) hN hx
  have hqc : cmo (nxA (cra al p a) (-1) p) (al (30 + p)) (al 1).toNat 0 x = q_com (cra al p a) (-1) p x := by
    unfold q_com
    rw [cra_n (show 30 + p < 42 ∨ 78 ≤ 30 + p by omega), cra_n (show (1 : Int) < 42 ∨ (78 : Int) ≤ 1 by omega)]
  rw [hqc] at hE
  have hsame : ∀ a'', goF al p q a a'' → q_com (cra al p a'') (-1) p x = q_com (cra al p a) (-1) p x := fun a'' hg => by rw [cra_eq (goF_end ha hq hg)]
  refine CB_of (loc68 q left) (E68_0 q left ?_)
  rw [h.2.1.p.2, h.2.2.2.1]
  refine brbI (fun z => absurd z (by omega)) (fun _ => brbN (fun z => ⟨0, v, rfl, rfl, Off.rf _ v, Or.inr ⟨rfl, h, fun a'' _ hm _ => z hm.symm⟩⟩) (fun z => ⟨_, c, v, hE, brbI (fun z2 => ⟨0, v, rfl, rfl, Off.rf _ v, Or.inr ⟨rfl, h, fun a'' hg _ hc => hc ((hsame a'' hg).trans z2)⟩⟩) (fun z2 => ⟨1, v, rfl, rfl, Off.rf _ v, Or.inl ⟨rfl, a, h, ⟨ha, fun _ _ _ => rfl⟩, z.symm, z2, fun a'' _ _ _ => trivial⟩⟩)⟩))
theorem su_loop {v0 : sF} {al a : Int → Int} {p x q left : Int} {m : Nat} {Q : sQ} (hS : Sn al) (hp : 0 ≤ p ∧ p < 6) (hq : 0 ≤ q ∧ q < al 2) (hqm : q + (m + 1 : Nat) = al 2) (hqp : q ≠ p) (hl : 0 ≤ left ∧ left ≤ 10) (ha : adF al p a) (haq : a q = 0)
    (ih : ∀ (left : Int) (v : sF) (a : Int → Int), 0 ≤ left ∧ left ≤ 10 → PF v al p x a → adF al p a → (∀ r : Int, q + 1 ≤ r → r < 6 → a r = 0) → ∃ r v', Ev (d + 1) 68 [(2, 145), (0, q + 1), (0, left)] (c, v) (some (0, r)) (c, v') ∧ Off [142, 146] v v' ∧ suR al p x m (q + 1) left a r v')
    (hqa : ∀ r : Int, q ≤ r → r < 6 → a r = 0)
    (hQ : ∀ r v', Off [142, 146] v0 v' → suR al p x (m + 1) q left a r v' → Q (some (0, r)) (c, v')) :
    ∀ (k : Nat) (n : Int) (v : sF) (y : Int), 0 ≤ n → n + k = 11 → Off [142, 146] v0 v → PF v al p x (ua a q y) → (∀ a'', goF al p q a a'' → a'' q < n → smF a'' (m + 1) q = left → ¬ cmF al p x a'') → Wp (Ev (d + 1)) 0 (fun _ => 0) 68 Q 79 [(2, 145), (0, q), (0, left), (0, al (42 + 6 * q + p)), (0, mnA al q p), (0, n)] [] c v := by
  have h2 := hS.1.2.1
  have hcr := hS.2.2 (6 * q + p) (by omega) (by omega)
  rw [show 42 + (6 * q + p) = 42 + 6 * q + p by omega] at hcr
  have hq6 : 0 ≤ q ∧ q < 6 := by omega
  intro k
  have hout : ∀ (n : Int) (v : sF) (y : Int), Off [142, 146] v0 v → PF v al p x (ua a q y) → (∀ a'', goF al p q a a'' → a'' q < n → smF a'' (m + 1) q = left → ¬ cmF al p x a'') → (left < n ∨ 9 < al (42 + 6 * q + p) + n) → Q (some (0, 0)) (c, up (up v 146 q 0) 142 q (mnA al q p)) := fun n v y ho hP hno hend => by
    have hP2 := pf_up hP (n := 0) hS hp hq6 hqp
    rw [ua_ua, Int.add_zero, mnB_e hS.1, show ua a q 0 = a by rw [← haq, ua_id]] at hP2
    exact hQ 0 _ ((ho.up (by decide)).up (by decide)) (Or.inr ⟨rfl, hP2, fs_e (by omega) hend hno⟩)
  induction k with
  | zero =>
    intro n v y n0 hn ho hP hno
    exact E68_79 _ _ _ _ _ (brbI (fun _ => chkI (inbI (by omega) (by omega)) (chkI (inbI (by omega) (by omega)) (hout n v y ho hP hno (by omega)))) (fun z => absurd z (by omega)))
  | succ k ihk =>
    intro n v y n0 hn ho hP hno
    refine E68_79 _ _ _ _ _ (brbI (fun z => chkI (inbI (by omega) (by omega)) (chkI (inbI (by omega) (by omega)) (hout n v y ho hP hno (by omega)))) (fun z => rngI (by omega) (brbI (fun z2 => chkI (inbI (by omega) (by omega)) (chkI (inbI (by omega) (by omega)) (hout n v y ho hP hno (by omega)))) (fun z2 => ?_))))
    rw [show q * 10 + al (42 + 6 * q + p) + n = q * 10 + (al (42 + 6 * q + p) + n) by omega, hP.2.2.2.2.1 q hq.1 hq.2 hqp _ (by omega) (by omega)]
    have hP2 := pf_up hP (n := n) hS hp hq6 hqp
    rw [ua_ua] at hP2
    have ha2 := adF_ua (n := n) ha hq hqp (by omega)
    obtain ⟨r, v', hE, hO, hres⟩ := ih (left - n) _ _ (by omega) hP2 ha2 (fun r r0 r1 => by rw [ua_n (by omega)]; exact hqa r (by omega) r1)
    have ho2 : Off [142, 146] v0 v' := ((ho.up (by decide)).up (by decide)).tr hO
    refine chkI (inbI (by omega) (by omega)) (rngI (by omega) (rngI (by omega) (rngI (by omega) (chkI (inbI (by omega) (by omega)) (chkI (inbI (by omega) (by omega)) (rngI (by omega) (rngI (by omega) ⟨r, c, v', hE, ?_⟩)))))))
    rcases hres with ⟨rfl, a', hP', hf⟩ | ⟨rfl, hP', hf⟩
    · exact brbI (fun z => absurd z (by decide)) (fun _ => hQ 1 v' ho2 (Or.inl ⟨rfl, a', hP', fs_y hq.1 hno hf⟩))
    · exact brbI (fun _ => rngI (by omega) (ihk (n + 1) v' n (by omega) (by omega) ho2 hP' (fs_n hno hf))) (fun z => absurd rfl z)
theorem C_stirUp {al : Int → Int} {p x : Int} (hS : Sn al) (hp : 0 ≤ p ∧ p < 6) (hx : 0 ≤ x ∧ x < al 1) : ∀ (m : Nat) (q left : Int) (v : sF) (a : Int → Int), 0 ≤ q → q + m = al 2 → 0 ≤ left ∧ left ≤ 10 → PF v al p x a → adF al p a → (∀ r : Int, q ≤ r → r < 6 → a r = 0) → ∃ r v', Ev (d + 4 + m) 68 [(2, 145), (0, q), (0, left)] (c, v) (some (0, r)) (c, v') ∧ Off [142, 146] v v' ∧ suR al p x m q left a r v' := by
  have h2 := hS.1.2.1
  intro m
  induction m with
  | zero => intro q left v a q0 hq hl hP ha haq; exact su0 hS hp hx (by omega) hP ha
  | succ m ih =>
    intro q left v a q0 hq hl hP ha haq
    have ih1 := fun left v a hl hP ha haq => ih (q + 1) left v a (by omega) (by omega) hl hP ha haq
    rw [show d + 4 + m = d + 3 + m + 1 by omega] at ih1
    rw [show d + 4 + (m + 1) = d + 3 + m + 1 + 1 by omega]
    have hq6 : 0 ≤ q ∧ q < al 2 := by omega
    refine CB_of (loc68 q left) (E68_0 q left ?_)
    rw [hP.2.1.p.2, hP.1.2.2.1]
    refine brbI (fun _ => brbN (fun z => ⟨_, c, v, C_careOf (d := d + 3 + m) (Or.inl rfl) hP.2.1 hP.2.2.1 hP.1.2.2.1 (by omega) hp, chkI (inbI (by omega) (by omega)) ?_⟩) (fun z => rngI (by omega) ?_)) (fun z => absurd hq6.2 z)
    · have hm := ((hP.1.2.2.2.2.2 q q0 (by rw [cra_n (show (2 : Int) < 42 ∨ (78 : Int) ≤ 2 by omega)]; exact hq6.2) z).2 (Or.inl rfl)).1
      rw [hm, ← mnB_e (okT_cg (sameT_cra al p a) hS.1), cra_at hp (by omega), haq q (by omega) (by omega), Int.add_zero, mnB_cg (sameT_cra al p a) hS.1 (by omega) hp (cra_n (by omega)), mnB_e hS.1]
      exact su_loop (d := d + 3 + m) hS hp hq6 hq z hl ha (haq q (by omega) (by omega)) ih1 haq (fun r v' ho hr => ⟨r, v', rfl, rfl, ho, hr⟩) 11 0 v (a q) (by omega) (by omega) (Off.rf _ _) (by rw [ua_id]; exact hP) (fun a'' hg hlt => by have := (hg.1 q q0 (by omega)).1; omega)
    · obtain ⟨r, v', hE, hO, hres⟩ := ih1 left v a hl hP ha (fun r r0 r1 => haq r (by omega) r1)
      have hfp := fs_p (al := al) (a := a) (x := x) (left := left) (m := m) hp (haq q (by omega) (by omega)) z q0
      refine ⟨r, c, v', hE, ?_⟩
      rcases hres with ⟨rfl, a', hP', hf⟩ | ⟨rfl, hP', hf⟩
      · exact chkI (by decide) ⟨1, v', rfl, rfl, hO, Or.inl ⟨rfl, a', hP', hfp.1 a' hf⟩⟩
      · exact chkI (by decide) ⟨0, v', rfl, rfl, hO, Or.inr ⟨rfl, hP', hfp.2 hf⟩⟩
/-- the first number that does, the first way -/
def bestF (al : Int → Int) (p x n : Int) (a : Int → Int) : Prop := (0 ≤ n ∧ n ≤ 9) ∧ fsR al p x (al 2).toNat 0 n (fun _ => 0) a ∧ ∀ k : Int, 0 ≤ k → k < n → fsN al p x (al 2).toNat 0 k (fun _ => 0)
theorem bestF_uq {al a a' : Int → Int} {p x n n' : Int} (h : bestF al p x n a) (h' : bestF al p x n' a') : n = n' ∧ ∀ r : Int, 0 ≤ r → r < (al 2).toNat → a r = a' r := by
  have e : n = n' := by
    rcases Int.lt_trichotomy n n' with z | z | z
    · exact absurd h.2.1.2.2.1 (h'.2.2 n h.1.1 z a h.2.1.1 h.2.1.2.1)
    · exact z
    · exact absurd h'.2.1.2.2.1 (h.2.2 n' h'.1.1 z a' h'.2.1.1 h'.2.1.2.1)
  subst e
  exact ⟨rfl, fun r r0 r1 => lx_anti _ _ (h.2.1.2.2.2 a' h'.2.1.1 h'.2.1.2.1 h'.2.1.2.2.1) (h'.2.1.2.2.2 a h.2.1.1 h.2.1.2.1 h.2.1.2.2.1) r r0 (by omega)⟩
theorem adF_0 {al : Int → Int} (hS : Sn al) {p : Int} (hp : 0 ≤ p ∧ p < 6) : adF al p (fun _ => 0) := fun r r0 r1 => by
  have := hS.2.2 (6 * r + p) (by omega) (by omega)
  rw [show 42 + (6 * r + p) = 42 + 6 * r + p by omega] at this
  exact ⟨by dsimp only; omega, fun z => absurd rfl z⟩
theorem lf2_loop {al : Int → Int} {p x : Int} {Q : sQ} (v0 : sF) (hS : Sn al) (hp : 0 ≤ p ∧ p < 6) (hx : 0 ≤ x ∧ x < al 1) (hQ : ∀ r v', Off [142, 146] v0 v' → ((r = -1 ∧ ∀ k : Int, 0 ≤ k → k ≤ 9 → fsN al p x (al 2).toNat 0 k (fun _ => 0)) ∨ (∃ a, bestF al p x r a ∧ ∀ q : Int, 0 ≤ q → q < al 2 → v' 146 q = a q)) → Q (some (0, r)) (c, v')) : ∀ (m : Nat) (n : Int) (v : sF), 0 ≤ n → n + m = 10 → Off [142, 146] v0 v → PF v al p x (fun _ => 0) → (∀ k : Int, 0 ≤ k → k < n → fsN al p x (al 2).toNat 0 k (fun _ => 0)) → Wp (Ev (d + 4 + (al 2).toNat)) 0 (fun _ => 0) 67 Q 78 [(2, 145), (9, 0), (0, n), (9, 0)] [] c v := by
  have h2 := hS.1.2.1
  intro m
  induction m with
  | zero =>
    intro n v n0 hn ho hP hno
    exact E67_78 _ (brbI (fun _ => hQ (-1) v ho (Or.inl ⟨rfl, fun k k0 k1 => hno k k0 (by omega)⟩)) (fun z => absurd z (by omega)))
  | succ m ih =>
    intro n v n0 hn ho hP hno
    obtain ⟨r, v', hE, hO, hres⟩ := C_stirUp (d := d) (c := c) hS hp hx (al 2).toNat 0 n v _ (by omega) (by omega) (by omega) hP (adF_0 hS hp) (fun _ _ _ => rfl)
    refine E67_78 _ (brbI (fun z => absurd z (by omega)) (fun _ => ⟨r, c, v', hE, ?_⟩))
    rcases hres with ⟨rfl, a', hP', hf⟩ | ⟨rfl, hP', hf⟩
    · exact brbI (fun z => absurd z (by decide)) (fun _ => hQ n v' (ho.tr hO) (Or.inr ⟨a', ⟨by omega, hf, hno⟩, hP'.2.2.2.2.2⟩))
    · refine brbI (fun _ => rngI (by omega) (ih (n + 1) v' (by omega) (by omega) (ho.tr hO) hP' (fun k k0 k1 => ?_))) (fun z => absurd rfl z)
      by_cases e : k = n
      · rw [e]; exact hf
      · exact hno k k0 (by omega)
/-- the rows of leastFeeling: who is done -/
def mbR (v : sF) (al : Int → Int) (p q : Int) : Prop := ∀ r : Int, 0 ≤ r → r < q → v 146 r = 0 ∧ (r ≠ p → ∀ k : Int, 0 ≤ k → k ≤ 9 → v 147 (r * 10 + k) = mnB al r p k)
theorem lf1b_loop {al : Int → Int} {p q : Int} {Q : sQ} (v0 : sF) (hS : Sn al) (hp : 0 ≤ p ∧ p < 6) (hq : 0 ≤ q ∧ q < al 2) (hR : CR v0 13 al) (h13 : v0 140 1 = 13) (hto : v0 140 2 = p) (hm : mbR v0 al p q) (h6 : v0 146 q = 0) (hQ : ∀ v, Off [7, 11, 12, 147] v0 v → mbR v al p (q + 1) → Wp (Ev (d + 4)) 0 (fun _ => 0) 67 Q 7 [(2, 145), (9, 0), (0, q + 1), (9, 0)] [] c v) : ∀ (m : Nat) (k : Int) (v : sF), 0 ≤ k → k + m = 10 → Off [7, 11, 12, 147] v0 v → (∀ j : Int, j < q * 10 → v 147 j = v0 147 j) → (q ≠ p → ∀ j : Int, 0 ≤ j → j < k → v 147 (q * 10 + j) = mnB al q p j) → Wp (Ev (d + 4)) 0 (fun _ => 0) 67 Q 27 [(2, 145), (9, 0), (0, q), (0, k)] [] c v := by
  have h2 := hS.1.2.1
  have hfin : ∀ v, Off [7, 11, 12, 147] v0 v → (∀ j : Int, j < q * 10 → v 147 j = v0 147 j) → (q ≠ p → ∀ j : Int, 0 ≤ j → j < 10 → v 147 (q * 10 + j) = mnB al q p j) → Wp (Ev (d + 4)) 0 (fun _ => 0) 67 Q 7 [(2, 145), (9, 0), (0, q + 1), (9, 0)] [] c v := fun v ho hj hk => by
    refine hQ v ho (fun r r0 r1 => ?_)
    rw [ho 146 (by decide)]
    by_cases e : r = q
    · rw [e]; exact ⟨h6, fun z k k0 k1 => hk z k k0 (by omega)⟩
    · have := hm r r0 (by omega)
      exact ⟨this.1, fun z k k0 k1 => by rw [hj _ (by omega)]; exact this.2 z k k0 k1⟩
  intro m
  induction m with
  | zero =>
    intro k v k0 hk ho hj hjk
    exact E67_27 _ _ (brbI (fun _ => rngI (by omega) (hfin v ho hj (fun z j j0 j1 => hjk z j j0 (by omega)))) (fun z => absurd z (by omega)))
  | succ m ih =>
    intro k v k0 hk ho hj hjk
    refine E67_27 _ _ ?_
    rw [ho 140 (by decide), hto]
    refine brbI (fun z => absurd z (by omega)) (fun _ => brbI (fun z => rngI (by omega) (hfin v ho hj (fun z2 => absurd z z2))) (fun z => rngI (by omega) (rngI (by omega) ?_)))
    obtain ⟨v1, hE, hO⟩ := C_mindWith (d := d) (c := c) (v := v) (a := 13) (q := q) (p := p) (care := k) (Or.inl rfl) hS.1 hS.2 (hR.off ho ⟨by decide, fun k k0 k1 => by simp only [List.mem_cons, List.not_mem_nil, or_false]; omega⟩) (by rw [ho 140 (by decide)]; exact h13) (by rw [ho 140 (by decide)]; exact hto) (by omega) hp (by omega)
    refine ⟨_, c, v1, hE, chkI (inbI (by omega) (by omega)) (rngI (by omega) (ih (k + 1) _ (by omega) (by omega) ((ho.tr (hO.wk (by decide))).up (by decide)) (fun j hjj => ?_) (fun z2 j j0 j1 => ?_)))⟩
    · rw [up_ne _ (by omega), hO 147 (by decide)]; exact hj j hjj
    · by_cases e : j = k
      · rw [e, up_same]
      · rw [up_ne _ (by omega), hO 147 (by decide)]; exact hjk z2 j j0 (by omega)
theorem lf1_loop {al : Int → Int} {p : Int} {Q : sQ} (v0 : sF) (hS : Sn al) (hp : 0 ≤ p ∧ p < 6) (hR : CR v0 13 al) (h13 : v0 140 1 = 13) (hto : v0 140 2 = p) (hQ : ∀ v, Off [7, 11, 12, 146, 147] v0 v → mbR v al p (al 2) → Wp (Ev (d + 4)) 0 (fun _ => 0) 67 Q 78 [(2, 145), (9, 0), (0, 0), (9, 0)] [] c v) : ∀ (m : Nat) (q : Int) (v : sF), 0 ≤ q → q + m = al 2 → Off [7, 11, 12, 146, 147] v0 v → mbR v al p q → Wp (Ev (d + 4)) 0 (fun _ => 0) 67 Q 7 [(2, 145), (9, 0), (0, q), (9, 0)] [] c v := by
  have h2 := hS.1.2.1
  intro m
  induction m with
  | zero =>
    intro q v q0 hq ho hm
    refine E67_7 _ ?_
    rw [ho 3 (by decide), hR.p.2]
    exact brbI (fun _ => hQ v ho (by rw [show al 2 = q by omega]; exact hm)) (fun z => absurd z (by omega))
  | succ m ih =>
    intro q v q0 hq ho hm
    refine E67_7 _ ?_
    rw [ho 3 (by decide), hR.p.2]
    refine brbI (fun z => absurd z (by omega)) (fun _ => chkI (inbI (by omega) (by omega)) ?_)
    have ho2 : Off [7, 11, 12, 146, 147] v0 (up v 146 q 0) := ho.up (by decide)
    refine lf1b_loop (up v 146 q 0) hS hp ⟨q0, by omega⟩ (hR.off ho2 ⟨by decide, fun k k0 k1 => by simp only [List.mem_cons, List.not_mem_nil, or_false]; omega⟩) (by rw [ho2 140 (by decide)]; exact h13) (by rw [ho2 140 (by decide)]; exact hto) (fun r r0 r1 => ?_) (up_same _ _ _ _) (fun v2 ho3 hm2 => ih (q + 1) v2 (by omega) (by omega) (ho2.tr (ho3.wk (by decide))) hm2) 10 0 _ (by omega) (by omega) (Off.rf _ _) (fun _ _ => rfl) (fun _ j j0 j1 => absurd j0 (by omega))
    rw [up_ne _ (by omega), up_off 147 (by decide)]
    exact hm r r0 r1
def lfR (al : Int → Int) (p x r : Int) (v' : sF) : Prop := (r = -1 ∧ ∀ k : Int, 0 ≤ k → k ≤ 9 → fsN al p x (al 2).toNat 0 k (fun _ => 0)) ∨ (∃ a, bestF al p x r a ∧ ∀ q : Int, 0 ≤ q → q < al 2 → v' 146 q = a q)
theorem C_leastFeeling {v : sF} {al : Int → Int} {p x : Int} (hS : Sn al) (hp : 0 ≤ p ∧ p < al 2) (hx : 0 ≤ x ∧ x < al 1) (hR : CR v 13 al) (h13 : v 140 1 = 13) (hG : WG v al p (-1) (-1)) : ∃ r v', Ev (d + 11) 67 [(2, 145), (0, x)] (c, v) (some (0, r)) (c, v') ∧ Off scX v v' ∧ lfR al p x r v' := by
  have h1 := hS.1.1
  have h2 := hS.1.2.1
  have hO1 : Off [145] v (up v 145 2 x) := (Off.rf _ v).up (by decide)
  have hR1 : CR (up v 145 2 x) 13 al := hR.off hO1 ⟨by decide, fun k k0 k1 => by simp only [List.mem_cons, List.not_mem_nil, or_false]; omega⟩
  refine CB_of (loc67 x) (E67_0 x ?_)
  refine lf1_loop (d := d + 6) _ hS (show 0 ≤ p ∧ p < 6 by omega) hR1 (by rw [hO1 140 (by decide)]; exact h13) (by rw [hO1 140 (by decide)]; exact hG.2.2.1) (fun v2 ho2 hm2 => ?_) (al 2).toNat 0 _ (by omega) (by omega) (Off.rf _ _) (fun r r0 r1 => absurd r0 (by omega))
  have hO2 : Off scX v v2 := (hO1.wk (by decide)).tr (ho2.wk (by decide))
  have hP : PF v2 al p x (fun _ => 0) := by
    refine ⟨?_, hR1.off ho2 ⟨by decide, fun k k0 k1 => by simp only [List.mem_cons, List.not_mem_nil, or_false]; omega⟩, by rw [ho2 140 (by decide), hO1 140 (by decide)]; exact h13, by rw [ho2 145 (by decide), up_same], fun r r0 r1 hrp => (hm2 r r0 r1).2 hrp, fun r r0 r1 => (hm2 r r0 r1).1⟩
    rw [cra_0 (fun _ _ _ => rfl)]
    exact (hG.off hO1 (by decide)).off ho2 (by decide)
  have := lf2_loop (d := d + 6 - (al 2).toNat) (c := c) (Q := fun r μ => ∃ x1 v', r = some (0, x1) ∧ μ = (c, v') ∧ Off scX v v' ∧ lfR al p x x1 v') v2 hS (show 0 ≤ p ∧ p < 6 by omega) hx (fun r v' ho hf => ⟨r, v', rfl, rfl, hO2.tr (ho.wk (by decide)), hf⟩) 10 0 v2 (by omega) (by omega) (Off.rf _ _) hP (fun k k0 k1 => absurd k0 (by omega))
  rw [show d + 6 - (al 2).toNat + 4 + (al 2).toNat = d + 6 + 4 by omega] at this
  exact this
theorem X_feeling {v : sF} {al : Int → Int} {p x w : Int} (hS : St al) (hR : CR v 13 al) (hwi : w ≤ 2147483647) (X : Int) (hX2 : ¬ (((0 ≤ p ∧ p < al 2) ∧ (0 ≤ x ∧ x < al 1)) ∧ (w = 0 ∨ (10 ≤ w ∧ w - 10 < al 2))) → X = -2) (hX1 : ((0 ≤ p ∧ p < al 2) ∧ (0 ≤ x ∧ x < al 1)) ∧ (w = 0 ∨ (10 ≤ w ∧ w - 10 < al 2)) → (∀ k : Int, 0 ≤ k → k ≤ 9 → fsN al p x (al 2).toNat 0 k (fun _ => 0)) → X = -1) (hX : ((0 ≤ p ∧ p < al 2) ∧ (0 ≤ x ∧ x < al 1)) ∧ (w = 0 ∨ (10 ≤ w ∧ w - 10 < al 2)) → ∀ n a, bestF al p x n a → X = if w = 0 then n else a (w - 10)) : ∃ v', Ev (d + 20) 139 [(2, 1), (0, p), (0, x), (0, w)] (c, v) (some (0, X)) (c, v') ∧ Off scX v v' := by
  have h2 := hS.1.2.1
  have hw := C_isWayX (d := d + 17) (c := c) (v := v) (x := p) (y := x)
  have hcp := C_isCount (d := d + 17) (c := c) (v := v) (x := w) hwi
  rw [hR.p.2] at hcp
  rw [hR.p.1, hR.p.2] at hw
  refine CI_of (loc139 p x w) (E139_0 p x w ⟨_, c, v, hw, bfz (fun h => ⟨by rw [hX2 (fun z => h z.1)], _, rfl, Off.rf _ v⟩) (fun h => ⟨_, c, v, hcp, bfi (fun h3 => ?_) (fun h3 => ⟨by rw [hX2 (fun z => h3 z.2)], _, rfl, Off.rf _ v⟩)⟩)⟩)
  obtain ⟨v1, hE, hO, hR1, hG, hN, h13⟩ := C_aimX (d := d + 13) (c := c) hS hR h.1
  obtain ⟨r, v2, hE2, hO2, hf⟩ := C_leastFeeling (d := d + 8) (c := c) hS.n h.1 h.2 hR1 h13 hG
  have hOO := (oX hO).tr hO2
  refine ⟨c, v1, hE, r, c, v2, hE2, ?_⟩
  rcases hf with ⟨rfl, hno⟩ | ⟨a, ha, hav⟩
  · exact brbI (fun _ => ⟨by rw [hX1 ⟨h, h3⟩ hno], _, rfl, hOO⟩) (fun q => absurd rfl q)
  · have hX := hX ⟨h, h3⟩ r a ha
    have hm := ha.1
    refine brbI (fun q => absurd q (by omega)) (fun _ => brbN (fun q => rngI (by omega) (chkI (inbI (by omega) (by omega)) ⟨?_, _, rfl, hOO⟩)) (fun q => ⟨?_, _, rfl, hOO⟩))
    · rw [if_neg q] at hX
      rw [hX, hav (w - 10) (by omega) (by omega)]
    · rw [if_pos q] at hX
      rw [hX]
end Fee1
