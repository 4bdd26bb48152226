section Tok
variable {d c : Nat}
/-- the sort of a sign -/
def srt (x : Int) : Int := if 97 ≤ x ∧ x ≤ 122 then 97 else if 48 ≤ x ∧ x ≤ 57 then 48 else if x = 32 ∨ x = 10 then 32 else 63
def eoN (T : Int → Int) (n s : Int) : Nat → Int → Int
  | 0, k => k
  | m + 1, k => if k < n ∧ srt (T k) = s then eoN T n s m (k + 1) else k
/-- where signs of one sort end -/
def eo (T : Int → Int) (n s k : Int) : Int := eoN T n s (n - k).toNat k
theorem eo_t {T : Int → Int} {n s k : Int} (h : k < n) (h2 : srt (T k) = s) : eo T n s k = eo T n s (k + 1) := by
  unfold eo
  rw [show (n - k).toNat = (n - (k + 1)).toNat + 1 by omega]
  show (if k < n ∧ srt (T k) = s then _ else k) = _
  rw [if_pos ⟨h, h2⟩]
theorem eo_f {T : Int → Int} {n s k : Int} (h : ¬ (k < n ∧ srt (T k) = s)) : eo T n s k = k := by
  unfold eo
  cases hm : (n - k).toNat with
  | zero => rfl
  | succ m => show (if k < n ∧ srt (T k) = s then _ else k) = k; rw [if_neg h]
theorem eo_sp0 {T : Int → Int} {n s : Int} : ∀ (m : Nat) (k : Int), k + m = n → k ≤ eo T n s k ∧ eo T n s k ≤ n ∧ (eo T n s k < n → srt (T (eo T n s k)) ≠ s) ∧ ∀ i, k ≤ i → i < eo T n s k → srt (T i) = s := by
  intro m
  induction m with
  | zero =>
    intro k hk
    rw [eo_f (by omega)]
    exact ⟨by omega, by omega, fun h => by omega, fun i h1 h2 => by omega⟩
  | succ m ih =>
    intro k hk
    by_cases h : srt (T k) = s
    · rw [eo_t (by omega) h]
      obtain ⟨h1, h2, h3, h4⟩ := ih (k + 1) (by omega)
      refine ⟨by omega, h2, h3, fun i i1 i2 => ?_⟩
      rcases Decidable.em (i = k) with rfl | q
      · exact h
      · exact h4 i (by omega) i2
    · rw [eo_f (fun q => h q.2)]
      exact ⟨by omega, by omega, fun _ => h, fun i h1 h2 => by omega⟩
theorem eo_sp {T : Int → Int} {n s k : Int} (h : k ≤ n) : k ≤ eo T n s k ∧ eo T n s k ≤ n ∧ (eo T n s k < n → srt (T (eo T n s k)) ≠ s) ∧ ∀ i, k ≤ i → i < eo T n s k → srt (T i) = s := eo_sp0 (n - k).toNat k (by omega)
theorem eo_gt {T : Int → Int} {n k : Int} (h : k < n) : k < eo T n (srt (T k)) k := by
  rw [eo_t h rfl]
  have := eo_sp (T := T) (s := srt (T k)) (show k + 1 ≤ n by omega)
  omega
theorem srt_v (x : Int) : srt x = 97 ∨ srt x = 48 ∨ srt x = 32 ∨ srt x = 63 := by unfold srt; (repeat' split) <;> omega
theorem srt_97 {x : Int} : srt x = 97 ↔ 97 ≤ x ∧ x ≤ 122 := by unfold srt; (repeat' split) <;> omega
theorem srt_48 {x : Int} : srt x = 48 ↔ 48 ≤ x ∧ x ≤ 57 := by unfold srt; (repeat' split) <;> omega
theorem srt_32 {x : Int} : srt x = 32 ↔ x = 32 ∨ x = 10 := by unfold srt; (repeat' split) <;> omega
/-- the number that digits make -/
def nvN (T : Int → Int) : Nat → Int → Int → Int
  | 0, _, a => a
  | m + 1, p, a => nvN T m (p + 1) (a * 10 + T p - 48)
def bdN (m : Nat) : Int := if m = 0 then 999 else if m = 1 then 99 else if m = 2 then 9 else 0
theorem nvN_rng {T : Int → Int} : ∀ (m : Nat) (p a : Int), m ≤ 3 → 0 ≤ a → a ≤ bdN m → (∀ i, p ≤ i → i < p + m → srt (T i) = 48) → 0 ≤ nvN T m p a ∧ nvN T m p a ≤ 999 := by
  intro m
  induction m with
  | zero => intro p a _ h0 h1 _; unfold bdN at h1; simp at h1; exact ⟨h0, h1⟩
  | succ m ih =>
    intro p a hm h0 h1 h2
    have hd := srt_48.1 (h2 p (by omega) (by omega))
    refine ih (p + 1) _ (by omega) (by omega) ?_ (fun i i0 i1 => h2 i (by omega) (by omega))
    rcases (show m = 0 ∨ m = 1 ∨ m = 2 by omega) with rfl | rfl | rfl <;> unfold bdN at h1 ⊢ <;> simp at h1 ⊢ <;> omega
/-- signs as a list -/
def bt (T : Int → Int) : Nat → Int → List Int
  | 0, _ => []
  | m + 1, p => T p :: bt T m (p + 1)
theorem bt_len {T : Int → Int} : ∀ (m : Nat) (p : Int), (bt T m p).length = m := by
  intro m
  induction m with
  | zero => intro p; rfl
  | succ m ih => intro p; show (bt T m (p + 1)).length + 1 = m + 1; rw [ih]
def flw : List (List Int) → List Int
  | [] => []
  | w :: r => w ++ 32 :: flw r
def fk : List (List Int) → Int → Int → List Int → Int
  | [], _, z, _ => z
  | w :: r, k, z, b => if b = w then k else fk r (k + 1) z b
/-- the class's words and the model's -/
def wlC : List (List Int) := [[112, 108, 97, 99, 101, 115], [112, 101, 114, 115, 111, 110], [97, 116], [104, 111, 109, 101], [102, 97, 109, 105, 108, 121], [109, 111, 111, 100], [97, 119, 97, 121], [99, 97, 114, 101, 115], [102, 111, 114], [109, 105, 110, 100, 115], [115, 101, 110, 100, 115], [100, 97, 121], [119, 104, 111], [111, 102], [107, 105, 110], [111, 119, 110], [105, 102], [116, 104, 101, 110], [101, 108, 115, 101], [101, 110, 100], [110, 111, 116], [111, 114], [97, 110, 100]]
def wlM : List (List Int) := [[112, 108, 97, 99, 101, 115], [112, 101, 114, 115, 111, 110], [97, 116], [104, 111, 109, 101], [102, 97, 109, 105, 108, 121], [109, 111, 111, 100], [97, 119, 97, 121], [99, 97, 114, 101, 115], [102, 111, 114], [109, 105, 110, 100, 115], [115, 101, 110, 100, 115], [100, 97, 121], [105, 102], [116, 104, 101, 110], [101, 108, 115, 101], [101, 110, 100], [119, 104, 111], [111, 102], [107, 105, 110], [111, 119, 110], [97, 110, 100], [111, 114], [110, 111, 116]]
theorem wlC_s : sL 0 = flw wlC := by decide
theorem wlM_s : sL 2 = 32 :: flw wlM := by decide
/-- the model's kind of a kind -/
def km (k : Int) : Int := if k < 12 then k else if k < 16 then k + 4 else if k < 20 then k - 4 else if k = 20 then 22 else if k = 21 then 21 else if k = 22 then 20 else if k < 35 then k + 7 else if k = 35 then 24 else if k = 36 then 25 else if k = 37 then 23 else 26
theorem fk_km (b : List Int) : fk wlM 0 23 b = km (fk wlC 0 37 b) ∧ 0 ≤ fk wlC 0 37 b ∧ fk wlC 0 37 b ≤ 37 ∧ (fk wlC 0 37 b ≤ 22 ∨ fk wlC 0 37 b = 37) := by
  by_cases h : b ∈ wlC
  · have key : ∀ w ∈ wlC, fk wlM 0 23 w = km (fk wlC 0 37 w) ∧ 0 ≤ fk wlC 0 37 w ∧ fk wlC 0 37 w ≤ 37 ∧ (fk wlC 0 37 w ≤ 22 ∨ fk wlC 0 37 w = 37) := by decide
    exact key b h
  · have hM : b ∉ wlM := fun q => h ((show ∀ w ∈ wlM, w ∈ wlC by decide) b q)
    have g : ∀ (l : List (List Int)) (k z : Int), b ∉ l → fk l k z b = z := by
      intro l
      induction l with
      | nil => intro k z _; rfl
      | cons w r ih =>
        intro k z hn
        show (if b = w then k else fk r (k + 1) z b) = z
        rw [if_neg (fun q => hn (by rw [q]; exact List.mem_cons_self)), ih _ _ (fun q => hn (List.mem_cons_of_mem _ q))]
    rw [g _ _ _ h, g _ _ _ hM]
    decide
/-- where the next token starts and ends, its code -/
def ts (T : Int → Int) (n p : Int) : Int := eo T n 32 p
def te (T : Int → Int) (n p : Int) : Int := if n ≤ ts T n p then ts T n p else if srt (T (ts T n p)) = 63 then ts T n p + 1 else eo T n (srt (T (ts T n p))) (ts T n p)
def cdF (T : Int → Int) (s e so : Int) : Int := if so = 97 then 1000 + fk wlC 0 37 (bt T (e - s).toNat s) else if so = 48 then (if e - s ≤ 3 then nvN T (e - s).toNat s 0 else 1038) else (if 0 ≤ idxOf (T s) 0 (sL 1) then 1000 + (23 + idxOf (T s) 0 (sL 1)) else 1038)
def tcd (T : Int → Int) (n p : Int) : Int := cdF T (ts T n p) (te T n p) (srt (T (ts T n p)))
def tkd (T : Int → Int) (n p : Int) : Int := if n ≤ ts T n p then 36 else if tcd T n p < 1000 then 35 else tcd T n p - 1000
def tvl (T : Int → Int) (n p : Int) : Int := if n ≤ ts T n p then -1 else if tcd T n p < 1000 then tcd T n p else -1
def tnum (T : Int → Int) (n p a : Int) : Int := if n ≤ ts T n p then a else if srt (T (ts T n p)) = 48 then nvN T (if te T n p - ts T n p ≤ 3 then te T n p - ts T n p else 3).toNat (ts T n p) 0 else a
theorem idx1_rng (x : Int) : -1 ≤ idxOf x 0 (sL 1) ∧ idxOf x 0 (sL 1) < 12 := by
  have g : ∀ (l : List Int) (i : Int), 0 ≤ i → -1 ≤ idxOf x i l ∧ idxOf x i l < i + l.length := by
    intro l
    induction l with
    | nil => intro i hi; show -1 ≤ (-1 : Int) ∧ (-1 : Int) < _; simp; omega
    | cons a r ih =>
      intro i hi
      have := ih (i + 1) (by omega)
      show -1 ≤ (if x = a then i else idxOf x (i + 1) r) ∧ (if x = a then i else idxOf x (i + 1) r) < _
      rw [List.length_cons]
      split <;> omega
  have := g (sL 1) 0 (by omega)
  have hl : (sL 1).length = 12 := by decide
  rw [hl] at this
  omega
theorem ts_sp {T : Int → Int} {n p : Int} (hp : p ≤ n) : p ≤ ts T n p ∧ ts T n p ≤ n ∧ (ts T n p < n → srt (T (ts T n p)) ≠ 32) := ⟨(eo_sp hp).1, (eo_sp hp).2.1, (eo_sp hp).2.2.1⟩
theorem te_sp {T : Int → Int} {n p : Int} (hp : p ≤ n) : ts T n p ≤ te T n p ∧ te T n p ≤ n ∧ (ts T n p < n → ts T n p < te T n p) := by
  have h := ts_sp (T := T) hp
  unfold te
  split
  · omega
  · split
    · omega
    · have := eo_gt (T := T) (n := n) (k := ts T n p) (by omega)
      have := eo_sp (T := T) (s := srt (T (ts T n p))) h.2.1
      omega
theorem te_48 {T : Int → Int} {n p : Int} (hs : ts T n p < n) (h : srt (T (ts T n p)) = 48) : te T n p = eo T n 48 (ts T n p) := by unfold te; rw [if_neg (by omega), if_neg (by rw [h]; decide), h]
theorem te_97 {T : Int → Int} {n p : Int} (hs : ts T n p < n) (h : srt (T (ts T n p)) = 97) : te T n p = eo T n 97 (ts T n p) := by unfold te; rw [if_neg (by omega), if_neg (by rw [h]; decide), h]
/-- what kinds there are -/
theorem tcd_rng {T : Int → Int} {n p : Int} (hp : p ≤ n) (hs : ts T n p < n) : (srt (T (ts T n p)) = 48 ∧ te T n p - ts T n p ≤ 3 ∧ 0 ≤ tcd T n p ∧ tcd T n p < 1000 ∧ tcd T n p = nvN T (te T n p - ts T n p).toNat (ts T n p) 0) ∨ (1000 ≤ tcd T n p ∧ tcd T n p ≤ 1038 ∧ tcd T n p ≠ 1035 ∧ tcd T n p ≠ 1036) := by
  have h := te_sp (T := T) hp
  unfold tcd cdF
  split
  · have := fk_km (bt T (te T n p - ts T n p).toNat (ts T n p)); right; omega
  · split
    · rename_i _ h48
      split
      · left
        rw [te_48 hs h48] at *
        have e := eo_sp (T := T) (s := 48) (show ts T n p ≤ n by omega)
        have := nvN_rng (T := T) (eo T n 48 (ts T n p) - ts T n p).toNat (ts T n p) 0 (by omega) (by omega) (by unfold bdN; (repeat' split) <;> omega) (fun i i0 i1 => e.2.2.2 i i0 (by omega))
        exact ⟨h48, by omega, by omega, by omega, rfl⟩
      · right; omega
    · have := idx1_rng (T (ts T n p))
      split <;> (right; omega)
/-- the class's text -/
def TX (v : sF) (T : Int → Int) (n : Int) : Prop := v 56 1 = n ∧ 0 ≤ n ∧ n ≤ 900 ∧ ∀ i : Int, 0 ≤ i → i < n → iand (v 2 i) 255 = T i ∧ 0 ≤ T i ∧ T i ≤ 255
theorem C_sortOf (x : Int) {v : sF} : Ev (d + 1) 73 [(0, x)] (c, v) (some (0, srt x)) (c, v) := by
  refine Ev_of (loc73 x) (E73_0 x ?_)
  (repeat' (first | (refine brbI (fun _ => ?_) (fun _ => ?_) <;> try (exfalso; omega)) | (refine brbN (fun _ => ?_) (fun _ => ?_) <;> try (exfalso; omega)) | refine rngI (by omega) ?_ | refine rnlI (by omega) ?_ | refine chkI (inbI (by omega) (by omega)) ?_)) <;> exact ⟨by unfold srt; (repeat' split) <;> first | rfl | (exfalso; omega), rfl⟩
theorem C_signAt {v : sF} {T : Int → Int} {n x : Int} (h : TX v T n) (h0 : 0 ≤ x) (h1 : x < n) : Ev (d + 1) 72 [(2, 56), (0, x)] (c, v) (some (0, T x)) (c, v) := by
  have h56 := h.1
  have h9 := h.2.2.1
  refine Ev_of (loc72 x) (E72_0 x (brbI (fun q => absurd q (by omega)) (fun _ => brbI (fun q => absurd q (by omega)) (fun _ => chkI (inbI h0 (by omega)) ⟨?_, rfl⟩))))
  rw [(h.2.2.2 x h0 h1).1]
theorem eo_loop {Q : sQ} {v : sF} {T : Int → Int} {n s : Int} (h : TX v T n) : ∀ (m : Nat) (k : Int), k + m = n → 0 ≤ k → Q (some (0, eo T n s k)) (c, v) → Wp (Ev (d + 1)) 0 (fun _ => 0) 74 Q 2 [(2, 56), (9, 0), (0, s), (0, k)] [] c v := by
  have h56 := h.1
  have h9 := h.2.2.1
  intro m
  induction m with
  | zero =>
    intro k hk h0 hQ
    refine E74_2 _ _ (brbI (fun _ => ?_) (fun q => absurd q (by omega)))
    rw [eo_f (by omega)] at hQ
    rw [show v 56 1 = k by omega]
    exact hQ
  | succ m ih =>
    intro k hk h0 hQ
    refine E74_2 _ _ (brbI (fun q => absurd q (by omega)) (fun _ => ⟨_, c, v, C_signAt h h0 (by omega), _, c, v, C_sortOf _, brbI (fun e => rngI (by omega) (ih (k + 1) (by omega) (by omega) ?_)) (fun e => ?_)⟩))
    · rw [← eo_t (by omega) e]; exact hQ
    · rw [eo_f (fun q => e q.2)] at hQ; exact hQ
theorem C_endOf {v : sF} {T : Int → Int} {n s k : Int} (h : TX v T n) (h0 : 0 ≤ k) (h1 : k ≤ n) : Ev (d + 2) 74 [(2, 56), (0, k), (0, s)] (c, v) (some (0, eo T n s k)) (c, v) :=
  Ev_of (loc74 _ _) (E74_0 _ _ (eo_loop h (n - k).toNat k (by omega) h0 ⟨rfl, rfl⟩))
theorem nv_loop {Q : sQ} {v : sF} {T : Int → Int} {n e : Int} (h : TX v T n) (he : e ≤ n) : ∀ (m : Nat) (p a : Int), p + m = e → 0 ≤ p → m ≤ 3 → 0 ≤ a → a ≤ bdN m → (∀ i, p ≤ i → i < e → srt (T i) = 48) → Q (some (0, nvN T m p a)) (c, v) → Wp (Ev (d + 1)) 0 (fun _ => 0) 76 Q 5 [(2, 56), (9, 0), (0, e), (0, a), (0, p)] [] c v := by
  intro m
  induction m with
  | zero =>
    intro p a hk h0 _ _ _ _ hQ
    exact E76_5 _ _ _ (brbI (fun _ => hQ) (fun q => absurd q (by omega)))
  | succ m ih =>
    intro p a hk h0 hm ha hb hd hQ
    have h9 := h.2.2.1
    have hdp := srt_48.1 (hd p (by omega) (by omega))
    have hb2 : a * 10 + T p - 48 ≤ bdN m := by
      rcases (show m = 0 ∨ m = 1 ∨ m = 2 by omega) with rfl | rfl | rfl <;> unfold bdN at hb ⊢ <;> simp at hb ⊢ <;> omega
    have hb3 : a ≤ 99 := by
      unfold bdN at hb
      split at hb
      · omega
      · split at hb
        · omega
        · split at hb <;> omega
    exact E76_5 _ _ _ (brbI (fun q => absurd q (by omega)) (fun _ => rngI (by omega) ⟨_, c, v, C_signAt h h0 (by omega), rngI (by omega) (rngI (by omega) (rngI (by omega) (ih (p + 1) _ (by omega) (by omega) (by omega) (by omega) hb2 (fun i i0 i1 => hd i (by omega) i1) hQ)))⟩))
theorem C_numberOf {v : sF} {T : Int → Int} {n s e : Int} (h : TX v T n) (h0 : 0 ≤ s) (h1 : s ≤ e) (he : e ≤ n) (h3 : e - s ≤ 3) (hd : ∀ i, s ≤ i → i < e → srt (T i) = 48) : Ev (d + 2) 76 [(2, 56), (0, s), (0, e)] (c, v) (some (0, nvN T (e - s).toNat s 0)) (c, v) :=
  Ev_of (loc76 _ _) (E76_0 _ _ (nv_loop h he (e - s).toNat s 0 (by omega) h0 (by omega) (by omega) (by unfold bdN; (repeat' split) <;> omega) hd ⟨rfl, rfl⟩))
/-- signs of a constant text -/
theorem gd_drop {l r : List Int} {i : Nat} {x : Int} (h : l.drop i = x :: r) : l.getD i 0 = x ∧ l.drop (i + 1) = r ∧ i < l.length := by
  have hl : i < l.length := by
    rcases Nat.lt_or_ge i l.length with q | q
    · exact q
    · rw [List.drop_of_length_le q] at h; cases h
  rw [List.drop_eq_getElem_cons hl] at h
  injection h with h1 h2
  refine ⟨?_, h2, hl⟩
  rw [List.getD_eq_getElem?_getD, List.getElem?_eq_getElem hl, ← h1]
  rfl
theorem sp_loop {Q : sQ} {v : sF} {T : Int → Int} {n : Int} (h : TX v T n) {s f t : Int} (hs : 0 ≤ s) (hf : 0 ≤ f) : ∀ (r z : List Int) (i : Int), f ≤ i → i + r.length = t → s + (t - f) ≤ n → (sL 0).drop i.toNat = r ++ z → Q (some (0, if bt T r.length (s + i - f) = r then 1 else 0)) (c, v) → Wp (Ev (d + 4)) 0 (fun _ => 0) 78 Q 3 [(2, 56), (0, s), (0, f), (0, t), (0, i)] [] c v := by
  have h9 := h.2.2.1
  have hL : (sL 0).length = 108 := by decide
  intro r
  induction r with
  | nil =>
    intro z i h1 h2 h3 h4 hQ
    refine E78_3 _ _ _ _ (brbI (fun _ => ?_) (fun q => absurd q (by simp at h2; omega)))
    rw [show bt T ([] : List Int).length (s + i - f) = [] from rfl, if_pos rfl] at hQ
    exact hQ
  | cons x r ih =>
    intro z i h1 h2 h3 h4 hQ
    rw [List.cons_append] at h4
    obtain ⟨g1, g2, g3⟩ := gd_drop h4
    rw [List.length_cons] at h2
    rw [hL] at g3
    refine E78_3 _ _ _ _ (brbI (fun q => absurd q (by omega)) (fun _ => ⟨_, c, v, C_charAt (d := d) (by omega) (by rw [hL]; omega), rngI (by omega) (rngI (by omega) ⟨_, c, v, C_signAt (d := d + 3) h (by omega) (by omega), ?_⟩)⟩))
    rw [g1]
    rw [show bt T (x :: r).length (s + i - f) = T (s + i - f) :: bt T r.length (s + i - f + 1) from rfl] at hQ
    refine brbI (fun e => rngI (by omega) (ih z (i + 1) (by omega) (by omega) h3 (by rw [show (i + 1).toNat = i.toNat + 1 by omega]; exact g2) ?_)) (fun e => ?_)
    · rw [show s + (i + 1) - f = s + i - f + 1 by omega]
      rw [← e] at hQ
      by_cases q : bt T r.length (s + i - f + 1) = r
      · rw [if_pos (by rw [q])] at hQ; rw [if_pos q]; exact hQ
      · rw [if_neg (fun w => q (List.cons.inj w).2)] at hQ; rw [if_neg q]; exact hQ
    · rw [if_neg (fun w => e (List.cons.inj w).1.symm)] at hQ; exact hQ
theorem C_spells {v : sF} {T : Int → Int} {n : Int} (h : TX v T n) {s f t : Int} (hs : 0 ≤ s) (hf : 0 ≤ f) (r z : List Int) (h2 : f + r.length = t) (h3 : s + (t - f) ≤ n) (h4 : (sL 0).drop f.toNat = r ++ z) : Ev (d + 5) 78 [(2, 56), (0, s), (0, f), (0, t)] (c, v) (some (0, if bt T r.length s = r then 1 else 0)) (c, v) := by
  refine Ev_of (loc78 _ _ _) (E78_0 _ _ _ (sp_loop h hs hf r z f (by omega) h2 h3 h4 ⟨?_, rfl⟩))
  rw [show s + f - f = s by omega]
/-- within one word -/
theorem wk_in {Q : sQ} {v : sF} {T : Int → Int} {n : Int} (h : TX v T n) {s e f k : Int} (hs : 0 ≤ s) (he : s ≤ e) (hen : e ≤ n) (hf : 0 ≤ f) (hk : 0 ≤ k ∧ k ≤ 100) (w z : List Int) (hw : 32 ∉ w) (hd : (sL 0).drop f.toNat = w ++ 32 :: z) (hQ1 : bt T (e - s).toNat s = w → Q (some (0, k)) (c, v)) (hQ2 : bt T (e - s).toNat s ≠ w → Wp (Ev (d + 5)) 0 (fun _ => 0) 77 Q 8 [(2, 56), (0, s), (0, e), (0, k + 1), (0, f + w.length + 1), (0, f + w.length + 1)] [] c v) : ∀ (r : List Int) (i : Int), i + r.length = f + w.length → f ≤ i → 32 ∉ r → (sL 0).drop i.toNat = r ++ 32 :: z → Wp (Ev (d + 5)) 0 (fun _ => 0) 77 Q 8 [(2, 56), (0, s), (0, e), (0, k), (0, f), (0, i)] [] c v := by
  have h9 := h.2.2.1
  have hL : (sL 0).length = 108 := by decide
  intro r
  induction r with
  | nil =>
    intro i h1 h2 h3 h4
    rw [List.nil_append] at h4
    obtain ⟨g1, g2, g3⟩ := gd_drop h4
    rw [hL] at g3
    simp only [List.length_nil] at h1
    have hi : i = f + w.length := by omega
    refine E77_8 _ _ _ _ _ ⟨_, c, v, C_length (d := d + 3) 0, brbI (fun q => absurd q (by rw [hL]; omega)) (fun _ => ⟨_, c, v, C_charAt (d := d + 1) (by omega) (by rw [hL]; omega), ?_⟩)⟩
    rw [g1]
    refine brbN (fun q => absurd rfl q) (fun _ => rngI (by omega) (rngI (by omega) (brbN (fun q => rngI (by omega) (rngI (by omega) (rngI (by omega) ?_))) (fun q => ⟨_, c, v, C_spells (d := d) h hs hf w (32 :: z) hi.symm (by omega) hd, brbI (fun q2 => rngI (by omega) (rngI (by omega) (rngI (by omega) ?_))) (fun q2 => ?_)⟩))))
    · have := hQ2 (fun q2 => q (by have := congrArg List.length q2; rw [bt_len] at this; omega))
      rw [← hi] at this; exact this
    · have := hQ2 (fun q3 => by
        have hl : (e - s).toNat = w.length := by have := congrArg List.length q3; rwa [bt_len] at this
        rw [hl] at q3
        rw [if_pos q3] at q2; exact absurd q2 (by decide))
      rw [← hi] at this; exact this
    · refine hQ1 ?_
      have hl : (e - s).toNat = w.length := by omega
      rw [hl]
      rcases Decidable.em (bt T w.length s = w) with q3 | q3
      · exact q3
      · rw [if_neg q3] at q2; exact absurd rfl q2
  | cons x r ih =>
    intro i h1 h2 h3 h4
    rw [List.cons_append] at h4
    obtain ⟨g1, g2, g3⟩ := gd_drop h4
    rw [hL] at g3
    rw [List.length_cons] at h1
    refine E77_8 _ _ _ _ _ ⟨_, c, v, C_length (d := d + 3) 0, brbI (fun q => absurd q (by rw [hL]; omega)) (fun _ => ⟨_, c, v, C_charAt (d := d + 1) (by omega) (by rw [hL]; omega), ?_⟩)⟩
    rw [g1]
    refine brbN (fun q => rngI (by omega) (ih (i + 1) (by omega) (by omega) (fun q2 => h3 (List.mem_cons_of_mem _ q2)) (by rw [show (i + 1).toNat = i.toNat + 1 by omega]; exact g2))) (fun q => absurd (q ▸ List.mem_cons_self) h3)
theorem drop_add {l a b : List Int} {i : Nat} (h : l.drop i = a ++ b) : l.drop (i + a.length) = b := by
  rw [← List.drop_drop, h, List.drop_left]
theorem wk_all {Q : sQ} {v : sF} {T : Int → Int} {n : Int} (h : TX v T n) {s e : Int} (hs : 0 ≤ s) (he : s ≤ e) (hen : e ≤ n) : ∀ (l : List (List Int)) (k f : Int), 0 ≤ f → 0 ≤ k → k + l.length ≤ 100 → (∀ w ∈ l, 32 ∉ w) → (sL 0).drop f.toNat = flw l → f + (flw l).length = 108 → Q (some (0, fk l k 37 (bt T (e - s).toNat s))) (c, v) → Wp (Ev (d + 5)) 0 (fun _ => 0) 77 Q 8 [(2, 56), (0, s), (0, e), (0, k), (0, f), (0, f)] [] c v := by
  have hL : (sL 0).length = 108 := by decide
  intro l
  induction l with
  | nil =>
    intro k f h0 hk hk2 hw hd hf hQ
    refine E77_8 _ _ _ _ _ ⟨_, c, v, C_length (d := d + 3) 0, brbI (fun _ => hQ) (fun q => absurd q (by rw [hL]; simp [flw] at hf; omega))⟩
  | cons w r ih =>
    intro k f h0 hk hk2 hw hd hf hQ
    rw [List.length_cons] at hk2
    have hd2 : (sL 0).drop f.toNat = w ++ 32 :: flw r := hd
    have hdn := drop_add (a := w ++ [32]) (b := flw r) (by rw [hd2, List.append_assoc]; rfl)
    rw [List.length_append] at hdn
    have hf2 : (flw (w :: r)).length = w.length + 1 + (flw r).length := by
      show (w ++ 32 :: flw r).length = _
      rw [List.length_append, List.length_cons]; omega
    refine wk_in h hs he hen h0 ⟨hk, by omega⟩ w (flw r) (hw w List.mem_cons_self) hd2 (fun q => ?_) (fun q => ih (k + 1) (f + w.length + 1) (by omega) (by omega) (by omega) (fun x hx => hw x (List.mem_cons_of_mem _ hx)) (by rw [← hdn]; congr 1; simp; omega) (by rw [hf2] at hf; omega) ?_) w f rfl (by omega) (hw w List.mem_cons_self) hd2
    · rw [show fk (w :: r) k 37 (bt T (e - s).toNat s) = if bt T (e - s).toNat s = w then k else fk r (k + 1) 37 (bt T (e - s).toNat s) from rfl, if_pos q] at hQ
      exact hQ
    · rw [show fk (w :: r) k 37 (bt T (e - s).toNat s) = if bt T (e - s).toNat s = w then k else fk r (k + 1) 37 (bt T (e - s).toNat s) from rfl, if_neg q] at hQ
      exact hQ
theorem C_wordKind {v : sF} {T : Int → Int} {n : Int} (h : TX v T n) {s e : Int} (hs : 0 ≤ s) (he : s ≤ e) (hen : e ≤ n) : Ev (d + 6) 77 [(2, 56), (0, s), (0, e)] (c, v) (some (0, fk wlC 0 37 (bt T (e - s).toNat s))) (c, v) :=
  Ev_of (loc77 _ _) (E77_0 _ _ (wk_all h hs he hen wlC 0 0 (by omega) (by omega) (by decide) (by decide) (by rw [wlC_s]; rfl) (by decide) ⟨rfl, rfl⟩))
theorem C_codeOf {v : sF} {T : Int → Int} {n : Int} (h : TX v T n) {s e : Int} (hs : 0 ≤ s) (he : s < e) (hen : e ≤ n) (hd : srt (T s) = 48 → ∀ i, s ≤ i → i < e → srt (T i) = 48) : Ev (d + 7) 75 [(2, 56), (0, s), (0, e), (0, srt (T s))] (c, v) (some (0, cdF T s e (srt (T s)))) (c, v) := by
  have h9 := h.2.2.1
  have hT := h.2.2.2 s hs (by omega)
  refine Ev_of (loc75 _ _ _) (E75_0 _ _ _ (brbN (fun q => brbN (fun q2 => ⟨_, c, v, C_signAt (d := d + 5) h hs (by omega), _, c, v, C_indexOf (d := d + 2) (by decide), ?_⟩) (fun q2 => rngI (by omega) (brbI (fun q3 => ⟨_, c, v, C_numberOf (d := d + 4) h hs (by omega) hen q3 (hd q2), ?_, rfl⟩) (fun q3 => ⟨?_, rfl⟩)))) (fun q => ⟨_, c, v, C_wordKind (d := d) h hs (by omega) hen, ?_⟩)))
  · have hm : T s % 65536 = T s := by omega
    rw [hm]
    have hr := idx1_rng (T s)
    refine brbI (fun q3 => rngI (by omega) (rngI (by omega) ⟨?_, rfl⟩)) (fun q3 => rngI (by omega) ⟨?_, rfl⟩)
    · unfold cdF; rw [if_neg q, if_neg q2, if_pos q3]
    · unfold cdF; rw [if_neg q, if_neg q2, if_neg q3]; rfl
  · unfold cdF; rw [if_neg q, if_pos q2, if_pos q3]
  · unfold cdF; rw [if_neg q, if_pos q2, if_neg q3]
  · have := fk_km (bt T (e - s).toNat s)
    refine rngI (by omega) ⟨?_, rfl⟩
    unfold cdF; rw [if_pos q]
/-- where the j-th token is looked for -/
def ep (T : Int → Int) (n : Int) : Nat → Int
  | 0 => 0
  | j + 1 => te T n (ep T n j)
theorem ep_rng {T : Int → Int} {n : Int} (hn : 0 ≤ n) : ∀ j : Nat, 0 ≤ ep T n j ∧ ep T n j ≤ n := by
  intro j
  induction j with
  | zero => exact ⟨by show 0 ≤ (0 : Int); omega, hn⟩
  | succ j ih =>
    have h := te_sp (T := T) ih.2
    have h2 := ts_sp (T := T) ih.2
    show 0 ≤ te T n (ep T n j) ∧ te T n (ep T n j) ≤ n
    omega
/-- all tokens stand in the row -/
def Rw (v : sF) (T : Int → Int) (n : Int) (m : Nat) : Prop := ∀ j : Nat, j < m → v 57 j = ts T n (ep T n j) * 2048 + tcd T n (ep T n j) ∧ ts T n (ep T n j) < n
theorem ra_loop {Q : sQ} {T : Int → Int} {n : Int} (v0 : sF) (hQ : ∀ v (m : Nat), Off [56, 57] v0 v → TX v T n → v 56 3 = m → v 56 4 = 0 → m ≤ 900 → Rw v T n m → ts T n (ep T n m) = n → Q none (c, v)) : ∀ (q j : Nat) (v : sF), j + q = 900 → Off [56, 57] v0 v → TX v T n → v 56 3 = j → v 56 4 = 0 → (j : Int) ≤ ep T n j → Rw v T n j → Wp (Ev (d + 7)) 0 (fun _ => 0) 71 Q 27 [(2, 56), (9, 0), (0, ep T n j), (0, (j : Int)), (9, 0), (9, 0)] [] c v := by
  intro q
  induction q with
  | zero =>
    intro j v hj ho hX h3 h4 h5 h6
    have hn := hX.2.2.1
    have he := ep_rng (T := T) hX.2.1 j
    have hs := ts_sp (T := T) he.2
    exact E71_27 _ _ (brbI (fun _ => hQ v j ho hX h3 h4 (by omega) h6 (by omega)) (fun z => absurd z (by omega)))
  | succ q ih =>
    intro j v hj ho hX h3 h4 h5 h6
    have h56 := hX.1
    have hn := hX.2.2.1
    have he := ep_rng (T := T) hX.2.1 j
    have hs := ts_sp (T := T) he.2
    have hte := te_sp (T := T) he.2
    refine E71_27 _ _ (brbI (fun z => absurd z (by omega)) (fun _ => ⟨_, c, v, C_endOf (d := d + 5) hX he.1 he.2, ?_⟩))
    show brb (decide (ts T n (ep T n j) < v 56 1)) _ _
    rw [h56]
    refine brbI (fun z => ⟨_, c, v, C_signAt (d := d + 6) hX (by show 0 ≤ ts T n (ep T n j); omega) z, _, c, v, C_sortOf (d := d + 6) _, ?_⟩) (fun z => hQ v j ho hX h3 h4 (by omega) h6 (by omega))
    have hcd := tcd_rng (T := T) he.2 z
    have hfin : ∀ e : Int, e = te T n (ep T n j) → Wp (Ev (d + 7)) 0 (fun _ => 0) 71 Q 27 [(2, 56), (9, 0), (0, e), (0, (j : Int) + 1), (9, 0), (9, 0)] [] c (up (up v 57 (v 56 3) (ts T n (ep T n j) * 2048 + tcd T n (ep T n j))) 56 3 (v 56 3 + 1)) := by
      intro e hee
      rw [hee, h3]
      have hx1 : TX (up (up v 57 (j : Int) (ts T n (ep T n j) * 2048 + tcd T n (ep T n j))) 56 3 ((j : Int) + 1)) T n := by
        refine ⟨?_, hX.2.1, hX.2.2.1, ?_⟩
        · rw [up_ne _ (by decide), up_ne2 _ (by decide)]; exact h56
        · rw [up_off 2 (by decide), up_off 2 (by decide)]; exact hX.2.2.2
      refine ih (j + 1) _ (by omega) ((ho.up (by decide)).up (by decide)) hx1 (by rw [up_same]; omega) (by rw [up_ne _ (by decide), up_ne2 _ (by decide)]; exact h4) (by show ((j + 1 : Nat) : Int) ≤ te T n (ep T n j); have := hte.2.2 z; omega) (fun i hi => ?_)
      rw [up_off 57 (by decide)]
      by_cases e2 : i = j
      · subst e2; rw [up_same]; exact ⟨rfl, z⟩
      · rw [up_ne _ (by omega)]; exact h6 i (by omega)
    refine brbN (fun z2 => ⟨_, c, v, C_endOf (d := d + 5) hX (by show 0 ≤ ts T n (ep T n j); omega) (by show ts T n (ep T n j) ≤ n; omega), ?_⟩) (fun z2 => ?_)
    · have hte2 : eo T n (srt (T (eo T n 32 (ep T n j)))) (eo T n 32 (ep T n j)) = te T n (ep T n j) := by
        show eo T n (srt (T (ts T n (ep T n j)))) (ts T n (ep T n j)) = _
        unfold te; rw [if_neg (by omega), if_neg (show ¬ srt (T (ts T n (ep T n j))) = 63 from z2)]
      rw [hte2]
      refine rngI (by show _ ≤ ts T n (ep T n j) * 2048 ∧ ts T n (ep T n j) * 2048 ≤ _; omega) ⟨_, c, v, C_codeOf (d := d) (s := ts T n (ep T n j)) hX (by omega) (hte.2.2 z) hte.2.1 (fun hh i i0 i1 => ?_), ?_⟩
      · rw [te_48 z hh] at i1; exact (eo_sp (T := T) (s := 48) hs.2.1).2.2.2 i i0 i1
      · show rngc (ts T n (ep T n j) * 2048 + tcd T n (ep T n j)) _
        exact rngI (by omega) (chkI (inbI (by omega) (by omega)) (rngI (by omega) (rngI (by omega) (hfin _ rfl))))
    · have hte2 : eo T n 32 (ep T n j) + 1 = te T n (ep T n j) := by
        show ts T n (ep T n j) + 1 = _
        unfold te; rw [if_neg (by omega), if_pos (show srt (T (ts T n (ep T n j))) = 63 from z2)]
      rw [hte2]
      refine rngI (by omega) (rngI (by show _ ≤ ts T n (ep T n j) * 2048 ∧ ts T n (ep T n j) * 2048 ≤ _; omega) ⟨_, c, v, C_codeOf (d := d) (s := ts T n (ep T n j)) hX (by omega) (hte.2.2 z) hte.2.1 (fun hh i i0 i1 => ?_), ?_⟩)
      · have : srt (T (ts T n (ep T n j))) = 63 := z2
        omega
      · show rngc (ts T n (ep T n j) * 2048 + tcd T n (ep T n j)) _
        exact rngI (by omega) (chkI (inbI (by omega) (by omega)) (rngI (by omega) (rngI (by omega) (hfin _ rfl))))
theorem C_readAll {v : sF} {T : Int → Int} {n : Int} (hn : 0 ≤ n ∧ n ≤ 900) (hT : ∀ i : Int, 0 ≤ i → i < n → iand (v 2 i) 255 = T i ∧ 0 ≤ T i ∧ T i ≤ 255) : ∃ v', Ev (d + 8) 71 [(2, 56), (0, n)] (c, v) none (c, v') ∧ (Off [56, 57] v v' ∧ TX v' T n ∧ ∃ m : Nat, v' 56 3 = m ∧ v' 56 4 = 0 ∧ m ≤ 900 ∧ Rw v' T n m ∧ ts T n (ep T n m) = n) := by
  refine CV_of (loc71 _) (E71_0 _ ⟨_, c, v, C_min (d := d + 6) n 900, ?_⟩)
  rw [if_neg (by omega)]
  refine ra_loop (T := T) v (fun v1 m a1 a2 a3 a4 a5 a6 a7 => ⟨rfl, _, rfl, a1, a2, m, a3, a4, a5, a6, a7⟩) 900 0 _ (by omega) ((((Off.rf _ v).up (by decide)).up (by decide)).up (by decide)) ⟨?_, hn.1, hn.2, ?_⟩ ?_ ?_ (by show ((0 : Nat) : Int) ≤ 0; omega) (fun j hj => absurd hj (by omega))
  · rw [up_ne _ (by decide), up_ne _ (by decide), up_same]
  · rw [up_off 2 (by decide), up_off 2 (by decide), up_off 2 (by decide)]; exact hT
  · rw [up_ne _ (by decide), up_same]; rfl
  · rw [up_same]
end Tok
