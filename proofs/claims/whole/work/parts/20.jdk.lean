section Jdk
variable {d c : Nat} {v : sF}
theorem C_max (a b : Int) : Ev (d + 1) 299 [(0, a), (0, b)] (c, v) (some (0, if a < b then b else a)) (c, v) := by
  refine Ev_of (loc299 a b) (E299_0 a b (brbI (fun h => ⟨by rw [if_pos h], rfl⟩) (fun h => ⟨by rw [if_neg h], rfl⟩)))
theorem C_min (a b : Int) : Ev (d + 1) 300 [(0, a), (0, b)] (c, v) (some (0, if b < a then b else a)) (c, v) := by
  refine Ev_of (loc300 a b) (E300_0 a b (brbI (fun h => ⟨by rw [if_pos h], rfl⟩) (fun h => ⟨by rw [if_neg h], rfl⟩)))
theorem ixor_sign {a b : Int} (ha : -2147483648 ≤ a ∧ a ≤ 2147483647) (hb : -2147483648 ≤ b ∧ b ≤ 2147483647) : 0 ≤ ixor a b ↔ (0 ≤ a ↔ 0 ≤ b) := by
  have key : ∀ x : Int32, x.toBitVec.msb = decide (x.toInt < 0) := fun x => BitVec.msb_eq_toInt
  have h1 := key (Int32.ofInt a ^^^ Int32.ofInt b)
  have h2 := key (Int32.ofInt a)
  have h3 := key (Int32.ofInt b)
  rw [Int32.toBitVec_xor, BitVec.msb_xor, h2, h3, t32 ha, t32 hb] at h1
  unfold ixor
  by_cases q1 : a < 0 <;> by_cases q2 : b < 0 <;> simp [q1, q2] at h1 <;> constructor <;> intro q3 <;> first | omega | (constructor <;> omega)
theorem C_floorMod {a b : Int} (ha : -2147483648 ≤ a ∧ a ≤ 2147483647) (hb : 1 ≤ b ∧ b ≤ 100) : Ev (d + 1) 298 [(0, a), (0, b)] (c, v) (some (0, a % b)) (c, v) := by
  have hs := ixor_sign ha (b := b) (by omega)
  have hm1 : 0 ≤ a → Int.tmod a b = a % b := fun h => Int.tmod_eq_emod_of_nonneg h
  have hm2 : ¬ 0 ≤ a → Int.tmod a b = 0 → a % b = 0 := fun h h2 => by
    have := Int.dvd_of_tmod_eq_zero h2
    exact Int.emod_eq_zero_of_dvd this
  have hm3 : ¬ 0 ≤ a → Int.tmod a b ≠ 0 → Int.tmod a b + b = a % b := fun h h2 => by
    have e1 := Int.tmod_add_mul_tdiv a b
    have e2 := Int.emod_add_mul_ediv a b
    have e3 := Int.emod_nonneg a (show b ≠ 0 by omega)
    have e4 := Int.emod_lt_of_pos a (show 0 < b by omega)
    have e5 : Int.tmod (-a) b = - Int.tmod a b := Int.neg_tmod a b
    have e6 := Int.tmod_nonneg b (show 0 ≤ -a by omega)
    have e7 := Int.tmod_lt_of_pos (-a) (show 0 < b by omega)
    have e8 : (Int.tmod a b + b) % b = a % b := by
      rw [Int.add_emod_right]
      have : Int.tmod a b = a - b * Int.tdiv a b := Int.tmod_def a b
      rw [this, Int.sub_mul_emod_self_left]
    rw [← e8, Int.emod_eq_of_lt (by omega) (by omega)]
  have hr := tmod_rng (b := b) ha (by decide) (by decide)
  have h5 : ¬ 0 ≤ a → Int.tmod a b + b ≤ 2147483647 := fun h => by
    have e5 : Int.tmod (-a) b = - Int.tmod a b := Int.neg_tmod a b
    have e6 := Int.tmod_nonneg b (show 0 ≤ -a by omega)
    omega
  refine Ev_of (loc298 a b) (E298_0 a b (chkN (by omega) (brbI (fun h => ⟨?_, rfl⟩) (fun h => brbI (fun h2 => ⟨?_, rfl⟩) (fun h2 => rngI ⟨by omega, h5 ?_⟩ ⟨?_, rfl⟩)))))
  · rw [hm1 (by omega)]
  · rw [hm2 (by omega) h2, h2]
  · omega
  · rw [hm3 (by omega) h2]
def bc6 (x : Int) : Int := x % 2 + x / 2 % 2 + x / 4 % 2 + x / 8 % 2 + x / 16 % 2 + x / 32 % 2
set_option maxRecDepth 20000 in
theorem C_bitCount {x : Int} (h0 : 0 ≤ x) (h1 : x < 64) : Ev (d + 1) 297 [(0, x)] (c, v) (some (0, bc6 x)) (c, v) := by
  obtain ⟨n, hn, rfl⟩ : ∃ n : Nat, n < 64 ∧ x = (n : Int) := ⟨x.toNat, by omega, by omega⟩
  refine Ev_of (loc297 _) (E297_0 _ ⟨?_, rfl⟩)
  congr 2
  have key : ∀ n : Fin 64, iand (w32 ((w32 ((iand (w32 ((w32 ((iand (w32 (((n.val : Nat) : Int) - (iand (iush ((n.val : Nat) : Int) 1) 1431655765))) 858993459) + (iand (iush (w32 (((n.val : Nat) : Int) - (iand (iush ((n.val : Nat) : Int) 1) 1431655765))) 2) 858993459))) + (iush (w32 ((iand (w32 (((n.val : Nat) : Int) - (iand (iush ((n.val : Nat) : Int) 1) 1431655765))) 858993459) + (iand (iush (w32 (((n.val : Nat) : Int) - (iand (iush ((n.val : Nat) : Int) 1) 1431655765))) 2) 858993459))) 4))) 252645135) + (iush (iand (w32 ((w32 ((iand (w32 (((n.val : Nat) : Int) - (iand (iush ((n.val : Nat) : Int) 1) 1431655765))) 858993459) + (iand (iush (w32 (((n.val : Nat) : Int) - (iand (iush ((n.val : Nat) : Int) 1) 1431655765))) 2) 858993459))) + (iush (w32 ((iand (w32 (((n.val : Nat) : Int) - (iand (iush ((n.val : Nat) : Int) 1) 1431655765))) 858993459) + (iand (iush (w32 (((n.val : Nat) : Int) - (iand (iush ((n.val : Nat) : Int) 1) 1431655765))) 2) 858993459))) 4))) 252645135) 8))) + (iush (w32 ((iand (w32 ((w32 ((iand (w32 (((n.val : Nat) : Int) - (iand (iush ((n.val : Nat) : Int) 1) 1431655765))) 858993459) + (iand (iush (w32 (((n.val : Nat) : Int) - (iand (iush ((n.val : Nat) : Int) 1) 1431655765))) 2) 858993459))) + (iush (w32 ((iand (w32 (((n.val : Nat) : Int) - (iand (iush ((n.val : Nat) : Int) 1) 1431655765))) 858993459) + (iand (iush (w32 (((n.val : Nat) : Int) - (iand (iush ((n.val : Nat) : Int) 1) 1431655765))) 2) 858993459))) 4))) 252645135) + (iush (iand (w32 ((w32 ((iand (w32 (((n.val : Nat) : Int) - (iand (iush ((n.val : Nat) : Int) 1) 1431655765))) 858993459) + (iand (iush (w32 (((n.val : Nat) : Int) - (iand (iush ((n.val : Nat) : Int) 1) 1431655765))) 2) 858993459))) + (iush (w32 ((iand (w32 (((n.val : Nat) : Int) - (iand (iush ((n.val : Nat) : Int) 1) 1431655765))) 858993459) + (iand (iush (w32 (((n.val : Nat) : Int) - (iand (iush ((n.val : Nat) : Int) 1) 1431655765))) 2) 858993459))) 4))) 252645135) 8))) 16))) 63 = bc6 ((n.val : Nat) : Int) := by decide +kernel
  exact key ⟨n, hn⟩
theorem C_coder (k : Int) : Ev (d + 1) 305 [(3, k)] (c, v) (some (0, 0)) (c, v) := Ev_of (loc305 k) (E305_0 k ⟨rfl, rfl⟩)
theorem C_isLatin1 (k : Int) : Ev (d + 1) 306 [(3, k)] (c, v) (some (0, 1)) (c, v) := Ev_of (loc306 k) (E306_0 k ⟨rfl, rfl⟩)
def sL (k : Int) : List Int := sTab.getD k.toNat []
theorem ishr_0 {a : Int} (ha : -2147483648 ≤ a ∧ a ≤ 2147483647) : ishr a 0 = a := by
  have h : (Int32.ofInt a >>> (Int32.ofInt 0 &&& 31)) = Int32.ofInt a := by
    rw [show (Int32.ofInt 0 &&& 31) = 0 by decide]
    simp
  unfold ishr
  rw [h, t32 ha]
theorem C_length (k : Int) : Ev (d + 2) 301 [(3, k)] (c, v) (some (0, ((sL k).length : Int))) (c, v) := by
  have := sLen_ok k.toNat
  refine Ev_of (loc301 k) (E301_0 k ⟨0, c, v, C_coder k, ?_, rfl⟩)
  rw [ishr_0 (by omega)]
  rfl
theorem C_preCheck {i n : Int} (h0 : 0 ≤ i) (h1 : i < n) : Ev (d + 1) 312 [(0, i), (0, n), (6, 0)] (c, v) (some (0, i)) (c, v) := Ev_of (loc312 i n) (E312_0 i n (brbI (fun h => absurd h0 (by omega)) (fun _ => brbI (fun _ => ⟨rfl, rfl⟩) (fun h => absurd h1 h))))
theorem C_strCheck {i n : Int} (h0 : 0 ≤ i) (h1 : i < n) : Ev (d + 2) 307 [(0, i), (0, n)] (c, v) none (c, v) := Ev_of (loc307 i n) (E307_0 i n ⟨i, c, v, C_preCheck h0 h1, rfl, rfl⟩)
theorem iand_255 {x : Int} (h0 : 0 ≤ x) (h1 : x < 256) : iand x 255 = x := by
  obtain ⟨n, hn, rfl⟩ : ∃ n : Nat, n < 256 ∧ x = (n : Int) := ⟨x.toNat, by omega, by omega⟩
  have key : ∀ n : Fin 256, iand ((n.val : Nat) : Int) 255 = ((n.val : Nat) : Int) := by decide +kernel
  exact key ⟨n, hn⟩
theorem C_latCharAt {k i : Int} (h0 : 0 ≤ i) (h1 : i < ((sL k).length : Int)) : Ev (d + 3) 308 [(5, k), (0, i)] (c, v) (some (0, (sL k).getD i.toNat 0)) (c, v) := by
  have hc := sCh_ok k.toNat i.toNat
  have e1 : (iand ((sTab.getD k.toNat []).getD i.toNat 0) 255) % 65536 = (sL k).getD i.toNat 0 := by
    rw [iand_255 (by omega) (by omega)]
    unfold sL
    omega
  refine Ev_of (loc308 k i) (E308_0 k i ⟨c, v, C_strCheck h0 h1, chkI (inbI h0 h1) (chkI ?_ ⟨?_, rfl⟩)⟩)
  · rw [e1]
    have hc2 : 0 ≤ (sL k).getD i.toNat 0 ∧ (sL k).getD i.toNat 0 < 128 := hc
    generalize (sL k).getD i.toNat 0 = z at *
    simp
    omega
  · rw [e1]
theorem C_charAt {k i : Int} (h0 : 0 ≤ i) (h1 : i < ((sL k).length : Int)) : Ev (d + 4) 302 [(3, k), (0, i)] (c, v) (some (0, (sL k).getD i.toNat 0)) (c, v) := by
  have hc := sCh_ok k.toNat i.toNat
  refine Ev_of (loc302 k i) (E302_0 k i ⟨1, c, v, C_isLatin1 k, brbI (fun h => absurd h (by decide)) (fun _ => ⟨_, c, v, C_latCharAt h0 h1, chkI ?_ ⟨rfl, rfl⟩⟩)⟩)
  have hc2 : 0 ≤ (sL k).getD i.toNat 0 ∧ (sL k).getD i.toNat 0 < 128 := hc
  generalize (sL k).getD i.toNat 0 = z at *
  simp
  omega
theorem C_canEncode {x : Int} : Ev (d + 1) 309 [(0, x)] (c, v) (some (0, if 0 ≤ x ∧ x ≤ 255 then 1 else 0)) (c, v) := by
  refine Ev_of (loc309 x) (E309_0 x (brbI (fun h => ⟨by rw [if_neg (by omega)], rfl⟩) (fun h => brbI (fun h2 => ⟨by rw [if_neg (by omega)], rfl⟩) (fun h2 => ⟨by rw [if_pos (by omega)], rfl⟩))))
theorem C_idxLoop {k ch : Int} {Q : sQ} (hQ : ∀ x, x = idxOf ch 0 (sL k) → Q (some (0, x)) (c, v)) : ∀ (n : Nat) (i : Int), 0 ≤ i → (sL k).length = i.toNat + n → idxOf ch i ((sL k).drop i.toNat) = idxOf ch 0 (sL k) → Wp (Ev d) 0 (fun _ => 0) 311 Q 7 [(5, k), (9, 0), (9, 0), (0, ((sL k).length : Int)), (0, ch), (0, i)] [] c v := by
  have hl := sLen_ok k.toNat
  have hl2 : (sL k).length < 200 := hl
  intro n
  induction n with
  | zero =>
    intro i h0 h1 h2
    refine E311_7 _ _ _ _ (brbI (fun h => hQ _ ?_) (fun h => absurd h (by omega)))
    rw [← h2, List.drop_of_length_le (by omega)]
    rfl
  | succ n ih =>
    intro i h0 h1 h2
    have hlt : i.toNat < (sL k).length := by omega
    have hd : (sL k).drop i.toNat = (sL k).getD i.toNat 0 :: (sL k).drop (i.toNat + 1) := by
      rw [List.drop_eq_getElem_cons hlt, List.getD_eq_getElem?_getD, List.getElem?_eq_getElem hlt]
      rfl
    rw [hd, show idxOf ch i ((sL k).getD i.toNat 0 :: (sL k).drop (i.toNat + 1)) = if ch = (sL k).getD i.toNat 0 then i else idxOf ch (i + 1) ((sL k).drop (i.toNat + 1)) from rfl] at h2
    refine E311_7 _ _ _ _ (brbI (fun h => absurd h (by omega)) (fun h => chkI (inbI h0 (by show i < ((sL k).length : Int); omega)) (brbN (fun h3 => rngI (by omega) (ih (i + 1) (by omega) (by omega) ?_)) (fun h3 => hQ _ ?_))))
    · have h3 : ¬ (sL k).getD i.toNat 0 = ch := h3
      rw [if_neg (fun q => h3 q.symm)] at h2
      rw [show (i + 1).toNat = i.toNat + 1 by omega]
      exact h2
    · have h3 : (sL k).getD i.toNat 0 = ch := h3
      rw [if_pos h3.symm] at h2
      exact h2
theorem w8_ch {x : Int} (h0 : 0 ≤ x) (h1 : x ≤ 255) : (x < 128 → w8 x = x) ∧ (128 ≤ x → w8 x < 0) := by unfold w8; omega
theorem idxOf_none {x : Int} {l : List Int} (h : ∀ y ∈ l, y ≠ x) : ∀ i, idxOf x i l = -1 := by
  induction l with
  | nil => intro i; rfl
  | cons a r ih =>
    intro i
    unfold idxOf
    rw [if_neg (fun q => h a List.mem_cons_self q.symm)]
    exact ih (fun y hy => h y (List.mem_cons_of_mem _ hy)) _
theorem sL_mem {k y : Int} (h : y ∈ sL k) : 0 ≤ y ∧ y < 128 := by
  obtain ⟨i, hi⟩ := List.getElem?_of_mem h
  have := sCh_ok k.toNat i
  rw [List.getD_eq_getElem?_getD (l := sTab.getD k.toNat [])] at this
  unfold sL at hi
  rw [hi] at this
  exact this
theorem C_latIndexOf {k x : Int} (hk : 1 ≤ (sL k).length) : Ev (d + 2) 310 [(5, k), (0, x), (0, 0), (0, ((sL k).length : Int))] (c, v) (some (0, idxOf x 0 (sL k))) (c, v) := by
  have hl : (sL k).length < 200 := sLen_ok k.toNat
  refine Ev_of (loc310 k x 0 _) (E310_0 k x 0 _ ⟨_, c, v, C_canEncode, brbN (fun h => ?_) (fun h => ⟨?_, rfl⟩)⟩)
  · have hx : 0 ≤ x ∧ x ≤ 255 := by
      rcases Decidable.em (0 ≤ x ∧ x ≤ 255) with q | q
      · exact q
      · rw [if_neg q] at h; exact absurd rfl h
    refine ⟨_, c, v, C_max 0 0, _, c, v, C_min _ _, ?_⟩
    rw [if_neg (by omega), if_neg (by show ¬ ((sL k).length : Int) < ((sL k).length : Int); omega)]
    refine brbI (fun h2 => ⟨idxOf (w8 x) 0 (sL k), c, v, Ev_of (loc311 k x 0 _) (E311_0 k x 0 _ (C_idxLoop (fun z hz => ⟨by rw [hz], rfl⟩) (sL k).length 0 (by decide) (by simp) rfl)), ?_, rfl⟩) (fun h2 => absurd h2 (by omega))
    congr 2
    rcases Int.lt_or_le x 128 with q | q
    · rw [(w8_ch hx.1 hx.2).1 q]
    · have := (w8_ch hx.1 hx.2).2 q
      rw [idxOf_none (fun y hy => by have := sL_mem hy; omega), idxOf_none (fun y hy => by have := sL_mem hy; omega)]
  · congr 2
    have hx : ¬ (0 ≤ x ∧ x ≤ 255) := fun q => by rw [if_pos q] at h; exact absurd h (by decide)
    rw [idxOf_none (fun y hy => by have := sL_mem hy; omega)]
theorem C_indexOf {k x : Int} (hk : 1 ≤ (sL k).length) : Ev (d + 4) 303 [(3, k), (0, x)] (c, v) (some (0, idxOf x 0 (sL k))) (c, v) := by
  refine Ev_of (loc303 k x) (E303_0 k x ⟨_, c, v, Ev_of (loc304 k x 0) (E304_0 k x 0 ⟨1, c, v, C_isLatin1 k, brbI (fun h => absurd h (by decide)) (fun _ => ⟨_, c, v, C_length k, _, c, v, C_latIndexOf hk, rfl, rfl⟩)⟩), rfl, rfl⟩)
end Jdk
