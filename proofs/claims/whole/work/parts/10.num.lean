section Nums
theorem t32 {a : Int} (h : -2147483648 ≤ a ∧ a ≤ 2147483647) : (Int32.ofInt a).toInt = a := by
  rw [Int32.toInt_ofInt]
  unfold Int.bmod
  simp only [show ((Int32.size : Nat) : Int) = 4294967296 from rfl, show ((Int64.size : Nat) : Int) = 18446744073709551616 from rfl, show ((Int8.size : Nat) : Int) = 256 from rfl, show ((Int16.size : Nat) : Int) = 65536 from rfl, show (((2 : Nat) ^ 8 : Nat) : Int) = 256 from rfl, show (((2 : Nat) ^ 16 : Nat) : Int) = 65536 from rfl]
  split <;> omega
theorem t64 {a : Int} (h : -9223372036854775808 ≤ a ∧ a ≤ 9223372036854775807) : (Int64.ofInt a).toInt = a := by
  rw [Int64.toInt_ofInt]
  unfold Int.bmod
  simp only [show ((Int32.size : Nat) : Int) = 4294967296 from rfl, show ((Int64.size : Nat) : Int) = 18446744073709551616 from rfl, show ((Int8.size : Nat) : Int) = 256 from rfl, show ((Int16.size : Nat) : Int) = 65536 from rfl, show (((2 : Nat) ^ 8 : Nat) : Int) = 256 from rfl, show (((2 : Nat) ^ 16 : Nat) : Int) = 65536 from rfl]
  split <;> omega
theorem o32_of {a b : Int} (h : a % 4294967296 = b % 4294967296) : Int32.ofInt a = Int32.ofInt b := by
  apply Int32.toInt_inj.mp
  rw [Int32.toInt_ofInt, Int32.toInt_ofInt]
  unfold Int.bmod
  simp only [show ((Int32.size : Nat) : Int) = 4294967296 from rfl, show ((Int64.size : Nat) : Int) = 18446744073709551616 from rfl, show ((Int8.size : Nat) : Int) = 256 from rfl, show ((Int16.size : Nat) : Int) = 65536 from rfl, show (((2 : Nat) ^ 8 : Nat) : Int) = 256 from rfl, show (((2 : Nat) ^ 16 : Nat) : Int) = 65536 from rfl]
  rw [h]
theorem o64_of {a b : Int} (h : a % 18446744073709551616 = b % 18446744073709551616) : Int64.ofInt a = Int64.ofInt b := by
  apply Int64.toInt_inj.mp
  rw [Int64.toInt_ofInt, Int64.toInt_ofInt]
  unfold Int.bmod
  simp only [show ((Int32.size : Nat) : Int) = 4294967296 from rfl, show ((Int64.size : Nat) : Int) = 18446744073709551616 from rfl, show ((Int8.size : Nat) : Int) = 256 from rfl, show ((Int16.size : Nat) : Int) = 65536 from rfl, show (((2 : Nat) ^ 8 : Nat) : Int) = 256 from rfl, show (((2 : Nat) ^ 16 : Nat) : Int) = 65536 from rfl]
  rw [h]
theorem o32_w (a : Int) : Int32.ofInt (w32 a) = Int32.ofInt a := o32_of (by unfold w32; omega)
theorem o64_w (a : Int) : Int64.ofInt (w64 a) = Int64.ofInt a := o64_of (by unfold w64; omega)
theorem o32_add (a b : Int) : Int32.ofInt (w32 (a + b)) = Int32.ofInt a + Int32.ofInt b := by rw [o32_w, Int32.ofInt_add]
theorem o32_sub (a b : Int) : Int32.ofInt (w32 (a - b)) = Int32.ofInt a - Int32.ofInt b := by rw [o32_w, Int32.ofInt_sub]
theorem o32_mul (a b : Int) : Int32.ofInt (w32 (a * b)) = Int32.ofInt a * Int32.ofInt b := by rw [o32_w, Int32.ofInt_mul]
theorem o32_neg (a : Int) : Int32.ofInt (w32 (-a)) = - Int32.ofInt a := by rw [o32_w, Int32.ofInt_neg]
theorem o64_add (a b : Int) : Int64.ofInt (w64 (a + b)) = Int64.ofInt a + Int64.ofInt b := by rw [o64_w, Int64.ofInt_add]
theorem o64_sub (a b : Int) : Int64.ofInt (w64 (a - b)) = Int64.ofInt a - Int64.ofInt b := by rw [o64_w, Int64.ofInt_sub]
theorem o64_mul (a b : Int) : Int64.ofInt (w64 (a * b)) = Int64.ofInt a * Int64.ofInt b := by rw [o64_w, Int64.ofInt_mul]
theorem o32_div {a b : Int} (ha : -2147483648 ≤ a ∧ a ≤ 2147483647) (hb : -2147483648 ≤ b ∧ b ≤ 2147483647) : Int32.ofInt (w32 (Int.tdiv a b)) = Int32.ofInt a / Int32.ofInt b := by
  apply Int32.toInt_inj.mp
  rw [o32_w, Int32.toInt_div, t32 ha, t32 hb, Int32.toInt_ofInt]
theorem o64_div {a b : Int} (ha : -9223372036854775808 ≤ a ∧ a ≤ 9223372036854775807) (hb : -9223372036854775808 ≤ b ∧ b ≤ 9223372036854775807) : Int64.ofInt (w64 (Int.tdiv a b)) = Int64.ofInt a / Int64.ofInt b := by
  apply Int64.toInt_inj.mp
  rw [o64_w, Int64.toInt_div, t64 ha, t64 hb, Int64.toInt_ofInt]
theorem o32_rem {a b : Int} (ha : -2147483648 ≤ a ∧ a ≤ 2147483647) (hb : -2147483648 ≤ b ∧ b ≤ 2147483647) : Int32.ofInt (Int.tmod a b) = Int32.ofInt a - Int32.ofInt a / Int32.ofInt b * Int32.ofInt b := by
  rw [← o32_div ha hb, ← o32_mul, ← o32_sub, o32_w]
  apply o32_of
  have h := Int.tmod_def a b
  have h1 : w32 (w32 (Int.tdiv a b) * b) % 4294967296 = (Int.tdiv a b * b) % 4294967296 := by
    have e1 : w32 (w32 (Int.tdiv a b) * b) % 4294967296 = (w32 (Int.tdiv a b) * b) % 4294967296 := by unfold w32; omega
    rw [e1, Int.mul_emod, show w32 (Int.tdiv a b) % 4294967296 = Int.tdiv a b % 4294967296 by unfold w32; omega, ← Int.mul_emod]
  rw [Int.sub_emod, h1, ← Int.sub_emod]
  congr 1
  rw [h, Int.mul_comm]
theorem o64_rem {a b : Int} (ha : -9223372036854775808 ≤ a ∧ a ≤ 9223372036854775807) (hb : -9223372036854775808 ≤ b ∧ b ≤ 9223372036854775807) : Int64.ofInt (Int.tmod a b) = Int64.ofInt a - Int64.ofInt a / Int64.ofInt b * Int64.ofInt b := by
  rw [← o64_div ha hb, ← o64_mul, ← o64_sub, o64_w]
  apply o64_of
  have h := Int.tmod_def a b
  have h1 : w64 (w64 (Int.tdiv a b) * b) % 18446744073709551616 = (Int.tdiv a b * b) % 18446744073709551616 := by
    have e1 : w64 (w64 (Int.tdiv a b) * b) % 18446744073709551616 = (w64 (Int.tdiv a b) * b) % 18446744073709551616 := by unfold w64; omega
    rw [e1, Int.mul_emod, show w64 (Int.tdiv a b) % 18446744073709551616 = Int.tdiv a b % 18446744073709551616 by unfold w64; omega, ← Int.mul_emod]
  rw [Int.sub_emod, h1, ← Int.sub_emod]
  congr 1
  rw [h, Int.mul_comm]
theorem o32_t (x : Int32) : Int32.ofInt x.toInt = x := Int32.ofInt_toInt x
theorem o64_t (x : Int64) : Int64.ofInt x.toInt = x := Int64.ofInt_toInt x
theorem o_i2l {a : Int} (ha : -2147483648 ≤ a ∧ a ≤ 2147483647) : (Int32.ofInt a).toInt64 = Int64.ofInt a := by
  apply Int64.toInt_inj.mp
  rw [Int32.toInt_toInt64, t32 ha, t64 (by omega)]
theorem o_l2i {a : Int} (ha : -9223372036854775808 ≤ a ∧ a ≤ 9223372036854775807) : (Int64.ofInt a).toInt32 = Int32.ofInt (w32 a) := by
  apply Int32.toInt_inj.mp
  rw [Int64.toInt_toInt32, t64 ha, o32_w, Int32.toInt_ofInt]
theorem o_i2b {a : Int} (ha : -2147483648 ≤ a ∧ a ≤ 2147483647) : (Int32.ofInt a).toInt8.toInt32 = Int32.ofInt (w8 a) := by
  have h := w8_rng a
  apply Int32.toInt_inj.mp
  rw [Int8.toInt_toInt32, Int32.toInt_toInt8, t32 ha, t32 (by omega)]
  unfold Int.bmod w8
  simp only [show ((Int32.size : Nat) : Int) = 4294967296 from rfl, show ((Int64.size : Nat) : Int) = 18446744073709551616 from rfl, show ((Int8.size : Nat) : Int) = 256 from rfl, show ((Int16.size : Nat) : Int) = 65536 from rfl, show (((2 : Nat) ^ 8 : Nat) : Int) = 256 from rfl, show (((2 : Nat) ^ 16 : Nat) : Int) = 65536 from rfl]
  split <;> omega
theorem o_i2s {a : Int} (ha : -2147483648 ≤ a ∧ a ≤ 2147483647) : (Int32.ofInt a).toInt16.toInt32 = Int32.ofInt (w16 a) := by
  have h := w16_rng a
  apply Int32.toInt_inj.mp
  rw [Int16.toInt_toInt32, Int32.toInt_toInt16, t32 ha, t32 (by omega)]
  unfold Int.bmod w16
  simp only [show ((Int32.size : Nat) : Int) = 4294967296 from rfl, show ((Int64.size : Nat) : Int) = 18446744073709551616 from rfl, show ((Int8.size : Nat) : Int) = 256 from rfl, show ((Int16.size : Nat) : Int) = 65536 from rfl, show (((2 : Nat) ^ 8 : Nat) : Int) = 256 from rfl, show (((2 : Nat) ^ 16 : Nat) : Int) = 65536 from rfl]
  split <;> omega
theorem lt32 {a b : Int} (ha : -2147483648 ≤ a ∧ a ≤ 2147483647) (hb : -2147483648 ≤ b ∧ b ≤ 2147483647) : Int32.ofInt a < Int32.ofInt b ↔ a < b := by rw [Int32.lt_iff_toInt_lt, t32 ha, t32 hb]
theorem le32 {a b : Int} (ha : -2147483648 ≤ a ∧ a ≤ 2147483647) (hb : -2147483648 ≤ b ∧ b ≤ 2147483647) : Int32.ofInt a ≤ Int32.ofInt b ↔ a ≤ b := by rw [Int32.le_iff_toInt_le, t32 ha, t32 hb]
theorem eq32 {a b : Int} (ha : -2147483648 ≤ a ∧ a ≤ 2147483647) (hb : -2147483648 ≤ b ∧ b ≤ 2147483647) : Int32.ofInt a = Int32.ofInt b ↔ a = b := by rw [← Int32.toInt_inj, t32 ha, t32 hb]
theorem z32 : (0 : Int32) = Int32.ofInt 0 := rfl
theorem lt64 {a b : Int} (ha : -9223372036854775808 ≤ a ∧ a ≤ 9223372036854775807) (hb : -9223372036854775808 ≤ b ∧ b ≤ 9223372036854775807) : Int64.ofInt a < Int64.ofInt b ↔ a < b := by rw [Int64.lt_iff_toInt_lt, t64 ha, t64 hb]
theorem eq64 {a b : Int} (ha : -9223372036854775808 ≤ a ∧ a ≤ 9223372036854775807) (hb : -9223372036854775808 ≤ b ∧ b ≤ 9223372036854775807) : Int64.ofInt a = Int64.ofInt b ↔ a = b := by rw [← Int64.toInt_inj, t64 ha, t64 hb]
theorem o_lcmp {a b : Int} (ha : -9223372036854775808 ≤ a ∧ a ≤ 9223372036854775807) (hb : -9223372036854775808 ≤ b ∧ b ≤ 9223372036854775807) : lg_cmp (Int64.ofInt a) (Int64.ofInt b) = Int32.ofInt (lcm1 a b) := by
  unfold lg_cmp lcm1
  have h1 : (Int64.ofInt a > Int64.ofInt b) ↔ b < a := lt64 hb ha
  have h2 := eq64 ha hb
  by_cases c1 : b < a
  · rw [if_pos (h1.mpr c1), if_neg (by omega), if_neg (by omega)]; rfl
  · rw [if_neg (fun h => c1 (h1.mp h))]
    by_cases c2 : a = b
    · rw [if_pos (h2.mpr c2), if_neg (by omega), if_pos c2]; rfl
    · rw [if_neg (fun h => c2 (h2.mp h)), if_pos (by omega)]; rfl
theorem o_bip {n : Int} (h : -128 ≤ n ∧ n ≤ 127) : (Int8.ofInt n).toInt32 = Int32.ofInt n := by
  apply Int32.toInt_inj.mp
  rw [Int8.toInt_toInt32, t32 (by omega), Int8.toInt_ofInt]
  unfold Int.bmod
  simp only [show ((Int32.size : Nat) : Int) = 4294967296 from rfl, show ((Int64.size : Nat) : Int) = 18446744073709551616 from rfl, show ((Int8.size : Nat) : Int) = 256 from rfl, show ((Int16.size : Nat) : Int) = 65536 from rfl, show (((2 : Nat) ^ 8 : Nat) : Int) = 256 from rfl, show (((2 : Nat) ^ 16 : Nat) : Int) = 65536 from rfl]
  split <;> omega
theorem o_sip {n : Int} (h : -32768 ≤ n ∧ n ≤ 32767) : (Int16.ofInt n).toInt32 = Int32.ofInt n := by
  apply Int32.toInt_inj.mp
  rw [Int16.toInt_toInt32, t32 (by omega), Int16.toInt_ofInt]
  unfold Int.bmod
  simp only [show ((Int32.size : Nat) : Int) = 4294967296 from rfl, show ((Int64.size : Nat) : Int) = 18446744073709551616 from rfl, show ((Int8.size : Nat) : Int) = 256 from rfl, show ((Int16.size : Nat) : Int) = 65536 from rfl, show (((2 : Nat) ^ 8 : Nat) : Int) = 256 from rfl, show (((2 : Nat) ^ 16 : Nat) : Int) = 65536 from rfl]
  split <;> omega
theorem clamp32 {a : Int} (h0 : 0 ≤ a) (h1 : a ≤ 2147483647) : (Int32.ofInt a).toNatClampNeg = a.toNat := by
  unfold Int32.toNatClampNeg
  rw [t32 (by omega)]
theorem inb_in {i n : Int} (h : 0 ≤ i ∧ i < n) (hn : n ≤ 2147483647) : vp_in (Int32.ofInt i) n.toNat := by
  rw [vp_in_iff, t32 (by omega)]
  omega
theorem o_i2c {a : Int} (ha : -2147483648 ≤ a ∧ a ≤ 2147483647) : ((Int32.ofInt a).toUInt32 % 65536).toInt32 = Int32.ofInt (a % 65536) := by
  have h1 : ((Int32.ofInt a).toUInt32 % 65536).toInt32 = Int32.ofNat ((Int32.ofInt a).toUInt32 % 65536).toNat := by
    show _ = (UInt32.ofNat ((Int32.ofInt a).toUInt32 % 65536).toNat).toInt32
    rw [UInt32.ofNat_toNat]
  have h2 : (Int32.ofInt a).toUInt32.toNat = (a % 4294967296).toNat := by
    rw [← Int32.toNat_toBitVec]
    show (BitVec.ofInt 32 a).toNat = _
    rw [BitVec.toNat_ofInt]
    rfl
  rw [h1, UInt32.toNat_mod, h2]
  show Int32.ofNat ((a % 4294967296).toNat % 65536) = _
  have h3 : (((a % 4294967296).toNat % 65536 : Nat) : Int) = a % 65536 := by omega
  rw [← h3]
  rfl
end Nums
