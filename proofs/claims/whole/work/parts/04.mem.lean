/-! numbers: ints and longs as whole numbers; what is stored or passed is taken modulo 2^32 (2^64), what is compared is w32 (w64) of it -/
def w32 (z : Int) : Int := (Int32.ofInt z).toInt
def w64 (z : Int) : Int := (Int64.ofInt z).toInt
def w8 (z : Int) : Int := (Int8.ofInt z).toInt
abbrev zin (z : Int) (n : Nat) : Prop := 0 ≤ w32 z ∧ w32 z < (n : Int)
abbrev zbo (z : Int) : Prop := z = 0 ∨ z = 1
def ix (z : Int) : Nat := (w32 z).toNat
def iand (a b : Int) : Int := (Int32.ofInt a &&& Int32.ofInt b).toInt
def ior (a b : Int) : Int := (Int32.ofInt a ||| Int32.ofInt b).toInt
def ixor (a b : Int) : Int := (Int32.ofInt a ^^^ Int32.ofInt b).toInt
def land (a b : Int) : Int := (Int64.ofInt a &&& Int64.ofInt b).toInt
def lor (a b : Int) : Int := (Int64.ofInt a ||| Int64.ofInt b).toInt
def lxor (a b : Int) : Int := (Int64.ofInt a ^^^ Int64.ofInt b).toInt
def ishl (a b : Int) : Int := a * 2 ^ (b % 32).toNat
def ishr (a b : Int) : Int := w32 a / 2 ^ (b % 32).toNat
def iushr (a b : Int) : Int := (a % 4294967296) / 2 ^ (b % 32).toNat
def lshl (a b : Int) : Int := a * 2 ^ (b % 64).toNat
def lshr (a b : Int) : Int := w64 a / 2 ^ (b % 64).toNat
def lushr (a b : Int) : Int := (a % 18446744073709551616) / 2 ^ (b % 64).toNat
def idiv (a b : Int) : Int := (w32 a).tdiv (w32 b)
def irem (a b : Int) : Int := (w32 a).tmod (w32 b)
abbrev vi (z : Int) : Value := .int (Int32.ofInt z)
abbrev vl (z : Int) : Value := .long (Int64.ofInt z)
theorem w32_bmod (z : Int) : w32 z = z.bmod 4294967296 := Int32.toInt_ofInt
theorem w64_bmod (z : Int) : w64 z = z.bmod 18446744073709551616 := Int64.toInt_ofInt
theorem w8_bmod (z : Int) : w8 z = z.bmod 256 := Int8.toInt_ofInt
theorem w32_id {z : Int} (h1 : -2147483648 ≤ z) (h2 : z < 2147483648) : w32 z = z := by
  rw [w32_bmod, Int.bmod_def]; omega
theorem w64_id {z : Int} (h1 : -9223372036854775808 ≤ z) (h2 : z < 9223372036854775808) : w64 z = z := by
  rw [w64_bmod, Int.bmod_def]; omega
theorem w8_id {z : Int} (h1 : -128 ≤ z) (h2 : z < 128) : w8 z = z := by
  rw [w8_bmod, Int.bmod_def]; omega
theorem w32_rng (z : Int) : -2147483648 ≤ w32 z ∧ w32 z < 2147483648 := by
  rw [w32_bmod, Int.bmod_def]; omega
theorem w64_rng (z : Int) : -9223372036854775808 ≤ w64 z ∧ w64 z < 9223372036854775808 := by
  rw [w64_bmod, Int.bmod_def]; omega
theorem w8_rng (z : Int) : -128 ≤ w8 z ∧ w8 z < 128 := by
  rw [w8_bmod, Int.bmod_def]; omega
theorem w32_def (z : Int) : w32 z = (z + 2147483648) % 4294967296 - 2147483648 := by
  rw [w32_bmod, Int.bmod_def]; omega
theorem w64_def (z : Int) : w64 z = (z + 9223372036854775808) % 18446744073709551616 - 9223372036854775808 := by
  rw [w64_bmod, Int.bmod_def]; omega
theorem w8_def (z : Int) : w8 z = (z + 128) % 256 - 128 := by
  rw [w8_bmod, Int.bmod_def]; omega
theorem w32_w32 (z : Int) : w32 (w32 z) = w32 z := w32_id (w32_rng z).1 (w32_rng z).2
theorem oi_w32 (z : Int) : Int32.ofInt (w32 z) = Int32.ofInt z := Int32.ofInt_toInt _
theorem ol_w64 (z : Int) : Int64.ofInt (w64 z) = Int64.ofInt z := Int64.ofInt_toInt _
theorem oi_lt (a b : Int) : Int32.ofInt a < Int32.ofInt b ↔ w32 a < w32 b := Int32.lt_iff_toInt_lt
theorem oi_le (a b : Int) : Int32.ofInt a ≤ Int32.ofInt b ↔ w32 a ≤ w32 b := Int32.le_iff_toInt_le
theorem oi_eq (a b : Int) : Int32.ofInt a = Int32.ofInt b ↔ w32 a = w32 b := Int32.toInt_inj.symm
theorem ol_lt (a b : Int) : Int64.ofInt a < Int64.ofInt b ↔ w64 a < w64 b := Int64.lt_iff_toInt_lt
theorem ol_le (a b : Int) : Int64.ofInt a ≤ Int64.ofInt b ↔ w64 a ≤ w64 b := Int64.le_iff_toInt_le
theorem ol_eq (a b : Int) : Int64.ofInt a = Int64.ofInt b ↔ w64 a = w64 b := Int64.toInt_inj.symm
theorem oi_and (a b : Int) : Int32.ofInt (iand a b) = Int32.ofInt a &&& Int32.ofInt b := Int32.ofInt_toInt _
theorem oi_or (a b : Int) : Int32.ofInt (ior a b) = Int32.ofInt a ||| Int32.ofInt b := Int32.ofInt_toInt _
theorem oi_xor (a b : Int) : Int32.ofInt (ixor a b) = Int32.ofInt a ^^^ Int32.ofInt b := Int32.ofInt_toInt _
theorem ol_and (a b : Int) : Int64.ofInt (land a b) = Int64.ofInt a &&& Int64.ofInt b := Int64.ofInt_toInt _
theorem ol_or (a b : Int) : Int64.ofInt (lor a b) = Int64.ofInt a ||| Int64.ofInt b := Int64.ofInt_toInt _
theorem ol_xor (a b : Int) : Int64.ofInt (lxor a b) = Int64.ofInt a ^^^ Int64.ofInt b := Int64.ofInt_toInt _
theorem zin_vp {z : Int} {n : Nat} (h : zin z n) : vp_in (Int32.ofInt z) n := vp_in_iff.mpr h
theorem ix_cl (z : Int) : (Int32.ofInt z).toNatClampNeg = ix z := rfl
theorem ix_lt {z : Int} {n : Nat} (h : zin z n) : ix z < n := by
  have h1 := h.1
  have h2 := h.2
  show (w32 z).toNat < n
  omega
theorem oi_i2l (z : Int) : (Int32.ofInt z).toInt64 = Int64.ofInt (w32 z) := (Int64.ofInt_toInt _).symm.trans (by
  rw [Int32.toInt_toInt64]; rfl)
theorem ol_l2i (z : Int) : (Int64.ofInt z).toInt32 = Int32.ofInt z := by
  rw [← Int32.toInt_inj, Int64.toInt_toInt32, Int64.toInt_ofInt, Int32.toInt_ofInt]
  show ((z.bmod 18446744073709551616).bmod 4294967296) = z.bmod 4294967296
  rw [Int.bmod_def, Int.bmod_def, Int.bmod_def]; omega
theorem oi_i2b (z : Int) : (Int32.ofInt z).toInt8.toInt32 = Int32.ofInt (w8 z) := by
  rw [← Int32.toInt_inj, Int8.toInt_toInt32, Int32.toInt_toInt8, Int32.toInt_ofInt, Int32.toInt_ofInt, w8_bmod]
  show ((z.bmod 4294967296).bmod 256) = (z.bmod 256).bmod 4294967296
  rw [Int.bmod_def, Int.bmod_def, Int.bmod_def, Int.bmod_def]; omega
theorem oi_ne0 {z : Int} (h : ¬ w32 z = 0) : ¬ Int32.ofInt z = 0 := fun h2 => h (by
  have := congrArg Int32.toInt h2
  exact this)
theorem oi_div (a b : Int) : Int32.ofInt a / Int32.ofInt b = Int32.ofInt (idiv a b) := by
  rw [← Int32.toInt_inj, Int32.toInt_div, Int32.toInt_ofInt (n := idiv a b)]; rfl
theorem oi_rem (a b : Int) : Int32.ofInt a - Int32.ofInt a / Int32.ofInt b * Int32.ofInt b = Int32.ofInt (irem a b) := by
  rw [oi_div, ← Int32.ofInt_mul, ← Int32.ofInt_sub, ← Int32.toInt_inj, Int32.toInt_ofInt, Int32.toInt_ofInt]
  have h : irem a b = w32 a - idiv a b * w32 b := by
    have := Int.tmod_add_mul_tdiv (w32 a) (w32 b)
    unfold irem idiv
    rw [Int.mul_comm (Int.tdiv _ _)]
    omega
  rw [h, ← Int32.toInt_ofInt, ← Int32.toInt_ofInt, Int32.ofInt_sub, Int32.ofInt_sub, Int32.ofInt_mul, Int32.ofInt_mul, oi_w32, oi_w32]
