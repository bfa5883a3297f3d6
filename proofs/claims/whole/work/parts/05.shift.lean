theorem oi_nat (n : Nat) : Int32.ofInt (n : Int) = nI n := rfl
theorem ol_nat (n : Nat) : Int64.ofInt (n : Int) = lN n := rfl
theorem oi_tn (a : Int) : (Int32.ofInt a).toBitVec.toNat = (a % 4294967296).toNat := by
  show (BitVec.ofInt 32 a).toNat = _
  rw [BitVec.toNat_ofInt]; rfl
theorem ol_tn (a : Int) : (Int64.ofInt a).toBitVec.toNat = (a % 18446744073709551616).toNat := by
  show (BitVec.ofInt 64 a).toNat = _
  rw [BitVec.toNat_ofInt]; rfl
theorem oi_cg {a b : Int} (h : a % 4294967296 = b % 4294967296) : Int32.ofInt a = Int32.ofInt b := by
  rw [oi_eq, w32_bmod, w32_bmod, Int.bmod_def, Int.bmod_def]
  show (if a % 4294967296 < _ then a % 4294967296 else a % 4294967296 - _) = _
  rw [h]; rfl
theorem ol_cg {a b : Int} (h : a % 18446744073709551616 = b % 18446744073709551616) : Int64.ofInt a = Int64.ofInt b := by
  rw [ol_eq, w64_bmod, w64_bmod, Int.bmod_def, Int.bmod_def]
  show (if a % 18446744073709551616 < _ then a % 18446744073709551616 else a % 18446744073709551616 - _) = _
  rw [h]; rfl
theorem oi_mask (a : Int) {m : Int} (k : Nat) (hm : (Int32.ofInt m).toBitVec.toNat = 2 ^ k - 1) (hd : (2 : Int) ^ k ∣ 4294967296) : Int32.ofInt a &&& Int32.ofInt m = Int32.ofInt (a % 2 ^ k) := by
  rw [pk_and _ k hm, oi_tn, ← oi_nat]
  apply congrArg
  have h0 : (0 : Int) ≤ a % 4294967296 := Int.emod_nonneg _ (by decide)
  rw [Int.natCast_emod, Int.toNat_of_nonneg h0, Int.natCast_pow]
  exact Int.emod_emod_of_dvd a hd
theorem oi_m1 (a : Int) : Int32.ofInt a &&& Int32.ofInt 1 = Int32.ofInt (a % 2) := oi_mask a 1 (by decide) (by decide)
theorem oi_m3 (a : Int) : Int32.ofInt a &&& Int32.ofInt 3 = Int32.ofInt (a % 4) := oi_mask a 2 (by decide) (by decide)
theorem oi_m7 (a : Int) : Int32.ofInt a &&& Int32.ofInt 7 = Int32.ofInt (a % 8) := oi_mask a 3 (by decide) (by decide)
theorem oi_m15 (a : Int) : Int32.ofInt a &&& Int32.ofInt 15 = Int32.ofInt (a % 16) := oi_mask a 4 (by decide) (by decide)
theorem oi_m31 (a : Int) : Int32.ofInt a &&& Int32.ofInt 31 = Int32.ofInt (a % 32) := oi_mask a 5 (by decide) (by decide)
theorem oi_m63 (a : Int) : Int32.ofInt a &&& Int32.ofInt 63 = Int32.ofInt (a % 64) := oi_mask a 6 (by decide) (by decide)
theorem oi_m127 (a : Int) : Int32.ofInt a &&& Int32.ofInt 127 = Int32.ofInt (a % 128) := oi_mask a 7 (by decide) (by decide)
theorem oi_m255 (a : Int) : Int32.ofInt a &&& Int32.ofInt 255 = Int32.ofInt (a % 256) := oi_mask a 8 (by decide) (by decide)
theorem zs_a : ∀ n, n < 32 → ((nI n).toBitVec.smod 32).toNat = n := by decide
theorem zs_b : ∀ n, n < 32 → (((nI n).toUInt32).toBitVec % 32).toNat = n := by decide
theorem zs_k (b : Int) : ((Int32.ofInt b &&& 31).toBitVec.smod 32).toNat = (b % 32).toNat := by
  have h : Int32.ofInt b &&& 31 = Int32.ofInt (b % 32) := oi_m31 b
  have h0 : (0 : Int) ≤ b % 32 := Int.emod_nonneg _ (by decide)
  have h1 : b % 32 < 32 := Int.emod_lt_of_pos _ (by decide)
  rw [h, show b % 32 = (((b % 32).toNat : Nat) : Int) by omega, oi_nat]
  exact zs_a _ (by omega)
theorem oi_shl (a b : Int) : Int32.ofInt a <<< (Int32.ofInt b &&& 31) = Int32.ofInt (ishl a b) := by
  have h := pk_shl (Int32.ofInt a) (Int32.ofInt b &&& 31) _ (zs_k b)
  rw [← Int32.toBitVec_inj, ← BitVec.toNat_inj, h, oi_tn, oi_tn]
  have h0 : (0 : Int) ≤ a % 4294967296 := Int.emod_nonneg _ (by decide)
  apply Int.ofNat.inj
  show (((a % 4294967296).toNat * 2 ^ (b % 32).toNat % 2 ^ 32 : Nat) : Int) = ((ishl a b % 4294967296).toNat : Int)
  rw [Int.natCast_emod, Int.natCast_mul, Int.toNat_of_nonneg h0, Int.toNat_of_nonneg (Int.emod_nonneg _ (by decide)), Int.natCast_pow, Int.natCast_pow]
  show a % 4294967296 * 2 ^ (b % 32).toNat % 4294967296 = a * 2 ^ (b % 32).toNat % 4294967296
  rw [Int.mul_emod, Int.emod_emod_of_dvd a (Int.dvd_refl _), ← Int.mul_emod]
theorem oi_shr (a b : Int) : Int32.ofInt a >>> (Int32.ofInt b &&& 31) = Int32.ofInt (ishr a b) := by
  have h := pk_shr (Int32.ofInt a) (Int32.ofInt b &&& 31) _ (zs_k b)
  rw [← Int32.ofInt_toInt (Int32.ofInt a >>> (Int32.ofInt b &&& 31)), h, Int.shiftRight_eq_div_pow]
  apply congrArg
  show w32 a / _ = w32 a / _
  rw [Int.natCast_pow]; rfl
theorem zs_u (b : Int) : (((Int32.ofInt b).toUInt32 &&& Int32.toUInt32 31).toBitVec % 32).toNat = (b % 32).toNat := by
  have h : (Int32.ofInt b).toUInt32 &&& Int32.toUInt32 31 = (Int32.ofInt b &&& 31).toUInt32 := rfl
  have h2 : Int32.ofInt b &&& 31 = Int32.ofInt (b % 32) := oi_m31 b
  have h0 : (0 : Int) ≤ b % 32 := Int.emod_nonneg _ (by decide)
  have h1 : b % 32 < 32 := Int.emod_lt_of_pos _ (by decide)
  rw [h, h2, show b % 32 = (((b % 32).toNat : Nat) : Int) by omega, oi_nat]
  exact zs_b _ (by omega)
theorem oi_ushr (a b : Int) : ((Int32.ofInt a).toUInt32 >>> ((Int32.ofInt b).toUInt32 &&& Int32.toUInt32 31)).toInt32 = Int32.ofInt (iushr a b) := by
  have h := pk_ushr (Int32.ofInt a) (Int32.ofInt b) _ (zs_u b)
  rw [← Int32.toBitVec_inj, ← BitVec.toNat_inj, h, oi_tn, oi_tn]
  have h0 : (0 : Int) ≤ a % 4294967296 := Int.emod_nonneg _ (by decide)
  have h1 : a % 4294967296 < 4294967296 := Int.emod_lt_of_pos _ (by decide)
  have hp : (0 : Int) < 2 ^ (b % 32).toNat := Int.pow_pos (by decide)
  have h2 : (0 : Int) ≤ iushr a b := Int.ediv_nonneg h0 (Int.le_of_lt hp)
  have h3 : iushr a b < 4294967296 := Int.lt_of_le_of_lt (Int.ediv_le_self _ h0) h1
  rw [Int.emod_eq_of_lt h2 h3]
  apply Int.ofNat.inj
  show (((a % 4294967296).toNat / 2 ^ (b % 32).toNat : Nat) : Int) = ((iushr a b).toNat : Int)
  rw [Int.natCast_ediv, Int.toNat_of_nonneg h0, Int.toNat_of_nonneg h2, Int.natCast_pow]
  rfl
theorem ol_mask63 (b : Int) : (Int32.ofInt b).toInt64 &&& 63 = lN (b % 64).toNat := by
  have h0 : (0 : Int) ≤ b % 64 := Int.emod_nonneg _ (by decide)
  rw [oi_i2l, ← Int64.toBitVec_inj, ← BitVec.toNat_inj]
  show ((Int64.ofInt (w32 b)).toBitVec &&& (63 : Int64).toBitVec).toNat = (BitVec.ofNat 64 (b % 64).toNat).toNat
  rw [BitVec.toNat_and, ol_tn, BitVec.toNat_ofNat]
  show (w32 b % 18446744073709551616).toNat &&& 2 ^ 6 - 1 = _
  rw [Nat.and_two_pow_sub_one_eq_mod, w32_def]
  omega
theorem zs_l : ∀ n, n < 64 → ((lN n).toBitVec.smod 64).toNat = n := by decide
theorem ol_shl (a b : Int) : Int64.ofInt a <<< ((Int32.ofInt b).toInt64 &&& 63) = Int64.ofInt (lshl a b) := by
  have h0 : (0 : Int) ≤ a % 18446744073709551616 := Int.emod_nonneg _ (by decide)
  have hb : (b % 64).toNat < 64 := by omega
  rw [ol_mask63, ← Int64.toBitVec_inj, ← BitVec.toNat_inj, ol_tn]
  show ((Int64.ofInt a).toBitVec <<< ((lN (b % 64).toNat).toBitVec.smod 64)).toNat = _
  rw [BitVec.shiftLeft_eq', BitVec.toNat_shiftLeft, zs_l _ hb, ol_tn, Nat.shiftLeft_eq]
  apply Int.ofNat.inj
  show (((a % 18446744073709551616).toNat * 2 ^ (b % 64).toNat % 2 ^ 64 : Nat) : Int) = ((lshl a b % 18446744073709551616).toNat : Int)
  rw [Int.natCast_emod, Int.natCast_mul, Int.toNat_of_nonneg h0, Int.toNat_of_nonneg (Int.emod_nonneg _ (by decide)), Int.natCast_pow, Int.natCast_pow]
  show a % 18446744073709551616 * 2 ^ (b % 64).toNat % 18446744073709551616 = a * 2 ^ (b % 64).toNat % 18446744073709551616
  rw [Int.mul_emod, Int.emod_emod_of_dvd a (Int.dvd_refl _), ← Int.mul_emod]
theorem ol_shr (a b : Int) : Int64.ofInt a >>> ((Int32.ofInt b).toInt64 &&& 63) = Int64.ofInt (lshr a b) := by
  have hb : (b % 64).toNat < 64 := by omega
  rw [ol_mask63, ← Int64.ofInt_toInt (Int64.ofInt a >>> _)]
  apply congrArg
  show ((Int64.ofInt a).toBitVec.sshiftRight' ((lN (b % 64).toNat).toBitVec.smod 64)).toInt = _
  rw [BitVec.sshiftRight_eq', BitVec.toInt_sshiftRight, zs_l _ hb, Int.shiftRight_eq_div_pow, Int.natCast_pow]
  rfl
theorem zs_lu : ∀ n, n < 64 → ((lN n).toUInt64.toBitVec % 64).toNat = n := by decide
theorem ol_ushr (a b : Int) : ((Int64.ofInt a).toUInt64 >>> ((Int32.ofInt b).toInt64.toUInt64 &&& Int64.toUInt64 63)).toInt64 = Int64.ofInt (lushr a b) := by
  have hb : (b % 64).toNat < 64 := by omega
  have he : (Int32.ofInt b).toInt64.toUInt64 &&& Int64.toUInt64 63 = ((Int32.ofInt b).toInt64 &&& 63).toUInt64 := rfl
  rw [he, ol_mask63, ← Int64.toBitVec_inj, ← BitVec.toNat_inj, ol_tn]
  show ((Int64.ofInt a).toBitVec >>> ((lN (b % 64).toNat).toUInt64.toBitVec % 64)).toNat = _
  rw [BitVec.ushiftRight_eq', BitVec.toNat_ushiftRight, zs_lu _ hb, ol_tn, Nat.shiftRight_eq_div_pow]
  have h0 : (0 : Int) ≤ a % 18446744073709551616 := Int.emod_nonneg _ (by decide)
  have h1 : a % 18446744073709551616 < 18446744073709551616 := Int.emod_lt_of_pos _ (by decide)
  have hp : (0 : Int) < 2 ^ (b % 64).toNat := Int.pow_pos (by decide)
  have h2 : (0 : Int) ≤ lushr a b := Int.ediv_nonneg h0 (Int.le_of_lt hp)
  have h3 : lushr a b < 18446744073709551616 := Int.lt_of_le_of_lt (Int.ediv_le_self _ h0) h1
  rw [Int.emod_eq_of_lt h2 h3]
  apply Int.ofNat.inj
  show (((a % 18446744073709551616).toNat / 2 ^ (b % 64).toNat : Nat) : Int) = ((lushr a b).toNat : Int)
  rw [Int.natCast_ediv, Int.toNat_of_nonneg h0, Int.toNat_of_nonneg h2, Int.natCast_pow]
  rfl
