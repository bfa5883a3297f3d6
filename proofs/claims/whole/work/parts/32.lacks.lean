/-! COVERS and LACKS -/
theorem clr_bits {x y j : Nat} (hx : x < 2 ^ j) (hR : 2 ^ j * (2 * y + 1) + x < 2 ^ 63) : (2 ^ j * (2 * y + 1) + x) &&& (2 ^ j ^^^ (2 ^ 64 - 1)) = 2 ^ j * (2 * y) + x := by
  apply Nat.eq_of_testBit_eq
  intro i
  rw [Nat.testBit_and, Nat.testBit_xor, Nat.testBit_two_pow_sub_one, Nat.testBit_two_pow, Nat.testBit_two_pow_mul_add _ hx, Nat.testBit_two_pow_mul_add _ hx]
  have big : ∀ z : Nat, 64 ≤ i → z < 2 ^ 63 → z.testBit i = false := fun z h1 h2 => Nat.testBit_lt_two_pow (Nat.lt_of_lt_of_le h2 (Nat.pow_le_pow_right (by decide) (by omega)))
  by_cases h1 : i < j
  · rw [if_pos h1, if_pos h1]
    by_cases h64 : i < 64
    · simp [h64, show ¬ j = i by omega]
    · have : x.testBit i = false := big x (by omega) (by omega)
      simp [this]
  · rw [if_neg h1, if_neg h1]
    by_cases h2 : j = i
    · subst h2
      rw [Nat.sub_self, Nat.testBit_zero, Nat.testBit_zero]
      have hj : j < 64 := by
        by_cases hj : j < 64
        · exact hj
        · have : 2 ^ 63 ≤ 2 ^ j := Nat.pow_le_pow_right (by decide) (by omega)
          have h3 : 2 ^ j * 1 ≤ 2 ^ j * (2 * y + 1) := Nat.mul_le_mul_left _ (by omega)
          omega
      simp [hj]
    · obtain ⟨k, hk⟩ : ∃ k, i - j = k + 1 := ⟨i - j - 1, by omega⟩
      rw [hk, Nat.testBit_add_one, Nat.testBit_add_one, show (2 * y + 1) / 2 = y by omega, show 2 * y / 2 = y by omega]
      by_cases h64 : i < 64
      · simp [h64, h2]
      · have hb := big _ (by omega) hR
        rw [Nat.testBit_two_pow_mul_add _ hx, if_neg h1, hk, Nat.testBit_add_one, show (2 * y + 1) / 2 = y by omega] at hb
        simp [hb]
theorem s_clr {x y j : Nat} (hj : j < 63) (hx : x < 2 ^ j) (hR : 2 ^ j * (2 * y + 1) + x < 2 ^ 63) : land ((2 ^ j * (2 * y + 1) + x : Nat) : Int) (lxor (lshl 1 (j : Int)) (-1)) = ((2 ^ j * (2 * y) + x : Nat) : Int) := by
  have hp : (2 : Nat) ^ j < 2 ^ 63 := Nat.pow_lt_pow_right (by decide) hj
  have hR2 : 2 ^ j * (2 * y) + x < 2 ^ 63 := Nat.lt_of_le_of_lt (Nat.add_le_add_right (Nat.mul_le_mul_left _ (by omega)) _) hR
  have hl1 : lshl 1 (j : Int) = ((2 ^ j : Nat) : Int) := by
    rw [show (1 : Int) = ((1 : Nat) : Int) from rfl, lshl_nat (by omega), Nat.one_mul]
  rw [hl1]
  unfold land lxor
  have e : Int64.ofInt ((2 ^ j * (2 * y + 1) + x : Nat) : Int) &&& Int64.ofInt (Int64.ofInt ((2 ^ j : Nat) : Int) ^^^ Int64.ofInt (-1)).toInt = Int64.ofInt ((2 ^ j * (2 * y) + x : Nat) : Int) := by
    rw [Int64.ofInt_toInt, ← Int64.toBitVec_inj, ← BitVec.toNat_inj]
    show ((Int64.ofInt ((2 ^ j * (2 * y + 1) + x : Nat) : Int)).toBitVec &&& ((Int64.ofInt ((2 ^ j : Nat) : Int)).toBitVec ^^^ (Int64.ofInt (-1)).toBitVec)).toNat = _
    rw [BitVec.toNat_and, BitVec.toNat_xor, ol_tn, ol_tn, ol_tn, ol_tn]
    have n1 : ∀ z : Nat, z < 2 ^ 63 → ((z : Int) % 18446744073709551616).toNat = z := fun z hz => by omega
    rw [n1 _ hR, n1 _ hp, n1 _ hR2, show (((-1 : Int)) % 18446744073709551616).toNat = 2 ^ 64 - 1 from by decide]
    exact clr_bits hx hR
  rw [e]; exact w64_id (by omega) (by omega)
/-- the bits never sent -/
def plk (f : Nat → Int) : Nat → Nat
  | 0 => 0
  | n + 1 => plk f n + if f n = 0 then 2 ^ n else 0
theorem plk_lt (f : Nat → Int) : ∀ n, plk f n < 2 ^ n
  | 0 => by simp [plk]
  | n + 1 => by
    have h := plk_lt f n
    rw [plk, Nat.pow_succ]; split <;> omega
theorem plk_or (f : Nat → Int) (n : Nat) : plk f (n + 1) = plk f n ||| if f n = 0 then 2 ^ n else 0 := by
  rw [plk]
  by_cases h : f n = 0
  · rw [if_pos h]
    have := Nat.two_pow_add_eq_or_of_lt (plk_lt f n) 1
    rw [Nat.mul_one, Nat.or_comm] at this
    omega
  · rw [if_neg h, Nat.or_zero, Nat.add_zero]
theorem plk_bit (f : Nat → Int) : ∀ n c, c < n → plk f n / 2 ^ c % 2 = if f c = 0 then 1 else 0
  | 0, c, h => absurd h (Nat.not_lt_zero c)
  | n + 1, c, h => by
    have e : ∀ x : Nat, x / 2 ^ c % 2 = if x.testBit c then 1 else 0 := fun x => by
      rw [Nat.testBit_eq_decide_div_mod_eq]
      by_cases h : x / 2 ^ c % 2 = 1
      · simp [h]
      · simp [h]; omega
    rw [plk_or]
    by_cases hc : c = n
    · subst hc
      rw [e, Nat.testBit_or, Nat.testBit_lt_two_pow (plk_lt f c)]
      by_cases hf : f c = 0
      · simp [hf, Nat.testBit_two_pow_self]
      · simp [hf]
    · rw [e, Nat.testBit_or]
      have ih := plk_bit f n c (by omega)
      rw [e] at ih
      by_cases hf : f n = 0
      · rw [if_pos hf, Nat.testBit_two_pow_of_ne (Ne.symm hc), Bool.or_false]; exact ih
      · rw [if_neg hf, Nat.zero_testBit, Bool.or_false]; exact ih
theorem s_unsentBits {I : zMem} (hR : iRing I) {room set len : Nat} (h1 : 16 ≤ room) (h2 : room ≤ 48) (hroom : I (7, 1, 0) 4 = room) (hs : set < 16) (hl : len ≤ 60) : ∃ J, fX11_unsentBits (set : Int) (len : Int) I = some ((plk (pof room set len) 39 : Int), J) ∧ sC I J := by
  obtain ⟨J, j1, j2, j3⟩ := s_countVersions hR h1 h2 hroom hs hl
  unfold fX11_unsentBits
  rw [j1, zb_some]
  have hh := zlp_0 (body := fX11_unsentBits_l13 (set : Int) (len : Int) J) (S := fun j => (((plk (pof room set len) j + (2 ^ 39 - 2 ^ j) : Nat) : Int), (j : Int))) (r := ((plk (pof room set len) 39 : Int), 39)) 39 (N := 5000) (by decide) ?_ ?_
  · have e0 : plk (pof room set len) 0 + (2 ^ 39 - 2 ^ 0) = 549755813887 := by rw [plk]
    rw [e0] at hh
    rw [show ((549755813887 : Int), (0 : Int)) = (((549755813887 : Nat) : Int), ((0 : Nat) : Int)) from rfl, hh, zb_some]
    exact ⟨J, rfl, fun q hq => j2 q (kc_ne hq rfl) (kc_ne hq rfl)⟩
  · intro j hj
    have hp := pof_rng h1 h2 set j hl
    have hlt := plk_lt (pof room set len) j
    have h39 : (2 : Nat) ^ 39 = 2 ^ j * (2 * 2 ^ (38 - j)) := by rw [← Nat.pow_succ', ← Nat.pow_add, show j + (38 - j).succ = 39 by omega]
    have hpos : 0 < 2 ^ (38 - j) := Nat.pow_pos (by decide)
    have hpj : 0 < 2 ^ j := Nat.pow_pos (by decide)
    unfold fX11_unsentBits_l13 fX11_unsentBits_b13_41
    dsimp only [zlet]
    rw [if_neg (by rw [w32_n (by omega)]; omega), if_pos (zin_nat (by omega) (by decide)), ix_nat (by omega), j3 j hj, w32_id (by omega) (by omega)]
    obtain ⟨y, hy⟩ : ∃ y, 2 ^ (38 - j) = y + 1 := ⟨2 ^ (38 - j) - 1, by omega⟩
    have eA : 2 ^ j * (2 * (y + 1)) = 2 ^ j * (2 * y) + 2 * 2 ^ j := by rw [Nat.mul_add, Nat.mul_add]; omega
    have eB : 2 ^ j * (2 * y + 1) = 2 ^ j * (2 * y) + 2 ^ j := by rw [Nat.mul_add]; omega
    rw [hy] at h39
    have es : (2 : Nat) ^ (j + 1) = 2 * 2 ^ j := Nat.pow_succ'
    have e0 : plk (pof room set len) j + (2 ^ 39 - 2 ^ j) = 2 ^ j * (2 * y + 1) + plk (pof room set len) j := by omega
    by_cases hc : pof room set len j ≤ 0
    · rw [if_pos hc, show plk (pof room set len) (j + 1) = plk (pof room set len) j + if pof room set len j = 0 then 2 ^ j else 0 from rfl, if_pos (by omega)]
      have : plk (pof room set len) j + 2 ^ j + (2 ^ 39 - 2 ^ (j + 1)) = plk (pof room set len) j + (2 ^ 39 - 2 ^ j) := by omega
      rw [this]; rfl
    · rw [if_neg hc, show plk (pof room set len) (j + 1) = plk (pof room set len) j + if pof room set len j = 0 then 2 ^ j else 0 from rfl, if_neg (by omega)]
      have h63 : (2 : Nat) ^ 39 < 2 ^ 63 := by decide
      rw [e0, s_clr (by omega) hlt (by omega)]
      have : 2 ^ j * (2 * y) + plk (pof room set len) j = plk (pof room set len) j + 0 + (2 ^ 39 - 2 ^ (j + 1)) := by omega
      rw [this]; rfl
  · rw [Nat.sub_self, Nat.add_zero]
    unfold fX11_unsentBits_l13
    dsimp only
    rw [if_pos (by decide)]
    rfl
theorem m_lacks {J : zMem} (set len : Int) {f : Nat → Int} (hJ : ∀ c, c < 39 → J (57, 0, 0) c = f c) (hf : ∀ c, c < 39 → 0 ≤ f c ∧ f c ≤ 1000) : zlp (fX12_lacks_l34 set len J) 5000 (0, 0) = some ((plk f 39 : Int), 39) := by
  have hh := zlp_0 (body := fX12_lacks_l34 set len J) (S := fun j => ((plk f j : Int), (j : Int))) (r := ((plk f 39 : Int), 39)) 39 (N := 5000) (by decide) ?_ ?_
  · exact hh
  · intro j hj
    have hp := hf j hj
    have hlt := plk_lt f j
    have h63 : (2 : Nat) ^ j < 9223372036854775808 := Nat.lt_of_lt_of_le (Nat.pow_lt_pow_right (by decide) (show j < 63 by omega)) (by decide)
    unfold fX12_lacks_l34 fX12_lacks_b34_60
    dsimp only [zlet]
    rw [if_neg (by rw [w32_n (by omega)]; omega), if_pos (zin_nat (by omega) (by decide)), ix_nat (by omega), hJ j hj, w32_id (by omega) (by omega), plk_or]
    by_cases hc : f j = 0
    · rw [if_pos hc, if_pos hc, show (1 : Int) = ((1 : Nat) : Int) from rfl, lshl_nat (by omega), Nat.one_mul, lor_nat (by omega) h63]; rfl
    · rw [if_neg hc, if_neg hc, show (0 : Int) = ((0 : Nat) : Int) from rfl, lor_nat (by omega) (by decide)]; rfl
  · unfold fX12_lacks_l34
    dsimp only
    rw [if_pos (by decide)]
    rfl
theorem m_covers {J : zMem} (set len : Int) {f : Nat → Int} (hJ : ∀ c, c < 39 → J (57, 0, 0) c = f c) (hf : ∀ c, c < 39 → 0 ≤ f c ∧ f c ≤ 1000) : zlp (fX12_covers_l33 set len J) 5000 (0, 0) = some (zsm (fun c => if f c = 0 then 0 else 1) 39, 39) := by
  have hh := zlp_0 (body := fX12_covers_l33 set len J) (S := fun j => (zsm (fun c => if f c = 0 then 0 else 1) j, (j : Int))) (r := (zsm (fun c => if f c = 0 then 0 else 1) 39, 39)) 39 (N := 5000) (by decide) ?_ ?_
  · exact hh
  · intro j hj
    have hp := hf j hj
    unfold fX12_covers_l33 fX12_covers_b33_56
    dsimp only [zlet]
    rw [if_neg (by rw [w32_n (by omega)]; omega), if_pos (zin_nat (by omega) (by decide)), ix_nat (by omega), hJ j hj, w32_id (by omega) (by omega), zsm]
    by_cases hc : f j = 0
    · rw [if_pos (by omega), if_pos hc]; rfl
    · rw [if_neg (by omega), if_neg hc]; rfl
  · unfold fX12_covers_l33
    dsimp only
    rw [if_pos (by decide)]
    rfl
theorem plk_pop (f : Nat → Int) : 39 - (pop (plk f 39) 64 : Int) = zsm (fun c => if f c = 0 then 0 else 1) 39 := by
  rw [pop_hi (plk_lt f 39) 64 (by decide), pop_zsm]
  have h : zsm (fun c => ((plk f 39 / 2 ^ c % 2 : Nat) : Int)) 39 = zsm (fun c => if f c = 0 then 1 else 0) 39 := zsm_cong fun k hk => by
    rw [plk_bit f 39 k hk]; split <;> rfl
  have h2 : zsm (fun c => (if f c = 0 then 1 else 0) + (if f c = 0 then 0 else 1)) 39 = zsm (fun _ => 1) 39 := zsm_cong fun k hk => by split <;> rfl
  rw [zsm_add] at h2
  have h3 : zsm (fun _ => 1) 39 = 39 := by decide
  rw [h]; omega
theorem P_lacks {c m : zMem} (h : RC c m) {s l : Int} (hs : i32 s) (hl : i32 l) : ∃ r c' m', fX11_lacks s l c = some (r, c') ∧ fX12_lacks s l m = some (r, m') ∧ sC c c' ∧ sM m m' := by
  obtain ⟨hC, hR, hCM, hRM, room, r1, r2, e1, e2⟩ := h
  unfold fX11_lacks fX12_lacks
  dsimp only [zlet]
  rw [v_isVersionSet hs, vz, m_isSet hs, vz]
  by_cases h3 : 0 ≤ s ∧ s ≤ 15
  · rw [if_pos h3, if_pos h3, v_isLength hl, vz, m_isLength hl, vz]
    by_cases h4 : 1 ≤ l ∧ l ≤ 60
    · rw [if_pos h4, if_pos h4]
      obtain ⟨s, rfl⟩ := nat_of h3.1
      obtain ⟨l, rfl⟩ := nat_of (show 0 ≤ l by omega)
      obtain ⟨J, j1, j2⟩ := s_unsentBits hR r1 r2 e1 (set := s) (len := l) (by omega) (by omega)
      obtain ⟨K, k1, k2, k3⟩ := s_laysOften (m := zst m (50, 0, 0) 0 0) (hRM.keep (sM_th m 0)) r1 r2 (by rw [zst_nq (by decide)]; exact e2) (set := s) (len := l) (by omega) (by omega)
      rw [j1, zb_some, k1, zb_some, m_lacks _ _ k3 (fun c _ => by have := pof_rng r1 r2 s c (len := l) (by omega); omega), zb_some]
      exact ⟨_, _, _, rfl, rfl, j2, (sM_th m 0).tr fun q hq => k2 q (km_ne hq rfl) (km_ne hq rfl)⟩
    · rw [if_neg h4, if_neg h4]; exact ⟨_, _, _, rfl, rfl, sC.rf c, sM_th m 0⟩
  · rw [if_neg h3, if_neg h3]; exact ⟨_, _, _, rfl, rfl, sC.rf c, sM_th m 0⟩
theorem P_covers {c m : zMem} (h : RC c m) {s l : Int} (hs : i32 s) (hl : i32 l) : ∃ r c' m', fX11_covers s l c = some (r, c') ∧ fX12_covers s l m = some (r, m') ∧ sC c c' ∧ sM m m' := by
  obtain ⟨hC, hR, hCM, hRM, room, r1, r2, e1, e2⟩ := h
  unfold fX11_covers fX12_covers
  dsimp only [zlet]
  rw [v_isVersionSet hs, vz, m_isSet hs, vz]
  by_cases h3 : 0 ≤ s ∧ s ≤ 15
  · rw [if_pos h3, if_pos h3, v_isLength hl, vz, m_isLength hl, vz]
    by_cases h4 : 1 ≤ l ∧ l ≤ 60
    · rw [if_pos h4, if_pos h4]
      obtain ⟨s, rfl⟩ := nat_of h3.1
      obtain ⟨l, rfl⟩ := nat_of (show 0 ≤ l by omega)
      obtain ⟨J, j1, j2⟩ := s_unsentBits hR r1 r2 e1 (set := s) (len := l) (by omega) (by omega)
      obtain ⟨K, k1, k2, k3⟩ := s_laysOften (m := zst m (50, 0, 0) 0 0) (hRM.keep (sM_th m 0)) r1 r2 (by rw [zst_nq (by decide)]; exact e2) (set := s) (len := l) (by omega) (by omega)
      have hb : plk (pof room s l) 39 < 9223372036854775808 := Nat.lt_trans (plk_lt _ 39) (by decide)
      rw [j1, zb_some, s_bitCount hb, zb_some, k1, zb_some, m_covers _ _ k3 (fun c _ => by have := pof_rng r1 r2 s c (len := l) (by omega); omega), zb_some, plk_pop]
      exact ⟨_, _, _, rfl, rfl, j2, (sM_th m 0).tr fun q hq => k2 q (km_ne hq rfl) (km_ne hq rfl)⟩
    · rw [if_neg h4, if_neg h4]; exact ⟨_, _, _, rfl, rfl, sC.rf c, sM_th m 0⟩
  · rw [if_neg h3, if_neg h3]; exact ⟨_, _, _, rfl, rfl, sC.rf c, sM_th m 0⟩
