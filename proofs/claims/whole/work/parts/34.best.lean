/-! THE BEST WORD, class -/
theorem s_extend {K : zMem} {s t : Nat} (hs : s < 4) (ht : t < 11) (hA : ∀ i, i < 4 → -200000000 ≤ K (24, 0, 0) i ∧ K (24, 0, 0) i ≤ 200000000) (hB : ∀ i, i < 4 → 0 ≤ K (25, 0, 0) i ∧ K (25, 0, 0) i < 2048) (hG : ∀ k, k < 8 → -30000 ≤ K (22, 0, 0) (8 * t + k) ∧ K (22, 0, 0) (8 * t + k) ≤ 30000) : ∃ a b, fX2_extend (s : Int) (8 * (t : Int)) K = some (zst (zst K (26, 0, 0) s a) (27, 0, 0) s b) ∧ (((K (24, 0, 0) (s / 2 + 2) + K (22, 0, 0) (8 * t + (s + 4)) < K (24, 0, 0) (s / 2) + K (22, 0, 0) (8 * t + s) ∨ (K (24, 0, 0) (s / 2 + 2) + K (22, 0, 0) (8 * t + (s + 4)) = K (24, 0, 0) (s / 2) + K (22, 0, 0) (8 * t + s) ∧ K (25, 0, 0) (s / 2) < K (25, 0, 0) (s / 2 + 2))) ∧ a = K (24, 0, 0) (s / 2) + K (22, 0, 0) (8 * t + s) ∧ b = 2 * K (25, 0, 0) (s / 2) + ((s % 2 : Nat) : Int)) ∨ ((K (24, 0, 0) (s / 2) + K (22, 0, 0) (8 * t + s) < K (24, 0, 0) (s / 2 + 2) + K (22, 0, 0) (8 * t + (s + 4)) ∨ (K (24, 0, 0) (s / 2 + 2) + K (22, 0, 0) (8 * t + (s + 4)) = K (24, 0, 0) (s / 2) + K (22, 0, 0) (8 * t + s) ∧ K (25, 0, 0) (s / 2 + 2) ≤ K (25, 0, 0) (s / 2))) ∧ a = K (24, 0, 0) (s / 2 + 2) + K (22, 0, 0) (8 * t + (s + 4)) ∧ b = 2 * K (25, 0, 0) (s / 2 + 2) + ((s % 2 : Nat) : Int))) := by
  have x1 : ishr (s : Int) 1 = ((s / 2 : Nat) : Int) := by rw [show (1 : Int) = ((1 : Nat) : Int) from rfl, ishr_nat (by omega) (by decide)]
  have x2 : ix (((s / 2 : Nat) : Int) + 2) = s / 2 + 2 := by rw [ix_of (by omega) (by omega)]; omega
  have x3 : ix (8 * (t : Int) + (s : Int)) = 8 * t + s := by rw [ix_of (by omega) (by omega)]; omega
  have x4 : ix (8 * (t : Int) + (s : Int) + 4) = 8 * t + (s + 4) := by rw [ix_of (by omega) (by omega)]; omega
  have a1 := hA (s / 2) (by omega)
  have a2 := hA (s / 2 + 2) (by omega)
  have b1 := hB (s / 2) (by omega)
  have b2 := hB (s / 2 + 2) (by omega)
  have g1 := hG s (by omega)
  have g2 := hG (s + 4) (by omega)
  have pk : ∀ {z : Int}, 0 ≤ z → z < 2048 → ior (ishl z 1) ((s : Int) % 2) = 2 * z + ((s % 2 : Nat) : Int) := fun {z} z0 z1 => by
    obtain ⟨n, rfl⟩ := nat_of z0
    have e : n * 2 ||| s % 2 = n * 2 + s % 2 := by
      have := Nat.two_pow_add_eq_or_of_lt (i := 1) (show s % 2 < 2 ^ 1 by omega) n
      rw [Nat.pow_one, Nat.mul_comm] at this; exact this.symm
    rw [show (1 : Int) = ((1 : Nat) : Int) from rfl, ishl_nat (by decide), Nat.pow_one, show (s : Int) % 2 = ((s % 2 : Nat) : Int) by omega, ior_nat (by omega) (by omega), e]
    omega
  have zz : ∀ (a b : Int), zst (zst K (26, 0, 0) s a) (27, 0, 0) s b = zst (zst K (26, 0, 0) s a) (27, 0, 0) s b := fun _ _ => rfl
  have f1 : ∀ (w7 : Int), w32 w7 ≠ 0 → ∀ a : Int, fX2_extend_b100 (s : Int) (8 * (t : Int)) ((s / 2 : Nat) : Int) (((s / 2 : Nat) : Int) + 2) w7 a (s : Int) K = some (zst (zst K (26, 0, 0) s a) (27, 0, 0) s (2 * K (25, 0, 0) (s / 2) + ((s % 2 : Nat) : Int))) := fun w7 hw a => by
    unfold fX2_extend_b100 fX2_extend_b127
    dsimp only [zlet]
    rw [if_pos (zin_of (by omega) (by omega) (by decide)), if_neg hw, if_pos (zin_of (by omega) (by omega) (by decide)), if_pos (zin_of (by omega) (by omega) (by decide)), ix_nat (by omega), ix_nat (by omega), zst_nq (by decide), pk b1.1 b1.2]
  have f2 : ∀ (w7 : Int), w32 w7 = 0 → ∀ a : Int, fX2_extend_b100 (s : Int) (8 * (t : Int)) ((s / 2 : Nat) : Int) (((s / 2 : Nat) : Int) + 2) w7 a (s : Int) K = some (zst (zst K (26, 0, 0) s a) (27, 0, 0) s (2 * K (25, 0, 0) (s / 2 + 2) + ((s % 2 : Nat) : Int))) := fun w7 hw a => by
    unfold fX2_extend_b100 fX2_extend_b127
    dsimp only [zlet]
    rw [if_pos (zin_of (by omega) (by omega) (by decide)), if_pos hw, if_pos (zin_of (by omega) (by omega) (by decide)), if_pos (zin_of (by omega) (by omega) (by decide)), ix_nat (by omega), x2, zst_nq (by decide), pk b2.1 b2.2]
  unfold fX2_extend fX2_extend_b76 fX2_extend_b80 fX2_extend_b81
  dsimp only [zlet]
  rw [x1, if_pos (zin_of (by omega) (by omega) (by decide)), if_pos (zin_of (by omega) (by omega) (by decide)), if_pos (zin_of (by omega) (by omega) (by decide)), if_pos (zin_of (by omega) (by omega) (by decide)), x2, x3, x4, ix_nat (by omega), w32_id (z := K (24, 0, 0) (s / 2) + K (22, 0, 0) (8 * t + s)) (by omega) (by omega), w32_id (z := K (24, 0, 0) (s / 2 + 2) + K (22, 0, 0) (8 * t + (s + 4))) (by omega) (by omega), w32_id (z := K (25, 0, 0) (s / 2)) (by omega) (by omega), w32_id (z := K (25, 0, 0) (s / 2 + 2)) (by omega) (by omega), if_neg (show ¬ w32 1 = 0 by decide), if_pos (show w32 0 = 0 by decide), f1 1 (by decide), f2 0 (by decide)]
  by_cases c1 : K (24, 0, 0) (s / 2 + 2) + K (22, 0, 0) (8 * t + (s + 4)) < K (24, 0, 0) (s / 2) + K (22, 0, 0) (8 * t + s)
  · rw [if_pos c1]
    exact ⟨_, _, rfl, Or.inl ⟨Or.inl c1, rfl, rfl⟩⟩
  · rw [if_neg c1]
    by_cases c2 : K (24, 0, 0) (s / 2) + K (22, 0, 0) (8 * t + s) = K (24, 0, 0) (s / 2 + 2) + K (22, 0, 0) (8 * t + (s + 4))
    · rw [if_pos c2]
      by_cases c3 : K (25, 0, 0) (s / 2 + 2) ≤ K (25, 0, 0) (s / 2)
      · rw [if_pos c3]
        exact ⟨_, _, rfl, Or.inr ⟨Or.inr ⟨c2.symm, c3⟩, rfl, rfl⟩⟩
      · rw [if_neg c3]
        exact ⟨_, _, rfl, Or.inl ⟨Or.inr ⟨c2.symm, by omega⟩, rfl, rfl⟩⟩
    · rw [if_neg c2]
      exact ⟨_, _, rfl, Or.inr ⟨Or.inl (by omega), rfl, rfl⟩⟩
