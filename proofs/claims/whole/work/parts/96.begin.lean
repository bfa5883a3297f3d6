/-! THE START, pure: the class's code table and ring -/
theorem pb_ok : (List.range 11).all (fun j => (List.range (2 ^ j)).all (fun n => (List.range 11).all (fun k => decide ((2 ^ j + n) / 2 ^ k % 2 = (n / 2 ^ k % 2) ^^^ (2 ^ j / 2 ^ k % 2))))) = true := by decide +kernel
theorem pb_add {j n : Nat} (hj : j ≤ 10) (hn : n < 2 ^ j) (t : Nat) : pb (2 ^ j + n) t = pb n t ^^^ pb (2 ^ j) t := by
  unfold pb
  by_cases h : t ≤ 10
  · rw [if_pos h, if_pos h, if_pos h]
    have h1 := List.all_eq_true.mp pb_ok j (List.mem_range.mpr (by omega))
    have h2 := List.all_eq_true.mp h1 n (List.mem_range.mpr hn)
    exact of_decide_eq_true (List.all_eq_true.mp h2 (10 - t) (List.mem_range.mpr (by omega)))
  · rw [if_neg h, if_neg h, if_neg h]; rfl
theorem pb1_add {j n : Nat} (hj : j ≤ 10) (hn : n < 2 ^ j) (t : Nat) : pb1 (2 ^ j + n) t = pb1 n t ^^^ pb1 (2 ^ j) t := by
  unfold pb1
  by_cases h : t = 0
  · rw [if_pos h, if_pos h, if_pos h]; rfl
  · rw [if_neg h, if_neg h, if_neg h]; exact pb_add hj hn _
theorem pb2_add {j n : Nat} (hj : j ≤ 10) (hn : n < 2 ^ j) (t : Nat) : pb2 (2 ^ j + n) t = pb2 n t ^^^ pb2 (2 ^ j) t := by
  unfold pb2
  by_cases h : t < 2
  · rw [if_pos h, if_pos h, if_pos h]; rfl
  · rw [if_neg h, if_neg h, if_neg h]; exact pb_add hj hn _
theorem pcb_add {j n : Nat} (hj : j ≤ 10) (hn : n < 2 ^ j) (c : Nat) : pcb (2 ^ j + n) c = pcb n c ^^^ pcb (2 ^ j) c := by
  unfold pcb
  by_cases h1 : c < 13
  · rw [if_pos h1, if_pos h1, if_pos h1]; exact pb_add hj hn c
  · rw [if_neg h1, if_neg h1, if_neg h1]
    by_cases h2 : c < 26
    · rw [if_pos h2, if_pos h2, if_pos h2, pb_add hj hn, pb1_add hj hn, pb2_add hj hn]; ac_rfl
    · rw [if_neg h2, if_neg h2, if_neg h2, pb_add hj hn, pb2_add hj hn]; ac_rfl
theorem pcode_add {j n : Nat} (hj : j ≤ 10) (hn : n < 2 ^ j) : pcode (2 ^ j + n) = pcode n ^^^ pcode (2 ^ j) := by
  refine Nat.eq_of_testBit_eq fun c => ?_
  rw [Nat.testBit_xor]
  unfold pcode
  rw [pcd_bit, pcd_bit, pcd_bit, pcb_add hj hn]
  have h1 := pcb_lt n c
  have h2 := pcb_lt (2 ^ j) c
  generalize pcb n c = a at h1 ⊢
  generalize pcb (2 ^ j) c = b at h2 ⊢
  have h3 : a = 0 ∨ a = 1 := by omega
  have h4 : b = 0 ∨ b = 1 := by omega
  by_cases hc : c < 39
  · rcases h3 with rfl | rfl <;> rcases h4 with rfl | rfl <;> simp [hc]
  · simp [hc]
theorem pcode_two : (List.range 11).all (fun j => decide (pcode (2 ^ j) = 335601665 * 2 ^ (10 - j))) = true := by decide +kernel
theorem b_code1 {I : zMem} {j : Nat} (hj : j ≤ 10) (h : ∀ w, w < 2 ^ j → I (16, 0, 0) w = (pcode w : Int)) : ∃ x, zlp (fX1_init_l38 ((10 : Int) - j) ((2 ^ j : Nat) : Int)) 5000 (0, I) = some x ∧ (∀ q, q ≠ (16, 0, 0) → x.2 q = I q) ∧ ∀ w, w < 2 ^ (j + 1) → x.2 (16, 0, 0) w = (pcode w : Int) := by
  have h10 : 2 ^ j ≤ 2 ^ 10 := Nat.pow_le_pow_right (by decide) hj
  have hh := zlp_inv (body := fX1_init_l38 ((10 : Int) - j) ((2 ^ j : Nat) : Int)) (fun n s => s.1 = (n : Int) ∧ (∀ q, q ≠ (16, 0, 0) → s.2 q = I q) ∧ ∀ w, w < 2 ^ j + n → s.2 (16, 0, 0) w = (pcode w : Int)) (fun x => (∀ q, q ≠ (16, 0, 0) → x.2 q = I q) ∧ ∀ w, w < 2 ^ (j + 1) → x.2 (16, 0, 0) w = (pcode w : Int)) (2 ^ j) (N := 5000) (by omega) (s0 := (0, I)) ?_ ?_ ?_
  · exact hh
  · exact ⟨rfl, fun _ _ => rfl, fun w hw => h w (by omega)⟩
  · rintro n ⟨x, K⟩ hn ⟨e1, e2, e3⟩
    dsimp only at e1 e2 e3
    subst e1
    refine Or.inl ?_
    have e4 := e3 n (by omega)
    have e5 := zall pcode_two (i := j) (by omega)
    have e7 : pcode (2 ^ j + n) = pcode n ^^^ (335601665 * 2 ^ (10 - j)) := by rw [pcode_add hj hn, e5]
    have l1 := pcode_lt n
    have l2 : 335601665 * 2 ^ (10 - j) ≤ 335601665 * 2 ^ 10 := Nat.mul_le_mul_left _ (Nat.pow_le_pow_right (by decide) (by omega))
    have e8 : lshl 335601665 ((10 : Int) - (j : Int)) = ((335601665 * 2 ^ (10 - j) : Nat) : Int) := by
      rw [show ((10 : Int) - (j : Int)) = ((10 - j : Nat) : Int) by omega]
      exact lshl_nat (a := 335601665) (by omega)
    generalize 335601665 * 2 ^ (10 - j) = z at *
    generalize hW : 2 ^ j = W at *
    have e9 : ix ((W : Int) + (n : Int)) = W + n := by rw [← Int.natCast_add]; exact ix_nat (by omega)
    unfold fX1_init_l38
    dsimp only [zlet]
    rw [if_neg (by rw [w32_n (by omega), w32_n (by omega)]; omega), if_pos (zin_nat (by omega) (by decide)), if_pos (show zin ((W : Int) + (n : Int)) 2048 by rw [← Int.natCast_add]; exact zin_nat (by omega) (by decide)), e9, ix_nat (by omega), e4, e8, lxor_nat (by omega) (by omega), ← e7]
    refine ⟨_, rfl, rfl, fun q hq => ?_, fun w hw => ?_⟩
    · dsimp only; rw [zst_nq hq]; exact e2 q hq
    · dsimp only
      by_cases hc : w = W + n
      · subst hc; exact zst_at
      · rw [zst_nk hc]; exact e3 w (by omega)
  · rintro ⟨x, K⟩ ⟨e1, e2, e3⟩
    dsimp only at e1 e2 e3
    subst e1
    exact ⟨_, by unfold fX1_init_l38; dsimp only; rw [if_pos (Int.le_refl _)], e2, fun w hw => e3 w (by rw [Nat.pow_succ] at hw; omega)⟩
theorem b_code {I : zMem} (h : I (16, 0, 0) 0 = 0) : ∃ x, zlp fX1_init_l25 5000 (10, I) = some x ∧ (∀ q, q ≠ (16, 0, 0) → x.2 q = I q) ∧ ∀ w, w < 2048 → x.2 (16, 0, 0) w = (pcode w : Int) := by
  have hh := zlp_inv (body := fX1_init_l25) (fun j s => s.1 = (10 : Int) - (j : Int) ∧ (∀ q, q ≠ (16, 0, 0) → s.2 q = I q) ∧ ∀ w, w < 2 ^ j → s.2 (16, 0, 0) w = (pcode w : Int)) (fun x => (∀ q, q ≠ (16, 0, 0) → x.2 q = I q) ∧ ∀ w, w < 2048 → x.2 (16, 0, 0) w = (pcode w : Int)) 11 (N := 5000) (by decide) (s0 := (10, I)) ?_ ?_ ?_
  · exact hh
  · refine ⟨rfl, fun _ _ => rfl, fun w hw => ?_⟩
    have e : (2 : Nat) ^ 0 = 1 := rfl
    have e0 : w = 0 := by omega
    subst e0
    rw [pcode_0]; exact h
  · rintro j ⟨x, K⟩ hj ⟨e1, e2, e3⟩
    dsimp only at e1 e2 e3
    subst e1
    obtain ⟨y, y1, y2, y3⟩ := b_code1 (by omega) e3
    have e : ishl 1 ((10 : Int) - ((10 : Int) - (j : Int))) = ((2 ^ j : Nat) : Int) := by
      rw [show ((10 : Int) - ((10 : Int) - (j : Int))) = (j : Int) by omega]
      exact (ishl_nat (a := 1) (by omega)).trans (by rw [Nat.one_mul])
    refine Or.inl ⟨((10 : Int) - (j : Int) + (-1), y.2), ?_, by dsimp only; omega, fun q hq => (y2 q hq).trans (e2 q hq), y3⟩
    unfold fX1_init_l25
    dsimp only [zlet]
    rw [if_neg (by rw [w32_id (by omega) (by omega)]; omega), e, y1, zb_some]
  · rintro ⟨x, K⟩ ⟨e1, e2, e3⟩
    dsimp only at e1 e2 e3
    subst e1
    exact ⟨_, by unfold fX1_init_l25; dsimp only; rw [if_pos (by rw [w32_id (by omega) (by omega)]; omega)], e2, fun w hw => e3 w hw⟩
theorem b_ww {I : zMem} (h : ∀ w, w < 2048 → I (16, 0, 0) w = (pcode w : Int)) : ∃ x, zlp fX1_init_l77 5000 (1, I) = some x ∧ (∀ q, q ≠ (17, 0, 0) → x.2 q = I q) ∧ ∀ n, 1 ≤ n → n < 256 → x.2 (17, 0, 0) n = ((pcode (pww n) ^^^ pcode (pww 0) : Nat) : Int) := by
  have w0 : fX1_wholeWord 0 = some (pww 0 : Int) := s_wholeWord (n := 0) (by decide)
  have hh := zlp_inv (body := fX1_init_l77) (fun j s => s.1 = ((j + 1 : Nat) : Int) ∧ (∀ q, q ≠ (17, 0, 0) → s.2 q = I q) ∧ ∀ n, 1 ≤ n → n < j + 1 → s.2 (17, 0, 0) n = ((pcode (pww n) ^^^ pcode (pww 0) : Nat) : Int)) (fun x => (∀ q, q ≠ (17, 0, 0) → x.2 q = I q) ∧ ∀ n, 1 ≤ n → n < 256 → x.2 (17, 0, 0) n = ((pcode (pww n) ^^^ pcode (pww 0) : Nat) : Int)) 255 (N := 5000) (by decide) (s0 := (1, I)) ?_ ?_ ?_
  · exact hh
  · exact ⟨rfl, fun _ _ => rfl, fun n h1 h2 => absurd h2 (by omega)⟩
  · rintro j ⟨x, K⟩ hj ⟨e1, e2, e3⟩
    dsimp only at e1 e2 e3
    subst e1
    refine Or.inl ?_
    have l1 := pww_lt (n := j + 1) (by omega)
    have l0 := pww_lt (n := 0) (by decide)
    have c1 := pcode_lt (pww (j + 1))
    have c0 := pcode_lt (pww 0)
    have k1 : K (16, 0, 0) (pww (j + 1)) = (pcode (pww (j + 1)) : Int) := by rw [e2 _ (by decide)]; exact h _ l1
    have k0 : K (16, 0, 0) (pww 0) = (pcode (pww 0) : Int) := by rw [e2 _ (by decide)]; exact h _ l0
    unfold fX1_init_l77
    dsimp only [zlet]
    rw [if_neg (by rw [w32_n (by omega)]; omega), s_wholeWord (by omega), zb_some, if_pos (zin_nat l1 (by decide)), w0, zb_some, if_pos (zin_nat l0 (by decide)), if_pos (zin_nat (by omega) (by decide)), ix_nat (by omega), ix_nat (by omega), ix_nat (by omega), k1, k0, lxor_nat (by omega) (by omega)]
    refine ⟨_, rfl, rfl, fun q hq => ?_, fun n h1 h2 => ?_⟩
    · dsimp only; rw [zst_nq hq]; exact e2 q hq
    · dsimp only
      by_cases hc : n = j + 1
      · subst hc; exact zst_at
      · rw [zst_nk hc]; exact e3 n h1 (by omega)
  · rintro ⟨x, K⟩ ⟨e1, e2, e3⟩
    dsimp only at e1 e2 e3
    subst e1
    exact ⟨_, by unfold fX1_init_l77; dsimp only; rw [if_pos (by rw [w32_n (by omega)]; omega)], e2, fun n h1 h2 => e3 n h1 (by omega)⟩
theorem b_X1 {I : zMem} (h : I (16, 0, 0) 0 = 0) : ∃ u, fX1_init I = some u ∧ iCode u ∧ ∀ q, q ≠ (16, 0, 0) → q ≠ (17, 0, 0) → u q = I q := by
  obtain ⟨x, x1, x2, x3⟩ := b_code h
  obtain ⟨y, y1, y2, y3⟩ := b_ww x3
  refine ⟨y.2, ?_, ⟨fun w hw => ?_, y3⟩, fun q h1 h2 => (y2 q h2).trans (x2 q h1)⟩
  · unfold fX1_init; rw [x1, zb_some, y1, zb_some]
  · rw [y2 _ (by decide)]; exact x3 w hw
theorem pfil_48 : pfil 48 = 39 := by decide +kernel
theorem b_X6 {I : zMem} : ∃ u, fX6_init I = some u ∧ iRing u ∧ ∀ q, q ≠ (18, 0, 0) → q ≠ (19, 0, 0) → u q = I q := by
  have hh := zlp_inv (body := fX6_init_l32) (fun j s => s.1 = (pfil j : Int) ∧ s.2.1 = (j : Int) ∧ (∀ q, q ≠ (18, 0, 0) → q ≠ (19, 0, 0) → s.2.2 q = I q) ∧ (∀ k, k < j → s.2.2 (19, 0, 0) k = (pfil k : Int)) ∧ ∀ k, k < pfil j → s.2.2 (18, 0, 0) k = pord k) (fun r => r.1 = (pfil 48 : Int) ∧ (∀ q, q ≠ (18, 0, 0) → q ≠ (19, 0, 0) → r.2.2 q = I q) ∧ (∀ k, k < 48 → r.2.2 (19, 0, 0) k = (pfil k : Int)) ∧ ∀ k, k < pfil 48 → r.2.2 (18, 0, 0) k = pord k) 48 (N := 5000) (by decide) (s0 := (0, 0, I)) ?_ ?_ ?_
  · obtain ⟨x, x1, x2, x3, x4, x5⟩ := hh
    refine ⟨zst x.2.2 (19, 0, 0) 48 x.1, ?_, ⟨fun k hk => ?_, fun k hk => ?_⟩, fun q h1 h2 => ?_⟩
    · unfold fX6_init; rw [x1, zb_some]; rfl
    · rw [zst_nq (by decide)]; exact x5 k (by rw [pfil_48]; exact hk)
    · by_cases hc : k = 48
      · subst hc; rw [zst_at]; exact x2
      · rw [zst_nk hc]; exact x4 k (by omega)
    · rw [zst_nq h2]; exact x3 q h1 h2
  · exact ⟨rfl, rfl, fun _ _ _ => rfl, fun k hk => absurd hk (Nat.not_lt_zero k), fun k hk => absurd hk (Nat.not_lt_zero k)⟩
  · rintro j ⟨x, y, K⟩ hj ⟨e1, e2, e3, e4, e5⟩
    dsimp only at e1 e2 e3 e4 e5
    subst e1 e2
    refine Or.inl ?_
    obtain ⟨p1, p2, p3⟩ := pplace_rng hj
    have hf := pfil_mono (show j ≤ 48 by omega)
    rw [pfil_48] at hf
    unfold fX6_init_l32 fX6_init_b32_71
    dsimp only [zlet]
    rw [if_neg (by rw [w32_n (by omega)]; omega), if_pos (zin_nat (by omega) (by decide)), s_bitAtPlace hj, zb_some]
    have e6 : ix (j : Int) = j := ix_nat (by omega)
    by_cases hc : pplace j = -1
    · rw [if_pos (by rw [w32_id (by omega) (by omega)]; exact hc), e6]
      have e7 : pfil (j + 1) = pfil j := by rw [pfil_s, if_pos hc, Nat.add_zero]
      refine ⟨_, rfl, ?_, rfl, fun q h1 h2 => ?_, fun k hk => ?_, fun k hk => ?_⟩
      · dsimp only; rw [e7]
      · dsimp only; rw [zst_nq h2]; exact e3 q h1 h2
      · dsimp only
        by_cases h : k = j
        · subst h; exact zst_at
        · rw [zst_nk h]; exact e4 k (by omega)
      · dsimp only; rw [zst_nq (by decide)]; exact e5 k (by rw [e7] at hk; exact hk)
    · obtain ⟨p4, p5⟩ := p3 hc
      have e7 : pfil (j + 1) = pfil j + 1 := by rw [pfil_s, if_neg hc]
      rw [if_neg (by rw [w32_id (by omega) (by omega)]; exact hc), if_neg (by rw [w32_n (by omega)]; omega), if_pos (zin_nat p5 (by decide)), e6, ix_nat (by omega)]
      refine ⟨_, rfl, ?_, rfl, fun q h1 h2 => ?_, fun k hk => ?_, fun k hk => ?_⟩
      · dsimp only; rw [e7]; rfl
      · dsimp only; rw [zst_nq h1, zst_nq h2]; exact e3 q h1 h2
      · dsimp only
        rw [zst_nq (by decide)]
        by_cases h : k = j
        · subst h; exact zst_at
        · rw [zst_nk h]; exact e4 k (by omega)
      · dsimp only
        by_cases h : k = pfil j
        · subst h; rw [zst_at]; exact p4.symm
        · rw [zst_nk h, zst_nq (by decide)]; exact e5 k (by omega)
  · rintro ⟨x, y, K⟩ ⟨e1, e2, e3, e4, e5⟩
    dsimp only at e1 e2 e3 e4 e5
    subst e1 e2
    exact ⟨_, by unfold fX6_init_l32; dsimp only; rw [if_pos (by rw [w32_n (by omega)]; omega)], rfl, e3, e4, e5⟩
