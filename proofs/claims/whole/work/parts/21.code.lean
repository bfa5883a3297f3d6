/-! WORDS -/
def prs (x t : Nat) : Nat := if x / 2 ^ t % 2 = 1 then x ^^^ (11 * 2 ^ (t - 3)) else x
def pri (w : Nat) : Nat → Nat
  | 0 => w
  | j + 1 => prs (pri w j) (10 - j)
/-- REST -/
def prest (w : Nat) : Nat := pri w 8
theorem prs_lt {x t : Nat} (h : x < 2048) (ht : t ≤ 10) : prs x t < 2048 := by
  unfold prs
  split
  · have h2 : 11 * 2 ^ (t - 3) < 2 ^ 11 := by
      have h3 : 2 ^ (t - 3) ≤ 2 ^ 7 := Nat.pow_le_pow_right (by decide) (by omega)
      omega
    exact Nat.xor_lt_two_pow (n := 11) h h2
  · exact h
theorem pri_lt {w : Nat} (h : w < 2048) : ∀ j, pri w j < 2048
  | 0 => h
  | j + 1 => prs_lt (pri_lt h j) (by omega)
theorem s_restOf {w : Nat} (hw : w < 2048) : fX1_restOf (w : Int) = some (prest w : Int) := by
  unfold fX1_restOf
  have h := zlp_0 (body := fX1_restOf_l5 (w : Int)) (S := fun j => ((pri w j : Int), ((10 : Int) - j))) (r := ((prest w : Int), (2 : Int))) 8 (N := 5000) (by decide) ?_ ?_
  · rw [show (((w : Int)), (10 : Int)) = ((pri w 0 : Int), ((10 : Int) - (0 : Nat))) from rfl, h]
    rfl
  · intro j hj
    have hl := pri_lt hw j
    unfold fX1_restOf_l5 fX1_restOf_b5_28 zlet
    dsimp only
    rw [w32_id (by omega) (by omega), if_neg (by omega)]
    rw [show ((10 : Int) - (j : Int)) = ((10 - j : Nat) : Int) by omega, ishr_nat (by omega) (by omega)]
    show (if ((pri w j / 2 ^ (10 - j) : Nat) : Int) % 2 = 1 then _ else _) = some (Sum.inl ((prs (pri w j) (10 - j) : Int), (10 : Int) - ((j + 1 : Nat) : Int)))
    unfold prs
    by_cases hc : pri w j / 2 ^ (10 - j) % 2 = 1
    · rw [if_pos hc, if_pos (by omega), show ((10 - j : Nat) : Int) - 3 = ((10 - j - 3 : Nat) : Int) by omega, show (11 : Int) = ((11 : Nat) : Int) from rfl, ishl_nat (by omega)]
      have h3 : 2 ^ (10 - j - 3) ≤ 2 ^ 7 := Nat.pow_le_pow_right (by decide) (by omega)
      rw [ixor_nat (by omega) (by omega)]
      congr 3
      omega
    · rw [if_neg hc, if_neg (by omega)]
      congr 3
      omega
  · rfl
theorem s_restOfM {w : Nat} (hw : w < 2048) : fX12_restOf (w : Int) = some (prest w : Int) := s_restOf hw
theorem prest_lt {w : Nat} (hw : w < 2048) : prest w < 2048 := pri_lt hw 8
theorem s_isWhole {w : Nat} (hw : w < 2048) : fX1_isWhole (w : Int) = some (if prest w = 5 then 1 else 0) := by
  have h := prest_lt hw
  unfold fX1_isWhole
  rw [s_restOf hw, zb_some, w32_n (by omega)]
  by_cases hc : prest w = 5
  · rw [if_pos hc, if_pos (by omega)]
  · rw [if_neg hc, if_neg (by omega)]
theorem s_isWholeM {w : Nat} (hw : w < 2048) : fX12_isWhole (w : Int) = some (if prest w = 5 then 1 else 0) := s_isWhole hw
/-- the whole word of number n -/
def pww (n : Nat) : Nat := n * 8 ||| (prest (n * 8) ^^^ 5)
theorem pww_ok : (List.range 256).all (fun n => decide (pww n < 2048 ∧ pww n / 8 = n ∧ prest (pww n) = 5)) = true := by decide +kernel
theorem pww_lt {n : Nat} (h : n < 256) : pww n < 2048 := (zall pww_ok h).1
theorem pww_div {n : Nat} (h : n < 256) : pww n / 8 = n := (zall pww_ok h).2.1
theorem pww_rest {n : Nat} (h : n < 256) : prest (pww n) = 5 := (zall pww_ok h).2.2
theorem s_wholeWord {n : Nat} (hn : n < 256) : fX1_wholeWord (n : Int) = some (pww n : Int) := by
  unfold fX1_wholeWord
  dsimp only [zlet]
  rw [show (3 : Int) = ((3 : Nat) : Int) from rfl, ishl_nat (by omega)]
  have h8 : n * 2 ^ 3 = n * 8 := rfl
  rw [h8, s_restOf (by omega), zb_some, show (5 : Int) = ((5 : Nat) : Int) from rfl]
  have h := prest_lt (w := n * 8) (by omega)
  rw [ixor_nat (by omega) (by omega)]
  have h2 : prest (n * 8) ^^^ 5 < 2 ^ 11 := Nat.xor_lt_two_pow (n := 11) h (by decide)
  rw [ior_nat (by omega) (by omega)]
  rfl
theorem por_ok : (List.range 8).all (fun s => (List.range 32).all (fun l => decide (s * 256 ||| l * 8 = (s * 32 + l) * 8))) = true := by decide +kernel
theorem por {s l : Nat} (hs : s < 8) (hl : l < 32) : s * 256 ||| l * 8 = (s * 32 + l) * 8 := by
  have h := List.all_eq_true.mp por_ok s (List.mem_range.mpr hs)
  exact of_decide_eq_true (List.all_eq_true.mp h l (List.mem_range.mpr hl))
theorem s_wordOf {s l : Nat} (hs : s < 8) (hl : l < 32) : fX12_wordOf (s : Int) (l : Int) = some (pww (s * 32 + l) : Int) := by
  unfold fX12_wordOf
  dsimp only [zlet]
  rw [show (8 : Int) = ((8 : Nat) : Int) from rfl, show (3 : Int) = ((3 : Nat) : Int) from rfl, ishl_nat (by omega), ishl_nat (by omega)]
  rw [show s * 2 ^ 8 = s * 256 from rfl, show l * 2 ^ 3 = l * 8 from rfl, ior_nat (by omega) (by omega), por hs hl]
  rw [s_restOfM (by omega), zb_some, show (5 : Int) = ((5 : Nat) : Int) from rfl]
  have h := prest_lt (w := (s * 32 + l) * 8) (by omega)
  rw [ixor_nat (by omega) (by omega)]
  have h2 : prest ((s * 32 + l) * 8) ^^^ 5 < 2 ^ 11 := Nat.xor_lt_two_pow (n := 11) h (by decide)
  rw [ior_nat (by omega) (by omega)]
  rfl
/-- bit of a step, code bits -/
def pb (w t : Nat) : Nat := if t ≤ 10 then w / 2 ^ (10 - t) % 2 else 0
def pb1 (w t : Nat) : Nat := if t = 0 then 0 else pb w (t - 1)
def pb2 (w t : Nat) : Nat := if t < 2 then 0 else pb w (t - 2)
def pcb (w c : Nat) : Nat := if c < 13 then pb w c else if c < 26 then (pb w (c % 13) ^^^ pb1 w (c % 13)) ^^^ pb2 w (c % 13) else pb w (c % 13) ^^^ pb2 w (c % 13)
theorem pb_lt (w t : Nat) : pb w t < 2 := by unfold pb; split <;> omega
theorem pb1_lt (w t : Nat) : pb1 w t < 2 := by unfold pb1; split; decide; exact pb_lt _ _
theorem pb2_lt (w t : Nat) : pb2 w t < 2 := by unfold pb2; split; decide; exact pb_lt _ _
theorem pcb_lt (w c : Nat) : pcb w c < 2 := by
  have h1 := pb_lt w (c % 13)
  have h2 := pb1_lt w (c % 13)
  have h3 := pb2_lt w (c % 13)
  unfold pcb
  split
  · exact pb_lt w c
  · split
    · exact Nat.xor_lt_two_pow (n := 1) (Nat.xor_lt_two_pow (n := 1) h1 h2) h3
    · exact Nat.xor_lt_two_pow (n := 1) h1 h3
theorem s_bitAt {w : Nat} (hw : w < 2048) {t : Int} (h1 : -2 ≤ t) (h2 : t ≤ 12) : fX12_bitAt (w : Int) t = some (if t < 0 then 0 else (pb w t.toNat : Int)) := by
  unfold fX12_bitAt fX12_bitAt_b10
  rw [w32_id (by omega) (by omega)]
  by_cases h : t < 0
  · rw [if_pos h, if_pos h]
  · rw [if_neg h, if_neg h]
    unfold pb
    by_cases h3 : t ≤ 10
    · rw [if_pos h3, if_pos (by omega), show (10 : Int) - t = ((10 - t.toNat : Nat) : Int) by omega, ishr_nat (by omega) (by omega)]
      rfl
    · rw [if_neg h3, if_neg (by omega)]; rfl
theorem s_codeBit {w c : Nat} (hw : w < 2048) (hc : c < 39) : fX12_codeBit (w : Int) (c : Int) = some (pcb w c : Int) := by
  unfold fX12_codeBit
  dsimp only [zlet]
  rw [irem_of (by omega) (by omega) (by decide) (by decide), w32_n (by omega)]
  have e : ((c : Int) % 13) = ((c % 13 : Nat) : Int) := by omega
  rw [e]
  have ht : c % 13 < 13 := Nat.mod_lt _ (by decide)
  generalize c % 13 = t at e ht
  have b0 : fX12_bitAt (w : Int) (t : Int) = some (pb w t : Int) := by
    rw [s_bitAt hw (by omega) (by omega), if_neg (by omega)]; rfl
  have b1 : fX12_bitAt (w : Int) ((t : Int) - 1) = some (pb1 w t : Int) := by
    rw [s_bitAt hw (by omega) (by omega)]
    unfold pb1
    by_cases h : t = 0
    · rw [if_pos h, if_pos (by omega)]; rfl
    · rw [if_neg h, if_neg (by omega), show ((t : Int) - 1).toNat = t - 1 by omega]
  have b2 : fX12_bitAt (w : Int) ((t : Int) - 2) = some (pb2 w t : Int) := by
    rw [s_bitAt hw (by omega) (by omega)]
    unfold pb2
    by_cases h : t < 2
    · rw [if_pos h, if_pos (by omega)]; rfl
    · rw [if_neg h, if_neg (by omega), show ((t : Int) - 2).toNat = t - 2 by omega]
  have l0 := pb_lt w t
  have l1 := pb1_lt w t
  have l2 := pb2_lt w t
  rw [b0, zb_some, b2, zb_some]
  have et : c % 13 = t := by omega
  unfold pcb
  rw [et]
  by_cases h1 : c < 13
  · rw [if_pos h1, if_neg (by omega), show t = c by omega]
  · rw [if_neg h1, if_pos (by omega)]
    by_cases h2 : c < 26
    · rw [if_pos h2, if_neg (by omega), b1, zb_some, ixor_nat (by omega) (by omega)]
      have l3 : pb w t ^^^ pb1 w t < 2 ^ 1 := Nat.xor_lt_two_pow (n := 1) l0 l1
      rw [ixor_nat (by omega) (by omega)]
    · rw [if_neg h2, if_pos (by omega), ixor_nat (by omega) (by omega)]
/-- all code bits of a word, as bits -/
def pcd (w : Nat) : Nat → Nat
  | 0 => 0
  | n + 1 => pcd w n ||| (pcb w n * 2 ^ n)
def pcode (w : Nat) : Nat := pcd w 39
theorem pcd_lt (w : Nat) : ∀ n, pcd w n < 2 ^ n
  | 0 => by simp [pcd]
  | n + 1 => by
    have h := pcd_lt w n
    have h2 := pcb_lt w n
    refine Nat.or_lt_two_pow (by rw [Nat.pow_succ]; omega) ?_
    rw [Nat.pow_succ, Nat.mul_comm]
    exact Nat.mul_lt_mul_of_pos_left h2 (Nat.pow_pos (by decide))
theorem pcd_bit (w : Nat) : ∀ n c, (pcd w n).testBit c = (decide (c < n) && decide (pcb w c = 1))
  | 0, c => by simp [pcd]
  | n + 1, c => by
    have h2 := pcb_lt w n
    rw [pcd, Nat.testBit_or, pcd_bit w n c, Nat.mul_comm, Nat.testBit_two_pow_mul]
    by_cases h : c < n
    · simp [h, show ¬ n ≤ c by omega, show c < n + 1 by omega]
    · by_cases h3 : c = n
      · subst h3
        have h4 : pcb w c = 0 ∨ pcb w c = 1 := by omega
        rcases h4 with h4 | h4 <;> simp [h4]
      · have h5 : pcb w n < 2 ^ (c - n) := Nat.lt_of_lt_of_le h2 (by
          have : 2 ^ 1 ≤ 2 ^ (c - n) := Nat.pow_le_pow_right (by decide) (by omega)
          exact this)
        simp [h, show ¬ c < n + 1 by omega, Nat.testBit_lt_two_pow h5]
theorem pcode_lt (w : Nat) : pcode w < 549755813888 := pcd_lt w 39
theorem pcode_bit {w c : Nat} (hc : c < 39) : pcode w / 2 ^ c % 2 = pcb w c := by
  have h := pcd_bit w 39 c
  have h2 := pcb_lt w c
  rw [Nat.testBit_eq_decide_div_mod_eq] at h
  simp only [hc, decide_true, Bool.true_and] at h
  have h3 : (pcd w 39 / 2 ^ c % 2 = 1) ↔ (pcb w c = 1) := by
    constructor
    · intro q; exact of_decide_eq_true (h ▸ decide_eq_true q)
    · intro q; exact of_decide_eq_true (h.symm ▸ decide_eq_true q)
  unfold pcode
  omega
theorem s_isOne {b c : Nat} (hb : b < 549755813888) (hc : c < 39) : fX1_isOne (b : Int) (c : Int) = some (if b / 2 ^ c % 2 = 1 then 1 else 0) := by
  unfold fX1_isOne
  have h : b / 2 ^ c ≤ b := Nat.div_le_self _ _
  rw [lshr_nat (by omega) (by omega), show (1 : Int) = ((1 : Nat) : Int) from rfl, land_nat (by omega) (by decide)]
  rw [show (b / 2 ^ c) &&& 1 = b / 2 ^ c % 2 from Nat.and_one_is_mod _, w64_id (by omega) (by omega)]
  by_cases hc : b / 2 ^ c % 2 = 1
  · rw [if_pos hc, if_pos (by omega)]
  · rw [if_neg hc, if_neg (by omega)]
theorem s_codeOf {w : Nat} (hw : w < 2048) : fX12_codeOf (w : Int) = some (pcode w : Int) := by
  unfold fX12_codeOf
  have h := zlp_0 (body := fX12_codeOf_l4 (w : Int)) (S := fun j => ((pcd w j : Int), (j : Int))) (r := ((pcode w : Int), (39 : Int))) 39 (N := 5000) (by decide) ?_ ?_
  · rw [show ((0 : Int), (0 : Int)) = ((pcd w 0 : Int), ((0 : Nat) : Int)) from rfl, h]
    rfl
  · intro j hj
    have h1 := pcb_lt w j
    have h2 := pcd_lt w j
    have h3 : 2 ^ j ≤ 2 ^ 38 := Nat.pow_le_pow_right (by decide) (by omega)
    have h4 : pcb w j * 2 ^ j ≤ 1 * 2 ^ j := Nat.mul_le_mul_right _ (by omega)
    unfold fX12_codeOf_l4 zlet
    dsimp only
    rw [w32_n (by omega), if_neg (by omega), s_codeBit hw hj, zb_some, w32_n (by omega), lshl_nat (by omega), lor_nat (by omega) (by omega)]
    rfl
  · rfl
