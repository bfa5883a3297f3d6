/-! THE GREATEST SUM OF WORDS WITH A BIT SO -/
theorem s_greatestWith {f : Nat → Int} (hf : pbd f) {I : zMem} (hI : ∀ w, w < 2048 → I (23, 0, 0) w = pT f w) {sh b : Nat} (hs : sh ≤ 10) (hb : b < 2) : ∃ r, fX2_greatestWith (sh : Int) (b : Int) I = some r ∧ ((∃ w : Nat, w < 2048 ∧ w / 2 ^ sh % 2 = b) → ∃ w : Nat, w < 2048 ∧ w / 2 ^ sh % 2 = b ∧ r = pT f w ∧ ∀ w', w' < 2048 → w' / 2 ^ sh % 2 = b → pT f w' ≤ pT f w) := by
  unfold fX2_greatestWith
  have hh := zlp_inv (body := fX2_greatestWith_l6 (sh : Int) (b : Int) I) (fun j st => st.2 = (j : Int) ∧ ((st.1 = -100000000 ∧ ∀ w' : Nat, w' < j → w' / 2 ^ sh % 2 ≠ b) ∨ ∃ w : Nat, w < j ∧ w / 2 ^ sh % 2 = b ∧ st.1 = pT f w ∧ ∀ w', w' < j → w' / 2 ^ sh % 2 = b → pT f w' ≤ pT f w)) (fun st => (st.1 = -100000000 ∧ ∀ w' : Nat, w' < 2048 → w' / 2 ^ sh % 2 ≠ b) ∨ ∃ w : Nat, w < 2048 ∧ w / 2 ^ sh % 2 = b ∧ st.1 = pT f w ∧ ∀ w', w' < 2048 → w' / 2 ^ sh % 2 = b → pT f w' ≤ pT f w) 2048 (N := 5000) (by decide) (s0 := ((-100000000), 0)) ⟨rfl, Or.inl ⟨rfl, fun w' h => absurd h (Nat.not_lt_zero _)⟩⟩ ?_ ?_
  · obtain ⟨R, hr, hq⟩ := hh
    rw [hr, zb_some]
    refine ⟨_, rfl, fun ⟨w, w1, w2⟩ => ?_⟩
    rcases hq with ⟨-, h⟩ | ⟨v, v1, v2, v3, v4⟩
    · exact absurd w2 (h w w1)
    · exact ⟨v, v1, v2, v3, v4⟩
  · rintro n ⟨t1, t2⟩ hn ⟨a1, a2⟩
    dsimp only at a1 a2
    subst a1
    have bn := pT_bd hf n
    have e : (ishr (n : Int) (sh : Int)) % 2 = ((n / 2 ^ sh % 2 : Nat) : Int) := by rw [ishr_nat (by omega) (by omega)]; omega
    unfold fX2_greatestWith_l6 fX2_greatestWith_b6_36
    dsimp only [zlet]
    rw [if_neg (by rw [w32_n (by omega)]; omega), e, w32_n (n := b) (by omega)]
    by_cases c : n / 2 ^ sh % 2 = b
    · rw [if_pos (by omega), if_pos (zin_of (by omega) (by omega) (by decide)), ix_nat (by omega), hI n hn]
      refine Or.inl ⟨_, rfl, by dsimp only; omega, Or.inr ?_⟩
      dsimp only
      rcases a2 with ⟨rfl, b2⟩ | ⟨w, w1, w2, rfl, w4⟩
      · refine ⟨n, by omega, c, ?_, fun w' h1 h2 => ?_⟩
        · unfold zmax
          rw [w32_id (by decide) (by decide), w32_id (by omega) (by omega)]; omega
        · by_cases e1 : w' = n
          · subst e1; exact Int.le_refl _
          · exact absurd h2 (b2 w' (by omega))
      · have bw := pT_bd hf w
        have ez : zmax (pT f w) (pT f n) = if pT f w < pT f n then pT f n else pT f w := by
          unfold zmax
          rw [w32_id (by omega) (by omega), w32_id (by omega) (by omega)]
        rw [ez]
        by_cases c2 : pT f w < pT f n
        · rw [if_pos c2]
          refine ⟨n, by omega, c, rfl, fun w' h1 h2 => ?_⟩
          by_cases e1 : w' = n
          · subst e1; exact Int.le_refl _
          · have := w4 w' (by omega) h2; omega
        · rw [if_neg c2]
          refine ⟨w, by omega, w2, rfl, fun w' h1 h2 => ?_⟩
          by_cases e1 : w' = n
          · subst e1; omega
          · exact w4 w' (by omega) h2
    · rw [if_neg (by omega)]
      refine Or.inl ⟨_, rfl, by dsimp only; omega, ?_⟩
      dsimp only
      rcases a2 with ⟨b1, b2⟩ | ⟨w, w1, w2, w3, w4⟩
      · refine Or.inl ⟨b1, fun w' h => ?_⟩
        by_cases e1 : w' = n
        · subst e1; exact c
        · exact b2 w' (by omega)
      · refine Or.inr ⟨w, by omega, w2, w3, fun w' h1 h2 => ?_⟩
        by_cases e1 : w' = n
        · subst e1; exact absurd h2 c
        · exact w4 w' (by omega) h2
  · rintro ⟨t1, t2⟩ ⟨a1, a2⟩
    dsimp only at a1 a2
    subst a1
    unfold fX2_greatestWith_l6
    dsimp only
    rw [if_pos (by decide)]
    exact ⟨_, rfl, a2⟩
theorem s_greatestOf {f : Nat → Int} (hf : pbd f) {m : zMem} (hC : iCodeM m) (hS : ∀ c, c < 39 → m (58, 0, 0) c = f c) {st0 b : Nat} (hs : st0 ≤ 10) (hb : b < 2) : ∃ r, fX12_greatestOf (st0 : Int) (b : Int) m = some r ∧ ((∃ w : Nat, w < 2048 ∧ w / 2 ^ (10 - st0) % 2 = b) → ∃ w : Nat, w < 2048 ∧ w / 2 ^ (10 - st0) % 2 = b ∧ r = pT f w ∧ ∀ w', w' < 2048 → w' / 2 ^ (10 - st0) % 2 = b → pT f w' ≤ pT f w) := by
  generalize hsh : 10 - st0 = sh
  unfold fX12_greatestOf
  have hh := zlp_inv (body := fX12_greatestOf_l6 (st0 : Int) (b : Int) m) (fun j st => st.2 = (j : Int) ∧ ((st.1 = -1073741824 ∧ ∀ w' : Nat, w' < j → w' / 2 ^ sh % 2 ≠ b) ∨ ∃ w : Nat, w < j ∧ w / 2 ^ sh % 2 = b ∧ st.1 = pT f w ∧ ∀ w', w' < j → w' / 2 ^ sh % 2 = b → pT f w' ≤ pT f w)) (fun st => (st.1 = -1073741824 ∧ ∀ w' : Nat, w' < 2048 → w' / 2 ^ sh % 2 ≠ b) ∨ ∃ w : Nat, w < 2048 ∧ w / 2 ^ sh % 2 = b ∧ st.1 = pT f w ∧ ∀ w', w' < 2048 → w' / 2 ^ sh % 2 = b → pT f w' ≤ pT f w) 2048 (N := 5000) (by decide) (s0 := ((-1073741824), 0)) ⟨rfl, Or.inl ⟨rfl, fun w' h => absurd h (Nat.not_lt_zero _)⟩⟩ ?_ ?_
  · obtain ⟨R, hr, hq⟩ := hh
    rw [hr, zb_some]
    refine ⟨_, rfl, fun ⟨w, w1, w2⟩ => ?_⟩
    rcases hq with ⟨-, h⟩ | ⟨v, v1, v2, v3, v4⟩
    · exact absurd w2 (h w w1)
    · exact ⟨v, v1, v2, v3, v4⟩
  · rintro n ⟨t1, t2⟩ hn ⟨a1, a2⟩
    dsimp only at a1 a2
    subst a1
    have bn := pT_bd hf n
    have e : fX12_bitAt (n : Int) (st0 : Int) = some ((n / 2 ^ sh % 2 : Nat) : Int) := by
      rw [s_bitAt hn (by omega) (by omega), if_neg (by omega), Int.toNat_natCast]
      unfold pb
      rw [if_pos hs, hsh]
    unfold fX12_greatestOf_l6 fX12_greatestOf_b6_47 fX12_greatestOf_b6_48
    dsimp only
    rw [if_neg (by rw [w32_n (by omega)]; omega), e, zb_some, w32_n (n := b) (by omega), w32_n (n := n / 2 ^ sh % 2) (by omega)]
    by_cases c : n / 2 ^ sh % 2 = b
    · rw [if_pos (by omega), s_sumNow hC hS hn, zb_some, w32_id (z := pT f n) (by omega) (by omega)]
      rcases a2 with ⟨rfl, b2⟩ | ⟨w, w1, w2, rfl, w4⟩
      · rw [if_neg (by rw [w32_id (by decide) (by decide)]; omega)]
        refine Or.inl ⟨_, rfl, by dsimp only; omega, Or.inr ⟨n, by omega, c, rfl, fun w' h1 h2 => ?_⟩⟩
        by_cases e1 : w' = n
        · subst e1; exact Int.le_refl _
        · exact absurd h2 (b2 w' (by omega))
      · have bw := pT_bd hf w
        rw [w32_id (z := pT f w) (by omega) (by omega)]
        by_cases c2 : pT f n ≤ pT f w
        · rw [if_pos c2]
          refine Or.inl ⟨_, rfl, by dsimp only; omega, Or.inr ⟨w, by omega, w2, rfl, fun w' h1 h2 => ?_⟩⟩
          by_cases e1 : w' = n
          · subst e1; omega
          · exact w4 w' (by omega) h2
        · rw [if_neg c2]
          refine Or.inl ⟨_, rfl, by dsimp only; omega, Or.inr ⟨n, by omega, c, rfl, fun w' h1 h2 => ?_⟩⟩
          by_cases e1 : w' = n
          · subst e1; exact Int.le_refl _
          · have := w4 w' (by omega) h2; omega
    · rw [if_neg (by omega)]
      refine Or.inl ⟨_, rfl, by dsimp only; omega, ?_⟩
      dsimp only
      rcases a2 with ⟨b1, b2⟩ | ⟨w, w1, w2, w3, w4⟩
      · refine Or.inl ⟨b1, fun w' h => ?_⟩
        by_cases e1 : w' = n
        · subst e1; exact c
        · exact b2 w' (by omega)
      · refine Or.inr ⟨w, by omega, w2, w3, fun w' h1 h2 => ?_⟩
        by_cases e1 : w' = n
        · subst e1; exact absurd h2 c
        · exact w4 w' (by omega) h2
  · rintro ⟨t1, t2⟩ ⟨a1, a2⟩
    dsimp only at a1 a2
    subst a1
    unfold fX12_greatestOf_l6
    dsimp only
    rw [if_pos (by decide)]
    exact ⟨_, rfl, a2⟩
/-- class and model agree on a bit's greatest sum -/
theorem great_eq {f : Nat → Int} (hf : pbd f) {I m : zMem} (hI : ∀ w, w < 2048 → I (23, 0, 0) w = pT f w) (hC : iCodeM m) (hS : ∀ c, c < 39 → m (58, 0, 0) c = f c) {st0 b : Nat} (hs : st0 ≤ 10) (hb : b < 2) : ∃ r, fX2_greatestWith (10 - (st0 : Int)) (b : Int) I = some r ∧ fX12_greatestOf (st0 : Int) (b : Int) m = some r := by
  obtain ⟨r, h1, h2⟩ := s_greatestWith hf hI (sh := 10 - st0) (b := b) (by omega) hb
  obtain ⟨r', h3, h4⟩ := s_greatestOf hf hC hS hs hb
  have ex : ∃ w : Nat, w < 2048 ∧ w / 2 ^ (10 - st0) % 2 = b := by
    have hp : (2 : Nat) ^ (10 - st0) ≤ 2 ^ 10 := Nat.pow_le_pow_right (by decide) (by omega)
    have e10 : (2 : Nat) ^ 10 = 1024 := by decide
    have hpos : 0 < 2 ^ (10 - st0) := Nat.pow_pos (by decide)
    by_cases c : b = 0
    · exact ⟨0, by decide, by rw [Nat.zero_div, c]⟩
    · exact ⟨2 ^ (10 - st0), by omega, by rw [Nat.div_self hpos]; omega⟩
  obtain ⟨w, w1, w2, w3, w4⟩ := h2 ex
  obtain ⟨v, v1, v2, v3, v4⟩ := h4 ex
  have : r' = r := by
    have a := w4 v v1 v2
    have c := v4 w w1 w2
    omega
  subst this
  rw [show (10 : Int) - (st0 : Int) = ((10 - st0 : Nat) : Int) by omega]
  exact ⟨r', h1, h3⟩
