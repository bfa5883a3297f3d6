/-! SUMS, class and model -/
theorem pS_sum (f : Nat → Int) : ∀ T W, pS f (T + 1) W = zsm (fun t => pgn f t (W / 2 ^ (T - t) % 8)) (T + 1)
  | 0, W => by
    rw [pS_s, zsm]
    show (0 : Int) + pgn f 0 (W % 8) = 0 + pgn f 0 (W / 2 ^ 0 % 8)
    rw [Nat.pow_zero, Nat.div_one]
  | T + 1, W => by
    rw [pS_s, pS_sum f T (W / 2)]
    have e : zsm (fun t => pgn f t (W / 2 ^ (T + 1 - t) % 8)) (T + 1 + 1) = zsm (fun t => pgn f t (W / 2 ^ (T + 1 - t) % 8)) (T + 1) + pgn f (T + 1) (W / 2 ^ (T + 1 - (T + 1)) % 8) := rfl
    rw [e, Nat.sub_self, Nat.pow_zero, Nat.div_one]
    congr 1
    refine zsm_cong fun k hk => ?_
    rw [Nat.div_div_eq_div_mul, ← Nat.pow_succ', show (T - k).succ = T + 1 - k by omega]
theorem pT_sum {f : Nat → Int} {w : Nat} (hw : w < 2048) : pT f w = zsm (fun c => psg (pcb w c) (f c)) 39 := by
  have h39 : zsm (fun c => psg (pcb w c) (f c)) 39 = zsm (fun t => psg (pcb w t) (f t) + psg (pcb w (13 + t)) (f (13 + t)) + psg (pcb w (26 + t)) (f (26 + t))) 13 := by
    rw [zsm_add, zsm_add]
    have a := zsm_split (fun c => psg (pcb w c) (f c)) 26 13
    have b := zsm_split (fun c => psg (pcb w c) (f c)) 13 13
    rw [show (39 : Nat) = 26 + 13 from rfl, a, show (26 : Nat) = 13 + 13 from rfl, b]
  rw [h39]
  unfold pT
  rw [pS_sum f 12 (4 * w)]
  refine zsm_cong fun t ht => ?_
  have hk := pk_is hw ht
  unfold pgn
  rw [hk.1, hk.2.1, hk.2.2]
  have c1 : pcb w t = pb w t := by unfold pcb; rw [if_pos ht]
  have c2 : pcb w (13 + t) = (pb w t ^^^ pb1 w t) ^^^ pb2 w t := by
    unfold pcb; rw [if_neg (by omega), if_pos (by omega), show (13 + t) % 13 = t by omega]
  have c3 : pcb w (26 + t) = pb w t ^^^ pb2 w t := by
    unfold pcb; rw [if_neg (by omega), if_neg (by omega), show (26 + t) % 13 = t by omega]
  rw [c1, c2, c3]
theorem m_signed {n : Nat} (x : Int) (hn : n < 2147483648) : fX12_signed (n : Int) x = some (psg n x) := by
  unfold fX12_signed psg
  rw [w32_n hn]
  by_cases h : n = 1
  · rw [if_pos (by omega), if_pos h]
  · rw [if_neg (by omega), if_neg h]
theorem land_1 {n : Nat} (h : n < 9223372036854775808) : land (n : Int) 1 = ((n % 2 : Nat) : Int) := by
  rw [show (1 : Int) = ((1 : Nat) : Int) from rfl, land_nat h (by decide), Nat.and_one_is_mod]
/-- the model's sum -/
theorem s_sumNow {f : Nat → Int} {m : zMem} (hC : iCodeM m) (hS : ∀ c, c < 39 → m (58, 0, 0) c = f c) {w : Nat} (hw : w < 2048) : fX12_sumNow (w : Int) m = some (pT f w) := by
  have hc := pcode_lt w
  unfold fX12_sumNow
  have hh := zlp_0 (body := fX12_sumNow_l4 (w : Int) m) (S := fun j => (zsm (fun c => psg (pcb w c) (f c)) j, (j : Int))) (r := (zsm (fun c => psg (pcb w c) (f c)) 39, 39)) 39 (N := 5000) (by decide) ?_ ?_
  · rw [show ((0 : Int), (0 : Int)) = (zsm (fun c => psg (pcb w c) (f c)) 0, ((0 : Nat) : Int)) from rfl, hh, zb_some, pT_sum hw]
  · intro j hj
    have hb := pcb_lt w j
    have hd : pcode w / 2 ^ j < 9223372036854775808 := Nat.lt_of_le_of_lt (Nat.div_le_self _ _) (Nat.lt_trans hc (by decide))
    unfold fX12_sumNow_l4
    dsimp only [zlet]
    rw [if_neg (by rw [w32_n (by omega)]; omega), if_pos (zin_of (by omega) (by omega) (by decide)), if_pos (zin_of (by omega) (by omega) (by decide)), ix_nat (by omega), ix_nat (by omega), hC w hw, hS j hj, lshr_nat (Nat.lt_trans hc (by decide)) (by omega), land_1 hd, pcode_bit hj, m_signed _ (by omega), zb_some, zsm]
    rfl
  · unfold fX12_sumNow_l4
    dsimp only
    rw [if_pos (by decide)]
    rfl
/-- the class's sums of all words -/
theorem s_sumAll {f : Nat → Int} {q : zPl} (hq : q ≠ (22, 0, 0)) {I : zMem} (hI : ∀ c, c < 39 → I q c = f c) : ∃ J, fX2_sumAll q I = some J ∧ (∀ w, w < 2048 → J (23, 0, 0) w = pT f w) ∧ ∀ r, r ≠ (22, 0, 0) → r ≠ (23, 0, 0) → J r = I r := by
  obtain ⟨J, j1, j2, j3⟩ := s_measure hq hI
  unfold fX2_sumAll
  dsimp only [zlet]
  rw [j1, zb_some]
  have h1 := zlp_inv (body := fX2_sumAll_l14 q) (fun t st => st.1 = (t : Int) ∧ (∀ r, r ≠ (23, 0, 0) → st.2 r = J r) ∧ ∀ w, w < 2 ^ t → st.2 (23, 0, 0) w = pS f t w) (fun st => (∀ r, r ≠ (23, 0, 0) → st.2 r = J r) ∧ ∀ w, w < 2048 → st.2 (23, 0, 0) w = pS f 11 w) 11 (N := 5000) (by decide) (s0 := (0, zst J (23, 0, 0) 0 0)) ⟨rfl, fun r hr => zst_nq hr, fun w hw => by
      have : w = 0 := by rw [Nat.pow_zero] at hw; omega
      subst this
      show zst J (23, 0, 0) 0 0 (23, 0, 0) 0 = 0
      exact zst_at⟩ ?_ ?_
  · obtain ⟨R, hr, r1, r2⟩ := h1
    rw [hr, zb_some]
    have h2 := zlp_inv (body := fX2_sumAll_l73 q) (fun i st => st.1 = (i : Int) ∧ (∀ r, r ≠ (23, 0, 0) → st.2 r = J r) ∧ ∀ w, w < 2048 → st.2 (23, 0, 0) w = if w < i then pT f w else pS f 11 w) (fun st => (∀ r, r ≠ (23, 0, 0) → st.2 r = J r) ∧ ∀ w, w < 2048 → st.2 (23, 0, 0) w = pT f w) 2048 (N := 5000) (by decide) (s0 := (0, R.2)) ⟨rfl, r1, fun w hw => by rw [if_neg (Nat.not_lt_zero w)]; exact r2 w hw⟩ ?_ ?_
    · obtain ⟨R', hr', q1, q2⟩ := h2
      rw [hr', zb_some]
      exact ⟨_, rfl, q2, fun r n1 n2 => by rw [q1 r n2, j2 r n1]⟩
    · rintro i ⟨t1, K⟩ hi ⟨a1, a2, a3⟩
      dsimp only at a1 a2 a3
      subst a1
      have k22 : K (22, 0, 0) = J (22, 0, 0) := a2 _ (by decide)
      unfold fX2_sumAll_l73
      dsimp only [zlet]
      have hv := a3 i hi
      rw [if_neg (Nat.lt_irrefl i)] at hv
      rw [if_neg (by rw [w32_n (by omega)]; omega), if_pos (zin_of (by omega) (by omega) (by decide)), show (i : Int) % 4 = ((i % 4 : Nat) : Int) by omega, s_tailGain (f := f) (fun t k ht hk => by rw [k22]; exact j3 t k ht hk) (by omega), zb_some, ix_nat (by omega), hv]
      refine Or.inl ⟨_, rfl, by dsimp only; omega, fun r n => by dsimp only; rw [zst_nq n, a2 r n], fun w hw => ?_⟩
      dsimp only
      by_cases e : w = i
      · subst e
        rw [zst_at, if_pos (by omega), pT_11, show w % 4 % 2 = w % 2 by omega]; omega
      · rw [zst_nk e, a3 w hw]
        by_cases c : w < i
        · rw [if_pos c, if_pos (by omega)]
        · rw [if_neg c, if_neg (by omega)]
    · rintro ⟨t1, K⟩ ⟨a1, a2, a3⟩
      dsimp only at a1 a2 a3
      subst a1
      unfold fX2_sumAll_l73
      dsimp only
      rw [if_pos (by decide)]
      exact ⟨_, rfl, a2, fun w hw => by have := a3 w hw; rw [if_pos hw] at this; exact this⟩
  · rintro t ⟨t1, K⟩ ht ⟨a1, a2, a3⟩
    dsimp only at a1 a2 a3
    subst a1
    have hp : (2 : Nat) ^ (t + 1) = 2 * 2 ^ t := Nat.pow_succ'
    have hpos : 0 < 2 ^ t := Nat.pow_pos (by decide)
    have hle : (2 : Nat) ^ (t + 1) ≤ 2 ^ 11 := Nat.pow_le_pow_right (by decide) (by omega)
    have e11 : (2 : Nat) ^ 11 = 2048 := by decide
    have es : ishl 2 (t : Int) - 1 = ((2 ^ (t + 1) - 1 : Nat) : Int) := by
      rw [show (2 : Int) = ((2 : Nat) : Int) from rfl, ishl_nat (by omega), ← Nat.pow_succ']; omega
    unfold fX2_sumAll_l14
    dsimp only [zlet]
    rw [if_neg (by rw [w32_n (by omega)]; omega), es]
    have h3 := zlp_inv (body := fX2_sumAll_l26 q (t : Int)) (fun i st => st.1 = ((2 ^ (t + 1) : Nat) : Int) - 1 - (i : Int) ∧ (∀ r, r ≠ (23, 0, 0) → st.2 r = J r) ∧ (∀ w, w < 2 ^ t → w + i < 2 ^ (t + 1) → st.2 (23, 0, 0) w = pS f t w) ∧ ∀ w, w < 2 ^ (t + 1) → 2 ^ (t + 1) ≤ w + i → st.2 (23, 0, 0) w = pS f (t + 1) w) (fun st => (∀ r, r ≠ (23, 0, 0) → st.2 r = J r) ∧ ∀ w, w < 2 ^ (t + 1) → st.2 (23, 0, 0) w = pS f (t + 1) w) (2 ^ (t + 1)) (N := 5000) (by omega) (s0 := (((2 ^ (t + 1) - 1 : Nat) : Int), K)) ⟨by dsimp only; omega, a2, fun w hw _ => a3 w hw, fun w hw h => absurd hw (by omega)⟩ ?_ ?_
    · obtain ⟨R, hr, r1, r2⟩ := h3
      rw [hr, zb_some]
      exact Or.inl ⟨_, rfl, by dsimp only; omega, r1, r2⟩
    · rintro i ⟨t1, L⟩ hi ⟨b1, b2, b3, b4⟩
      dsimp only at b1 b2 b3 b4
      obtain ⟨n, hn⟩ : ∃ n : Nat, n + i + 1 = 2 ^ (t + 1) := ⟨2 ^ (t + 1) - i - 1, by omega⟩
      have : t1 = (n : Int) := by omega
      subst this
      have l22 : L (22, 0, 0) = J (22, 0, 0) := b2 _ (by decide)
      have x1 : ishr (n : Int) 1 = ((n / 2 : Nat) : Int) := by rw [show (1 : Int) = ((1 : Nat) : Int) from rfl, ishr_nat (by omega) (by decide)]
      have x2 : ix (8 * (t : Int) + (n : Int) % 8) = 8 * t + n % 8 := by rw [ix_of (by omega) (by omega)]; omega
      have hv := b3 (n / 2) (by omega) (by omega)
      unfold fX2_sumAll_l26
      dsimp only [zlet]
      rw [if_neg (by rw [w32_n (by omega)]; omega), x1, if_pos (zin_of (by omega) (by omega) (by decide)), if_pos (zin_of (by omega) (by omega) (by decide)), if_pos (zin_of (by omega) (by omega) (by decide)), x2, ix_nat (by omega), ix_nat (by omega), hv, l22, j3 t (n % 8) (by omega) (by omega), ← pS_s]
      refine Or.inl ⟨_, rfl, by dsimp only; omega, fun r hr => by dsimp only; rw [zst_nq hr, b2 r hr], fun w hw h => ?_, fun w hw h => ?_⟩
      · dsimp only
        rw [zst_nk (by omega)]; exact b3 w hw (by omega)
      · dsimp only
        by_cases e : w = n
        · subst e; exact zst_at
        · rw [zst_nk e]; exact b4 w hw (by omega)
    · rintro ⟨t1, L⟩ ⟨b1, b2, b3, b4⟩
      dsimp only at b1 b2 b3 b4
      have : t1 = -1 := by omega
      subst this
      unfold fX2_sumAll_l26
      dsimp only
      rw [if_pos (by decide)]
      exact ⟨_, rfl, b2, fun w hw => b4 w hw (by omega)⟩
  · rintro ⟨t1, K⟩ ⟨a1, a2, a3⟩
    dsimp only at a1 a2 a3
    subst a1
    unfold fX2_sumAll_l14
    dsimp only
    rw [if_pos (by decide)]
    exact ⟨_, rfl, a2, fun w hw => a3 w hw⟩
