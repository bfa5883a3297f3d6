theorem s_tailGain {f : Nat → Int} {I : zMem} (hG : ∀ t k, t < 13 → k < 8 → I (22, 0, 0) (8 * t + k) = pgn f t k) {s : Nat} (hs : s < 4) : fX2_tailGain (s : Int) I = some (pgn f 11 (2 * s) + pgn f 12 (4 * (s % 2))) := by
  have e1 : ishl (s : Int) 1 = 2 * (s : Int) := by rw [show (1 : Int) = ((1 : Nat) : Int) from rfl, ishl_nat (by decide)]; omega
  have e2 : ishl (s : Int) 2 = 4 * (s : Int) := by rw [show (2 : Int) = ((2 : Nat) : Int) from rfl, ishl_nat (by decide)]; omega
  have x1 : ix (88 + 2 * (s : Int) % 8) = 8 * 11 + 2 * s := by rw [ix_of (by omega) (by omega)]; omega
  have x2 : ix (96 + 4 * (s : Int) % 8) = 8 * 12 + 4 * (s % 2) := by rw [ix_of (by omega) (by omega)]; omega
  unfold fX2_tailGain
  rw [e1, e2, if_pos (zin_of (by omega) (by omega) (by decide)), if_pos (zin_of (by omega) (by omega) (by decide)), x1, x2, hG 11 _ (by decide) (by omega), hG 12 _ (by decide) (by omega)]
/-- Decoder.bestWord -/
theorem s_bestWord {f : Nat → Int} (hf : pbd f) {q : zPl} (hq : q ≠ (22, 0, 0)) {I : zMem} (hI : ∀ c, c < 39 → I q c = f c) : ∃ r J, fX2_bestWord q I = some (r, J) ∧ pbest f r ∧ ∀ p, p ≠ (22, 0, 0) → p ≠ (24, 0, 0) → p ≠ (25, 0, 0) → p ≠ (26, 0, 0) → p ≠ (27, 0, 0) → J p = I p := by
  obtain ⟨J, j1, j2, j3⟩ := s_measure hq hI
  unfold fX2_bestWord
  dsimp only [zlet]
  rw [j1, zb_some, s_fillI _ (by decide), zb_some, s_fillI _ (by decide), zb_some]
  have hh := zlp_inv (body := fX2_bestWord_l31 q) (fun t st => st.1 = (t : Int) ∧ (∀ r, r ≠ (24, 0, 0) → r ≠ (25, 0, 0) → r ≠ (26, 0, 0) → r ≠ (27, 0, 0) → st.2 r = J r) ∧ ∀ s, s < 4 → pV f t s (st.2 (24, 0, 0) s) (st.2 (25, 0, 0) s)) (fun st => (∀ r, r ≠ (24, 0, 0) → r ≠ (25, 0, 0) → r ≠ (26, 0, 0) → r ≠ (27, 0, 0) → st.2 r = J r) ∧ ∀ s, s < 4 → pV f 11 s (st.2 (24, 0, 0) s) (st.2 (25, 0, 0) s)) 11 (N := 5000) (by decide) (s0 := (0, zst (zmp (zmp J (24, 0, 0) 4 (fun _ => -100000000)) (25, 0, 0) 4 (fun _ => 0)) (24, 0, 0) 0 0)) ?_ ?_ ?_
  · obtain ⟨R, hr, r1, r2⟩ := hh
    rw [hr, zb_some]
    have j22 : R.2 (22, 0, 0) = J (22, 0, 0) := r1 _ (by decide) (by decide) (by decide) (by decide)
    have hG : ∀ t k, t < 13 → k < 8 → R.2 (22, 0, 0) (8 * t + k) = pgn f t k := fun t k ht hk => by rw [j22]; exact j3 t k ht hk
    have hx := zlp_inv (body := fX2_bestWord_l101 q R.2) (fun i st => st.2.2 = (i : Int) ∧ ((i = 0 ∧ st.1 = 0 ∧ st.2.1 = -100000000) ∨ ∃ w : Nat, st.1 = (w : Int) ∧ st.2.1 = pT f w ∧ w < 2048 ∧ w % 4 < i ∧ ∀ w', w' < 2048 → w' % 4 < i → pT f w' < pT f w ∨ (pT f w' = pT f w ∧ w ≤ w'))) (fun st => pbest f st.1) 4 (N := 5000) (by decide) (s0 := (0, (-100000000), 0)) ?_ ?_ ?_
    · obtain ⟨R', hr', q1⟩ := hx
      rw [hr', zb_some]
      exact ⟨_, _, rfl, q1, fun p n1 n2 n3 n4 n5 => by rw [r1 p n2 n3 n4 n5, j2 p n1]⟩
    · exact ⟨rfl, Or.inl ⟨rfl, rfl, rfl⟩⟩
    · rintro i ⟨t1, t2, t3⟩ hi ⟨a1, a2⟩
      dsimp only at a1 a2
      subst a1
      rcases r2 i hi with ⟨w, w1, w2, w3, w4, w5⟩ | ⟨h, -⟩
      · have hT : pT f w = pS f 11 w + (pgn f 11 (2 * i) + pgn f 12 (4 * (i % 2))) := by
          rw [pT_11, w2, show w % 2 = i % 2 by omega]; omega
        have hT' : ∀ w', w' % 4 = i → pT f w' = pS f 11 w' + (pgn f 11 (2 * i) + pgn f 12 (4 * (i % 2))) := fun w' h' => by
          rw [pT_11, h', show w' % 2 = i % 2 by omega]; omega
        have bd := pT_bd hf w
        have w1' : w < 2048 := w1
        have w5' : ∀ w', w' < 2048 → w' % 4 = i → pT f w' < pT f w ∨ (pT f w' = pT f w ∧ w ≤ w') := fun w' x1 x2 => by
          have := w5 w' x1 x2
          rw [hT, hT' w' x2]; omega
        unfold fX2_bestWord_l101 fX2_bestWord_b101_146 fX2_bestWord_b101_157
        dsimp only [zlet]
        rw [if_neg (by rw [w32_n (by omega)]; omega), if_pos (zin_of (by omega) (by omega) (by decide)), s_tailGain hG hi, zb_some, if_pos (show zin (i : Int) 4 from zin_of (by omega) (by omega) (by decide)), ix_nat (by omega), w4, w3, ← hT, w32_id (z := pT f w) (by omega) (by omega), w32_n (n := w) (by omega)]
        rcases a2 with ⟨rfl, rfl, rfl⟩ | ⟨v, rfl, rfl, v1, v2, v3⟩
        · rw [if_pos (by rw [w32_id (by decide) (by decide)]; omega)]
          exact Or.inl ⟨_, rfl, rfl, Or.inr ⟨w, rfl, rfl, w1', by omega, fun w' x1 x2 => w5' w' x1 (by omega)⟩⟩
        · have bd2 := pT_bd hf v
          rw [w32_id (z := pT f v) (by omega) (by omega), w32_n (n := v) (by omega)]
          have new : (pT f v < pT f w ∨ (pT f w = pT f v ∧ w < v)) → ∀ w', w' < 2048 → w' % 4 < i + 1 → pT f w' < pT f w ∨ (pT f w' = pT f w ∧ w ≤ w') := fun hn w' x1 x2 => by
            by_cases e : w' % 4 = i
            · exact w5' w' x1 e
            · have := v3 w' x1 (by omega); omega
          have old : (pT f w < pT f v ∨ (pT f w = pT f v ∧ v ≤ w)) → ∀ w', w' < 2048 → w' % 4 < i + 1 → pT f w' < pT f v ∨ (pT f w' = pT f v ∧ v ≤ w') := fun hn w' x1 x2 => by
            by_cases e : w' % 4 = i
            · have := w5' w' x1 e; omega
            · exact v3 w' x1 (by omega)
          by_cases c1 : pT f v < pT f w
          · rw [if_pos c1]
            exact Or.inl ⟨_, rfl, by dsimp only; omega, Or.inr ⟨w, rfl, rfl, w1', by omega, new (Or.inl c1)⟩⟩
          · rw [if_neg c1]
            by_cases c2 : pT f w = pT f v
            · rw [if_pos c2]
              by_cases c3 : v ≤ w
              · rw [if_pos (by omega)]
                exact Or.inl ⟨_, rfl, by dsimp only; omega, Or.inr ⟨v, rfl, rfl, v1, by omega, old (Or.inr ⟨c2, c3⟩)⟩⟩
              · rw [if_neg (by omega)]
                exact Or.inl ⟨_, rfl, by dsimp only; omega, Or.inr ⟨w, rfl, rfl, w1', by omega, new (Or.inr ⟨c2, by omega⟩)⟩⟩
            · rw [if_neg c2]
              exact Or.inl ⟨_, rfl, by dsimp only; omega, Or.inr ⟨v, rfl, rfl, v1, by omega, old (Or.inl (by omega))⟩⟩
      · exact absurd h (by have : (2 : Nat) ^ 11 = 2048 := by decide
                           omega)
    · rintro ⟨t1, t2, t3⟩ ⟨a1, a2⟩
      dsimp only at a1 a2
      subst a1
      unfold fX2_bestWord_l101
      dsimp only
      rw [if_pos (by decide)]
      rcases a2 with ⟨h, -⟩ | ⟨v, e1, -, v1, v2, v3⟩
      · exact absurd h (by decide)
      · exact ⟨_, rfl, v, e1, v1, fun w' x1 => v3 w' x1 (by omega)⟩
  · refine ⟨rfl, fun r n1 n2 n3 n4 => ?_, fun s hs => ?_⟩
    · dsimp only
      rw [zst_nq n1, zmp_ne n2, zmp_ne n1]
    · dsimp only
      rw [zst_nq (show ((25, 0, 0) : zPl) ≠ (24, 0, 0) by decide), zmp_in hs]
      by_cases e : s = 0
      · subst e
        rw [zst_at]
        exact Or.inl ⟨0, by decide, rfl, rfl, rfl, fun w' x1 _ => Or.inr ⟨rfl, Nat.zero_le _⟩⟩
      · rw [zst_nk e, zmp_ne (by decide), zmp_in hs]
        exact Or.inr ⟨by rw [Nat.pow_zero]; omega, by decide, by decide, by decide, by decide⟩
  · rintro t ⟨t1, K⟩ ht ⟨a1, a2, a3⟩
    dsimp only at a1 a2 a3
    subst a1
    have k22 : K (22, 0, 0) = J (22, 0, 0) := a2 _ (by decide) (by decide) (by decide) (by decide)
    obtain ⟨K', e, k1, k2⟩ := s_vstep hf (q := q) ht (fun k hk => by rw [k22]; exact j3 t k (by omega) hk) a3
    rw [e]
    exact Or.inl ⟨_, rfl, rfl, fun r n1 n2 n3 n4 => by dsimp only; rw [k1 r n1 n2 n3 n4, a2 r n1 n2 n3 n4], k2⟩
  · rintro ⟨t1, K⟩ ⟨a1, a2, a3⟩
    dsimp only at a1 a2 a3
    subst a1
    unfold fX2_bestWord_l31
    dsimp only
    rw [if_pos (by decide)]
    exact ⟨_, rfl, a2, a3⟩
