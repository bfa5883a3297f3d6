/-! SUMS OF WORDS -/
def psg (b : Nat) (x : Int) : Int := if b = 1 then x else -x
/-- what a step adds: k is three bits, the newest last -/
def pgn (f : Nat → Int) (t k : Nat) : Int := psg (k % 2) (f t) + psg (k % 2 ^^^ k / 2 % 2 ^^^ k / 4 % 2) (f (13 + t)) + psg (k % 2 ^^^ k / 4 % 2) (f (26 + t))
/-- the sum of a beginning of t bits -/
def pS (f : Nat → Int) : Nat → Nat → Int
  | 0, _ => 0
  | t + 1, w => pS f t (w / 2) + pgn f t (w % 8)
abbrev pbd (f : Nat → Int) : Prop := ∀ c, c < 39 → -9999 ≤ f c ∧ f c ≤ 9999
theorem psg_bd {x c : Int} (b : Nat) (h : -c ≤ x ∧ x ≤ c) : -c ≤ psg b x ∧ psg b x ≤ c := by
  unfold psg; split <;> omega
theorem pgn_bd {f : Nat → Int} (h : pbd f) {t : Nat} (ht : t < 13) (k : Nat) : -30000 ≤ pgn f t k ∧ pgn f t k ≤ 30000 := by
  have h1 := psg_bd (k % 2) (h t (by omega))
  have h2 := psg_bd (k % 2 ^^^ k / 2 % 2 ^^^ k / 4 % 2) (h (13 + t) (by omega))
  have h3 := psg_bd (k % 2 ^^^ k / 4 % 2) (h (26 + t) (by omega))
  unfold pgn; omega
theorem pS_bd {f : Nat → Int} (h : pbd f) : ∀ t : Nat, t ≤ 13 → ∀ w, -(30000 * (t : Int)) ≤ pS f t w ∧ pS f t w ≤ 30000 * (t : Int)
  | 0, _, w => by rw [pS]; omega
  | t + 1, ht, w => by
    have h1 := pS_bd h t (by omega) (w / 2)
    have h2 := pgn_bd h (t := t) (by omega) (w % 8)
    rw [pS]; omega
theorem pS_s (f : Nat → Int) (t w : Nat) : pS f (t + 1) w = pS f t (w / 2) + pgn f t (w % 8) := rfl
/-- the sum of a word -/
def pT (f : Nat → Int) (w : Nat) : Int := pS f 13 (4 * w)
theorem pT_11 (f : Nat → Int) (w : Nat) : pT f w = pS f 11 w + pgn f 11 (2 * (w % 4)) + pgn f 12 (4 * (w % 2)) := by
  unfold pT
  rw [pS_s, pS_s, show 4 * w / 2 / 2 = w by omega, show 4 * w / 2 % 8 = 2 * (w % 4) by omega, show 4 * w % 8 = 4 * (w % 2) by omega]
theorem pT_bd {f : Nat → Int} (h : pbd f) (w : Nat) : -390000 ≤ pT f w ∧ pT f w ≤ 390000 := by
  have := pS_bd h 13 (by decide) (4 * w)
  unfold pT; omega
theorem s_measure {I : zMem} {q : zPl} (hq : q ≠ (22, 0, 0)) {f : Nat → Int} (hf : ∀ c, c < 39 → I q c = f c) : ∃ J, fX2_measure q I = some J ∧ (∀ r, r ≠ (22, 0, 0) → J r = I r) ∧ ∀ t k, t < 13 → k < 8 → J (22, 0, 0) (8 * t + k) = pgn f t k := by
  unfold fX2_measure
  have hh := zlp_inv (body := fX2_measure_l2 q) (fun j s => s.1 = (j : Int) ∧ (∀ r, r ≠ (22, 0, 0) → s.2 r = I r) ∧ ∀ t k, t < j → k < 8 → s.2 (22, 0, 0) (8 * t + k) = pgn f t k) (fun r => (∀ r', r' ≠ (22, 0, 0) → r.2 r' = I r') ∧ ∀ t k, t < 13 → k < 8 → r.2 (22, 0, 0) (8 * t + k) = pgn f t k) 13 (N := 5000) (by decide) (s0 := (0, I)) ?_ ?_ ?_
  · obtain ⟨r, hr, h1, h2⟩ := hh
    rw [hr, zb_some]
    exact ⟨_, rfl, h1, h2⟩
  · exact ⟨rfl, fun _ _ => rfl, fun t k ht => absurd ht (Nat.not_lt_zero t)⟩
  · rintro j ⟨t1, K⟩ hj ⟨a1, a2, a3⟩
    dsimp only at a1 a2 a3
    subst a1
    unfold fX2_measure_l2
    dsimp only [zlet]
    have x1 : ix (13 + (j : Int)) = 13 + j := by rw [ix_of (by omega) (by omega)]; omega
    have x2 : ix (26 + (j : Int)) = 26 + j := by rw [ix_of (by omega) (by omega)]; omega
    have y0 : ix (8 * (j : Int)) = 8 * j := by rw [ix_of (by omega) (by omega)]; omega
    have y : ∀ k : Nat, k < 8 → ix (8 * (j : Int) + (k : Int)) = 8 * j + k := fun k hk => by rw [ix_of (by omega) (by omega)]; omega
    have y1 : ix (8 * (j : Int) + 1) = 8 * j + 1 := y 1 (by decide)
    have y2 : ix (8 * (j : Int) + 2) = 8 * j + 2 := y 2 (by decide)
    have y3 : ix (8 * (j : Int) + 3) = 8 * j + 3 := y 3 (by decide)
    have y4 : ix (8 * (j : Int) + 4) = 8 * j + 4 := y 4 (by decide)
    have y5 : ix (8 * (j : Int) + 5) = 8 * j + 5 := y 5 (by decide)
    have y6 : ix (8 * (j : Int) + 6) = 8 * j + 6 := y 6 (by decide)
    have y7 : ix (8 * (j : Int) + 7) = 8 * j + 7 := y 7 (by decide)
    rw [if_neg (by rw [w32_n (by omega)]; omega), if_pos (zin_of (by omega) (by omega) (by decide)), if_pos (zin_of (by omega) (by omega) (by decide)), if_pos (zin_of (by omega) (by omega) (by decide)), if_pos (zin_of (by omega) (by omega) (by decide)), if_pos (zin_of (by omega) (by omega) (by decide)), if_pos (zin_of (by omega) (by omega) (by decide)), if_pos (zin_of (by omega) (by omega) (by decide)), if_pos (zin_of (by omega) (by omega) (by decide)), if_pos (zin_of (by omega) (by omega) (by decide)), if_pos (zin_of (by omega) (by omega) (by decide)), if_pos (zin_of (by omega) (by omega) (by decide)), x1, x2, ix_nat (by omega), y0, y1, y2, y3, y4, y5, y6, y7, a2 q hq, hf j (by omega), hf (13 + j) (by omega), hf (26 + j) (by omega)]
    refine Or.inl ⟨_, rfl, by dsimp only; omega, fun r hr => ?_, fun t k ht hk => ?_⟩
    · dsimp only
      rw [zst_nq hr, zst_nq hr, zst_nq hr, zst_nq hr, zst_nq hr, zst_nq hr, zst_nq hr, zst_nq hr, a2 r hr]
    · dsimp only
      by_cases e : t = j
      · subst e
        have hk' : k = 0 ∨ k = 1 ∨ k = 2 ∨ k = 3 ∨ k = 4 ∨ k = 5 ∨ k = 6 ∨ k = 7 := by omega
        rcases hk' with rfl | rfl | rfl | rfl | rfl | rfl | rfl | rfl
        · rw [zst_nk (by omega), zst_nk (by omega), zst_nk (by omega), zst_nk (by omega), zst_nk (by omega), zst_nk (by omega), zst_nk (by omega), Nat.add_zero, zst_at]
          show _ = -f t + -f (13 + t) + -f (26 + t)
          omega
        · rw [zst_nk (by omega), zst_nk (by omega), zst_nk (by omega), zst_nk (by omega), zst_nk (by omega), zst_nk (by omega), zst_at]
          rfl
        · rw [zst_nk (by omega), zst_nk (by omega), zst_nk (by omega), zst_nk (by omega), zst_nk (by omega), zst_at]
          show _ = -f t + f (13 + t) + -f (26 + t)
          omega
        · rw [zst_nk (by omega), zst_nk (by omega), zst_nk (by omega), zst_nk (by omega), zst_at]
          show _ = f t + -f (13 + t) + f (26 + t)
          omega
        · rw [zst_nk (by omega), zst_nk (by omega), zst_nk (by omega), zst_at]
          rfl
        · rw [zst_nk (by omega), zst_nk (by omega), zst_at]
          show _ = f t + -f (13 + t) + -f (26 + t)
          omega
        · rw [zst_nk (by omega), zst_at]
          show _ = -f t + -f (13 + t) + f (26 + t)
          omega
        · rw [zst_at]
          show _ = f t + f (13 + t) + -f (26 + t)
          omega
      · rw [zst_nk (by omega), zst_nk (by omega), zst_nk (by omega), zst_nk (by omega), zst_nk (by omega), zst_nk (by omega), zst_nk (by omega), zst_nk (by omega)]
        exact a3 t k (by omega) hk
  · rintro ⟨t1, K⟩ ⟨a1, a2, a3⟩
    dsimp only at a1 a2 a3
    subst a1
    unfold fX2_measure_l2
    dsimp only
    rw [if_pos (by decide)]
    exact ⟨_, rfl, a2, a3⟩
