/-! ROUNDS: draws -/
def pxs (x : Int) : Nat → Int
  | 0 => x
  | n + 1 => 1103515245 * pxs x n + 12345
def pdr (x : Int) : Int := iushr (1103515245 * x + 12345) 16
theorem pdr_rng (x : Int) : 0 ≤ pdr x ∧ pdr x < 65536 := by
  unfold pdr iushr
  rw [show ((16 : Int) % 32).toNat = 16 from rfl]
  have h1 : (0 : Int) ≤ (1103515245 * x + 12345) % 4294967296 := Int.emod_nonneg _ (by decide)
  have h2 : (1103515245 * x + 12345) % 4294967296 < 4294967296 := Int.emod_lt_of_pos _ (by decide)
  generalize (1103515245 * x + 12345) % 4294967296 = y at *
  show 0 ≤ y / 65536 ∧ y / 65536 < 65536
  omega
theorem c_draw (c : zMem) : fX0_draw c = some (pdr (c (5, 0, 0) 5), zst c (5, 0, 0) 5 (1103515245 * c (5, 0, 0) 5 + 12345)) := by
  unfold fX0_draw pdr
  simp only [zlet_eq, zst_at]
theorem m_draw {m : zMem} {b : Int} (hb : 1 ≤ b ∧ b ≤ 300) : fX12_draw b m = some (pdr (m (50, 0, 0) 14) % b, zst m (50, 0, 0) 14 (1103515245 * m (50, 0, 0) 14 + 12345)) := by
  have hr := pdr_rng (m (50, 0, 0) 14)
  unfold pdr at hr
  unfold fX12_draw pdr
  simp only [zlet_eq, zst_at]
  rw [if_pos (by rw [w32_id (by omega) (by omega)]; omega), irem_of hr.1 (by omega) (by omega) (by omega)]
/-- the j-th noise -/
def pnz (x n : Int) (j : Nat) : Int := pdr (pxs x j) % (2 * n + 1) - n
theorem pnz_rng {n : Int} (x : Int) (hn : 0 ≤ n) (j : Nat) : -n ≤ pnz x n j ∧ pnz x n j ≤ n := by
  unfold pnz
  have h1 := Int.emod_nonneg (pdr (pxs x j)) (show 2 * n + 1 ≠ 0 by omega)
  have h2 := Int.emod_lt_of_pos (pdr (pxs x j)) (show 0 < 2 * n + 1 by omega)
  omega
theorem c_noise {L len : Nat} {n x : Int} {c : zMem} (hlen : len ≤ 60) (hn : 0 ≤ n ∧ n ≤ 127) (hx : c (5, 0, 0) 5 = x) (a b d : Int) : ∃ i' K, zlp (fX0_drawnRound_l100 L a (len : Int) n b d) 5000 (0, c) = some (i', K) ∧ (∀ q, q ≠ (5, 0, 0) → q ≠ (28, 0, 0) → K q = c q) ∧ (∀ k, k ≠ 5 → K (5, 0, 0) k = c (5, 0, 0) k) ∧ K (5, 0, 0) 5 = pxs x len ∧ ∀ i, i < len → K (28, 0, 0) i = pnz x n i := by
  have hh := zlp_inv (body := fX0_drawnRound_l100 L a (len : Int) n b d) (fun j st => st.1 = (j : Int) ∧ (∀ q, q ≠ (5, 0, 0) → q ≠ (28, 0, 0) → st.2 q = c q) ∧ (∀ k, k ≠ 5 → st.2 (5, 0, 0) k = c (5, 0, 0) k) ∧ st.2 (5, 0, 0) 5 = pxs x j ∧ ∀ i, i < j → st.2 (28, 0, 0) i = pnz x n i) (fun st => (∀ q, q ≠ (5, 0, 0) → q ≠ (28, 0, 0) → st.2 q = c q) ∧ (∀ k, k ≠ 5 → st.2 (5, 0, 0) k = c (5, 0, 0) k) ∧ st.2 (5, 0, 0) 5 = pxs x len ∧ ∀ i, i < len → st.2 (28, 0, 0) i = pnz x n i) len (N := 5000) (by omega) (s0 := (0, c)) ⟨rfl, fun _ _ _ => rfl, fun _ _ => rfl, hx, fun k hk => absurd hk (Nat.not_lt_zero k)⟩ ?_ ?_
  · obtain ⟨⟨i', K⟩, hr, r1⟩ := hh
    exact ⟨i', K, hr, r1⟩
  · rintro j ⟨t1, K⟩ hj ⟨a1, a2, a3, a4, a5⟩
    dsimp only at a1 a2 a3 a4 a5
    subst a1
    have xj : ix (j : Int) = j := ix_nat (by omega)
    have hr := pdr_rng (pxs x j)
    unfold fX0_drawnRound_l100
    dsimp only
    rw [if_neg (by rw [w32_n (by omega), w32_n (by omega)]; omega), c_draw, zb_some]
    simp only [zlet_eq, a4, xj]
    rw [if_pos (by rw [w32_id (by omega) (by omega)]; omega), if_pos (zin_nat (show j < 60 by omega) (by decide)), irem_of hr.1 (by omega) (by omega) (by omega)]
    refine Or.inl ⟨_, rfl, by dsimp only; omega, fun q h1 h2 => by dsimp only; rw [zst_nq h2, zst_nq h1, a2 q h1 h2], fun k hk => by dsimp only; rw [zst_nq (by simp), zst_nk hk, a3 k hk], by dsimp only; rw [zst_nq (by simp), zst_at]; rfl, fun i hi => ?_⟩
    dsimp only
    by_cases c0 : i = j
    · subst c0; rw [zst_at]; rfl
    · rw [zst_nk c0, zst_nq (by simp)]; exact a5 i (by omega)
  · rintro ⟨t1, K⟩ ⟨a1, a2, a3, a4, a5⟩
    dsimp only at a1 a2 a3 a4 a5
    subst a1
    unfold fX0_drawnRound_l100
    dsimp only
    rw [if_pos (by omega)]
    exact ⟨_, rfl, a2, a3, a4, a5⟩
theorem m_noise {len : Nat} {n x : Int} {m : zMem} (hlen : len ≤ 60) (hn : 0 ≤ n ∧ n ≤ 127) (hx : m (50, 0, 0) 14 = x) (a d : Int) : ∃ i' K, zlp (fX12_goesRound_l83 a (len : Int) n d) 5000 (0, m) = some (i', K) ∧ (∀ q, q ≠ (50, 0, 0) → q ≠ (63, 0, 0) → K q = m q) ∧ (∀ k, k ≠ 14 → K (50, 0, 0) k = m (50, 0, 0) k) ∧ K (50, 0, 0) 14 = pxs x len ∧ ∀ i, i < len → K (63, 0, 0) i = m (63, 0, 0) i + pnz x n i := by
  have hh := zlp_inv (body := fX12_goesRound_l83 a (len : Int) n d) (fun j st => st.1 = (j : Int) ∧ (∀ q, q ≠ (50, 0, 0) → q ≠ (63, 0, 0) → st.2 q = m q) ∧ (∀ k, k ≠ 14 → st.2 (50, 0, 0) k = m (50, 0, 0) k) ∧ st.2 (50, 0, 0) 14 = pxs x j ∧ (∀ i, i < j → st.2 (63, 0, 0) i = m (63, 0, 0) i + pnz x n i) ∧ ∀ i, j ≤ i → st.2 (63, 0, 0) i = m (63, 0, 0) i) (fun st => (∀ q, q ≠ (50, 0, 0) → q ≠ (63, 0, 0) → st.2 q = m q) ∧ (∀ k, k ≠ 14 → st.2 (50, 0, 0) k = m (50, 0, 0) k) ∧ st.2 (50, 0, 0) 14 = pxs x len ∧ ∀ i, i < len → st.2 (63, 0, 0) i = m (63, 0, 0) i + pnz x n i) len (N := 5000) (by omega) (s0 := (0, m)) ⟨rfl, fun _ _ _ => rfl, fun _ _ => rfl, hx, fun k hk => absurd hk (Nat.not_lt_zero k), fun _ _ => rfl⟩ ?_ ?_
  · obtain ⟨⟨i', K⟩, hr, r1⟩ := hh
    exact ⟨i', K, hr, r1⟩
  · rintro j ⟨t1, K⟩ hj ⟨a1, a2, a3, a4, a5, a6⟩
    dsimp only at a1 a2 a3 a4 a5 a6
    subst a1
    have xj : ix (j : Int) = j := ix_nat (by omega)
    have e63 := a6 j (by omega)
    unfold fX12_goesRound_l83
    dsimp only
    rw [if_neg (by rw [w32_n (by omega), w32_n (by omega)]; omega), if_pos (zin_nat (show j < 60 by omega) (by decide)), m_draw (by omega), zb_some]
    simp only [zlet_eq, a4, xj, e63]
    refine Or.inl ⟨_, rfl, by dsimp only; omega, fun q h1 h2 => by dsimp only; rw [zst_nq h2, zst_nq h1, a2 q h1 h2], fun k hk => by dsimp only; rw [zst_nq (by simp), zst_nk hk, a3 k hk], by dsimp only; rw [zst_nq (by simp), zst_at]; rfl, fun i hi => ?_, fun i hi => ?_⟩
    · dsimp only
      by_cases c0 : i = j
      · subst c0; rw [zst_at]; rfl
      · rw [zst_nk c0, zst_nq (by simp)]; exact a5 i (by omega)
    · dsimp only
      rw [zst_nk (by omega), zst_nq (by simp)]; exact a6 i (by omega)
  · rintro ⟨t1, K⟩ ⟨a1, a2, a3, a4, a5, a6⟩
    dsimp only at a1 a2 a3 a4 a5 a6
    subst a1
    unfold fX12_goesRound_l83
    dsimp only
    rw [if_pos (by omega)]
    exact ⟨_, rfl, a2, a3, a4, a5⟩
