/-! THE SENDER: an idle process gets its block -/
theorem m_zero49 {o : Nat} {m : zMem} (ho : 329 ≤ o ∧ o ≤ 945) (a b : Int) : ∃ i' K, zlp (fX12_beginsSend_l95 a b (o : Int)) 5000 (0, m) = some (i', K) ∧ (∀ q, q ≠ (51, 0, 0) → K q = m q) ∧ (∀ k, k < o + 49 ∨ o + 88 ≤ k → K (51, 0, 0) k = m (51, 0, 0) k) ∧ ∀ k, k < 39 → K (51, 0, 0) (o + 49 + k) = 0 := by
  have hh := zlp_inv (body := fX12_beginsSend_l95 a b (o : Int)) (fun j st => st.1 = (j : Int) ∧ (∀ q, q ≠ (51, 0, 0) → st.2 q = m q) ∧ (∀ k, k < o + 49 ∨ o + 88 ≤ k → st.2 (51, 0, 0) k = m (51, 0, 0) k) ∧ ∀ k, k < j → st.2 (51, 0, 0) (o + 49 + k) = 0) (fun st => (∀ q, q ≠ (51, 0, 0) → st.2 q = m q) ∧ (∀ k, k < o + 49 ∨ o + 88 ≤ k → st.2 (51, 0, 0) k = m (51, 0, 0) k) ∧ ∀ k, k < 39 → st.2 (51, 0, 0) (o + 49 + k) = 0) 39 (N := 5000) (by decide) (s0 := (0, m)) ⟨rfl, fun _ _ => rfl, fun _ _ => rfl, fun k hk => absurd hk (Nat.not_lt_zero k)⟩ ?_ ?_
  · obtain ⟨⟨i', K⟩, hr, r1, r2, r3⟩ := hh
    exact ⟨i', K, hr, r1, r2, r3⟩
  · rintro j ⟨t1, K⟩ hj ⟨a1, a2, a4, a3⟩
    dsimp only at a1 a2 a3 a4
    subst a1
    have xs : ix ((o : Int) + 49 + (j : Int)) = o + 49 + j := by rw [ix_of (by omega) (by omega)]; omega
    unfold fX12_beginsSend_l95
    simp only [zlet_eq]
    rw [if_neg (by rw [w32_n (by omega)]; omega), if_pos (zin_of (by omega) (by omega) (by decide)), xs]
    refine Or.inl ⟨_, rfl, by dsimp only; omega, fun q hq => by dsimp only; rw [zst_nq hq, a2 q hq], fun k hk => by dsimp only; rw [zst_nk (by omega)]; exact a4 k hk, fun k hk => ?_⟩
    dsimp only
    by_cases c0 : k = j
    · subst c0; rw [zst_at]
    · rw [zst_nk (by omega)]; exact a3 k (by omega)
  · rintro ⟨t1, K⟩ ⟨a1, a2, a4, a3⟩
    dsimp only at a1 a2 a3 a4
    subst a1
    unfold fX12_beginsSend_l95
    dsimp only
    rw [if_pos (by decide)]
    exact ⟨_, rfl, a2, a4, a3⟩
theorem m_shA {n : Nat} {m : zMem} (hn : n ≤ 8) (e : m (51, 0, 0) 30 = n) (a : Int) : ∃ i' K, zlp (fX12_takesAgain_l21 a) 5000 (0, m) = some (i', K) ∧ (∀ q, q ≠ (51, 0, 0) → K q = m q) ∧ (∀ k, k < 31 ∨ 31 + n ≤ k → K (51, 0, 0) k = m (51, 0, 0) k) ∧ ∀ i, i < n → K (51, 0, 0) (31 + i) = m (51, 0, 0) (31 + i + 1) := by
  have hh := zlp_inv (body := fX12_takesAgain_l21 a) (fun j st => st.1 = (j : Int) ∧ (∀ q, q ≠ (51, 0, 0) → st.2 q = m q) ∧ (∀ k, k < 31 ∨ 31 + j ≤ k → st.2 (51, 0, 0) k = m (51, 0, 0) k) ∧ ∀ i, i < j → st.2 (51, 0, 0) (31 + i) = m (51, 0, 0) (31 + i + 1)) (fun st => (∀ q, q ≠ (51, 0, 0) → st.2 q = m q) ∧ (∀ k, k < 31 ∨ 31 + n ≤ k → st.2 (51, 0, 0) k = m (51, 0, 0) k) ∧ ∀ i, i < n → st.2 (51, 0, 0) (31 + i) = m (51, 0, 0) (31 + i + 1)) n (N := 5000) (by omega) (s0 := (0, m)) ⟨rfl, fun _ _ => rfl, fun _ _ => rfl, fun k hk => absurd hk (Nat.not_lt_zero k)⟩ ?_ ?_
  · obtain ⟨⟨i', K⟩, hr, r1, r2, r3⟩ := hh
    exact ⟨i', K, hr, r1, r2, r3⟩
  · rintro j ⟨t1, K⟩ hj ⟨a1, a2, a4, a3⟩
    dsimp only at a1 a2 a3 a4
    subst a1
    have x1 : ix (31 + (j : Int)) = 31 + j := by rw [ix_of (by omega) (by omega)]; omega
    have x2 : ix (31 + (j : Int) + 1) = 31 + j + 1 := by rw [ix_of (by omega) (by omega)]; omega
    have e30 : K (51, 0, 0) 30 = n := by rw [a4 30 (by omega), e]
    unfold fX12_takesAgain_l21
    simp only [zlet_eq, e30, x1, x2]
    rw [if_neg (by rw [w32_n (by omega), w32_n (by omega)]; omega), if_pos (zin_of (by omega) (by omega) (by decide)), if_pos (zin_of (by omega) (by omega) (by decide)), a4 (31 + j + 1) (by omega)]
    refine Or.inl ⟨_, rfl, by dsimp only; omega, fun q hq => by dsimp only; rw [zst_nq hq, a2 q hq], fun k hk => by dsimp only; rw [zst_nk (by omega)]; exact a4 k (by omega), fun k hk => ?_⟩
    dsimp only
    by_cases c0 : k = j
    · subst c0; rw [zst_at]
    · rw [zst_nk (by omega)]; exact a3 k (by omega)
  · rintro ⟨t1, K⟩ ⟨a1, a2, a4, a3⟩
    dsimp only at a1 a2 a3 a4
    subst a1
    unfold fX12_takesAgain_l21
    dsimp only
    rw [if_pos (by rw [a4 30 (by omega), e]; omega)]
    exact ⟨_, rfl, a2, a4, a3⟩
theorem m_shL {n : Nat} {m : zMem} (hn : n ≤ 19) (e : m (51, 0, 0) 7 = n) (a : Int) : ∃ i' K, zlp (fX12_takesNew_l60 a) 5000 (0, m) = some (i', K) ∧ (∀ q, q ≠ (51, 0, 0) → K q = m q) ∧ (∀ k, k < 8 ∨ 8 + n ≤ k → K (51, 0, 0) k = m (51, 0, 0) k) ∧ ∀ i, i < n → K (51, 0, 0) (8 + i) = m (51, 0, 0) (8 + i + 1) := by
  have hh := zlp_inv (body := fX12_takesNew_l60 a) (fun j st => st.1 = (j : Int) ∧ (∀ q, q ≠ (51, 0, 0) → st.2 q = m q) ∧ (∀ k, k < 8 ∨ 8 + j ≤ k → st.2 (51, 0, 0) k = m (51, 0, 0) k) ∧ ∀ i, i < j → st.2 (51, 0, 0) (8 + i) = m (51, 0, 0) (8 + i + 1)) (fun st => (∀ q, q ≠ (51, 0, 0) → st.2 q = m q) ∧ (∀ k, k < 8 ∨ 8 + n ≤ k → st.2 (51, 0, 0) k = m (51, 0, 0) k) ∧ ∀ i, i < n → st.2 (51, 0, 0) (8 + i) = m (51, 0, 0) (8 + i + 1)) n (N := 5000) (by omega) (s0 := (0, m)) ⟨rfl, fun _ _ => rfl, fun _ _ => rfl, fun k hk => absurd hk (Nat.not_lt_zero k)⟩ ?_ ?_
  · obtain ⟨⟨i', K⟩, hr, r1, r2, r3⟩ := hh
    exact ⟨i', K, hr, r1, r2, r3⟩
  · rintro j ⟨t1, K⟩ hj ⟨a1, a2, a4, a3⟩
    dsimp only at a1 a2 a3 a4
    subst a1
    have x1 : ix (8 + (j : Int)) = 8 + j := by rw [ix_of (by omega) (by omega)]; omega
    have x2 : ix (8 + (j : Int) + 1) = 8 + j + 1 := by rw [ix_of (by omega) (by omega)]; omega
    have e30 : K (51, 0, 0) 7 = n := by rw [a4 7 (by omega), e]
    unfold fX12_takesNew_l60
    simp only [zlet_eq, e30, x1, x2]
    rw [if_neg (by rw [w32_n (by omega), w32_n (by omega)]; omega), if_pos (zin_of (by omega) (by omega) (by decide)), if_pos (zin_of (by omega) (by omega) (by decide)), a4 (8 + j + 1) (by omega)]
    refine Or.inl ⟨_, rfl, by dsimp only; omega, fun q hq => by dsimp only; rw [zst_nq hq, a2 q hq], fun k hk => by dsimp only; rw [zst_nk (by omega)]; exact a4 k (by omega), fun k hk => ?_⟩
    dsimp only
    by_cases c0 : k = j
    · subst c0; rw [zst_at]
    · rw [zst_nk (by omega)]; exact a3 k (by omega)
  · rintro ⟨t1, K⟩ ⟨a1, a2, a4, a3⟩
    dsimp only at a1 a2 a3 a4
    subst a1
    unfold fX12_takesNew_l60
    dsimp only
    rw [if_pos (by rw [a4 7 (by omega), e]; omega)]
    exact ⟨_, rfl, a2, a4, a3⟩
theorem Rl.cg2 {L p o : Nat} {c c' : zMem} {g g' : Nat → Int} (h : Rl L p o c g) (h10 : c' (10, L, p) = c (10, L, p)) (h37 : c' (37, L, p) = c (37, L, p)) (g0 : g' 0 = g 0) (g3 : g' 3 = g 3) (hk : ¬ g o = -1 → pky g (g o) → pky g' (g o) ∧ g' (39 + (g o).toNat) = g (39 + (g o).toNat)) (ho : ∀ k, o ≤ k → k < o + 6 ∨ o + 49 ≤ k ∧ k < o + 88 → g' k = g k) : Rl L p o c' g' := by
  obtain ⟨a1, a2, a3, a4, a5, a6, a7, a8⟩ := h
  have e0 := ho o (by omega) (by omega)
  have e1 := ho (o + 1) (by omega) (by omega)
  have e2 := ho (o + 2) (by omega) (by omega)
  have e3 := ho (o + 3) (by omega) (by omega)
  have e4 := ho (o + 4) (by omega) (by omega)
  have e5 := ho (o + 5) (by omega) (by omega)
  refine ⟨by rw [h10, e0]; exact a1, by rw [h10, e2]; exact a2, by rw [h10, e3]; exact a3, by rw [h10, e4]; exact a4, by rw [h10, e5]; exact a5, by rw [e0, e3, e4]; exact a6, fun hn => ?_, by rw [g0, e0]; exact a8⟩
  rw [e0] at hn
  obtain ⟨b1, b2, b3, b4, b5⟩ := a7 hn
  obtain ⟨f1, f2⟩ := hk hn b1
  rw [e0, e1, e3, e4, g3, f2]
  refine ⟨f1, b2, b3, b4, fun k hk => ?_⟩
  rw [h37, ho (o + 49 + k) (by omega) (by omega)]; exact b5 k hk
theorem zmp_ap (I : zMem) (q : zPl) (n : Nat) (f : Nat → Int) (q' : zPl) (k : Nat) : zmp I q n f q' k = if q' = q ∧ k < n then f k else I q' k := rfl
theorem c_fillNew {L p n k : Nat} {c : zMem} (h6 : c (8, L, 0) 6 = 0) (hn : c (8, L, 0) 7 = n) (n8 : n < 8) (hk : c (8, L, 0) 5 = (k : Int) + 1) (k20 : k < 20) : ∃ C, fX7_fill L L p c = some C ∧ (∀ q, q ≠ (10, L, p) → q ≠ (37, L, p) → q ≠ (8, L, 0) → q ≠ (33, L, 0) → q ≠ (34, L, 0) → q ≠ (35, L, 0) → C q = c q) ∧ C (10, L, p) 0 = n ∧ C (10, L, p) 1 = 1 - c (10, L, p) 1 ∧ C (10, L, p) 2 = 0 ∧ (∀ j, 3 ≤ j → C (10, L, p) j = c (10, L, p) j) ∧ (∀ j, j < 39 → C (37, L, p) j = 0) ∧ (∀ j, C (34, L, 0) j = if j = n then c (33, L, 0) 0 else c (34, L, 0) j) ∧ (∀ j, C (35, L, 0) j = if j = n then 0 else c (35, L, 0) j) ∧ (∀ j, j < k → C (33, L, 0) j = c (33, L, 0) (j + 1)) ∧ C (8, L, 0) 5 = k ∧ C (8, L, 0) 7 = ((n : Int) + 1) % 8 ∧ ∀ j, j ≠ 5 → j ≠ 7 → C (8, L, 0) j = c (8, L, 0) j := by
  unfold fX7_fill
  simp only [zlet_eq]
  rw [s_fillI _ (by decide), zb_some]
  have q8 : ((8, L, 0) : zPl) ≠ (37, L, p) := by simp
  have q33 : ((33, L, 0) : zPl) ≠ (37, L, p) := by simp
  have xn : ix (n : Int) = n := ix_nat (by omega)
  have xk : ix (k : Int) = k := ix_nat (by omega)
  have ek : (k : Int) + 1 - 1 = (k : Int) := by omega
  have w6 : w32 0 ≤ 0 := by decide
  simp only [zst_ap, Prod.mk.injEq, and_false, false_and, and_true, true_and, and_self, if_true, if_false, Nat.reduceEqDiff, reduceCtorEq, zmp_ne q8, zmp_ne q33, h6, hn, xn, hk, ek, xk, zcp_nq q33.symm, if_pos w6]
  have q833 : ((8, L, 0) : zPl) ≠ (33, L, 0) := by simp
  have zk : zcpok 1 0 (k : Int) 20 20 := by
    have e1 : w32 (k : Int) = k := w32_n (by omega)
    have e2 : w32 1 = 1 := by decide
    have e3 : w32 0 = 0 := by decide
    unfold zcpok
    rw [e1, e2, e3]; omega
  rw [if_pos (zin_nat n8 (by decide)), if_pos (zin_nat n8 (by decide)), if_pos zk]
  refine ⟨_, rfl, fun q e1 e2 e3 e4 e5 e6 => ?_, by simp [zst_ap, zcp_ap, zmp_ap], by simp [zst_ap, zcp_ap, zmp_ap], by simp [zst_ap, zcp_ap, zmp_ap], fun j hj => ?_, fun j hj => by simp [zst_ap, zcp_ap, zmp_ap, hj], fun j => by simp [zst_ap, zcp_ap, zmp_ap], fun j => by simp [zst_ap, zcp_ap, zmp_ap], fun j hj => by simp [zst_ap, zcp_ap, zmp_ap, hj, Nat.add_comm], by simp [zst_ap, zcp_ap, zmp_ap], by simp [zst_ap, zcp_ap, zmp_ap, hn], fun j e1 e2 => by simp [zst_ap, zcp_ap, zmp_ap, e1, e2]⟩
  · rw [zst_nq e3, zcp_nq e4, zst_nq e3, zst_nq e6, zst_nq e5, zst_nq e1, zmp_ne e2, zst_nq e1, zst_nq e1]
  · have j0 : ¬ j = 0 := by omega
    have j1 : ¬ j = 1 := by omega
    have j2 : ¬ j = 2 := by omega
    simp [zst_ap, zcp_ap, zmp_ap, j0, j1, j2]
theorem c_fillAgain {L p a : Nat} {c : zMem} (h6 : c (8, L, 0) 6 = (a : Int) + 1) (a8 : a < 8) : ∃ C, fX7_fill L L p c = some C ∧ (∀ q, q ≠ (10, L, p) → q ≠ (37, L, p) → q ≠ (8, L, 0) → q ≠ (36, L, 0) → C q = c q) ∧ C (10, L, p) 0 = c (36, L, 0) 0 ∧ C (10, L, p) 1 = 1 - c (10, L, p) 1 ∧ C (10, L, p) 2 = 0 ∧ (∀ j, 3 ≤ j → C (10, L, p) j = c (10, L, p) j) ∧ (∀ j, j < 39 → C (37, L, p) j = 0) ∧ (∀ j, j < a → C (36, L, 0) j = c (36, L, 0) (j + 1)) ∧ C (8, L, 0) 6 = a ∧ ∀ j, j ≠ 6 → C (8, L, 0) j = c (8, L, 0) j := by
  unfold fX7_fill
  simp only [zlet_eq]
  rw [s_fillI _ (by decide), zb_some]
  have q8 : ((8, L, 0) : zPl) ≠ (37, L, p) := by simp
  have q36 : ((36, L, 0) : zPl) ≠ (37, L, p) := by simp
  have xk : ix (a : Int) = a := ix_nat (by omega)
  have ek : (a : Int) + 1 - 1 = (a : Int) := by omega
  have w6 : ¬ w32 ((a : Int) + 1) ≤ 0 := by rw [w32_id (by omega) (by omega)]; omega
  simp only [zst_ap, Prod.mk.injEq, and_false, false_and, and_true, true_and, and_self, if_true, if_false, Nat.reduceEqDiff, reduceCtorEq, zmp_ne q8, zmp_ne q36, h6, ek, xk, if_neg w6]
  have zk : zcpok 1 0 (a : Int) 8 8 := by
    have e1 : w32 (a : Int) = a := w32_n (by omega)
    have e2 : w32 1 = 1 := by decide
    have e3 : w32 0 = 0 := by decide
    unfold zcpok
    rw [e1, e2, e3]; omega
  rw [if_pos zk]
  refine ⟨_, rfl, fun q e1 e2 e3 e4 => ?_, by simp [zst_ap, zcp_ap, zmp_ap], by simp [zst_ap, zcp_ap, zmp_ap], by simp [zst_ap, zcp_ap, zmp_ap], fun j hj => ?_, fun j hj => by simp [zst_ap, zcp_ap, zmp_ap, hj], fun j hj => by simp [zst_ap, zcp_ap, zmp_ap, hj, Nat.add_comm], by simp [zst_ap, zcp_ap, zmp_ap], fun j e1 => by simp [zst_ap, zcp_ap, zmp_ap, e1]⟩
  · rw [zcp_nq e4, zst_nq e3, zst_nq e1, zmp_ne e2, zst_nq e1, zst_nq e1]
  · have j0 : ¬ j = 0 := by omega
    have j1 : ¬ j = 1 := by omega
    have j2 : ¬ j = 2 := by omega
    simp [zst_ap, zcp_ap, zmp_ap, j0, j1, j2]
