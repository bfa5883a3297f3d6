/-! COPIES of a link -/
theorem c_slotCopy {L L2 p : Nat} {c : zMem} (hL : L2 ≠ L) (h3 : zbo (c (10, L2, p) 3)) (h4 : zbo (c (10, L2, p) 4)) : ∃ K, fX8_copyFrom L p L2 p c = some K ∧ (∀ q, q ≠ (10, L, p) → q ≠ (37, L, p) → K q = c q) ∧ (∀ k, k < 5 → K (10, L, p) k = c (10, L2, p) k) ∧ ∀ k, k < 39 → K (37, L, p) k = c (37, L2, p) k := by
  have hne : ((10, L2, p) : zPl) ≠ (10, L, p) := by simp [hL]
  have hne2 : ((37, L2, p) : zPl) ≠ (10, L, p) := by simp
  unfold fX8_copyFrom
  simp only [zlet_eq, zst_nq hne]
  rw [if_pos h3, if_pos h4]
  refine ⟨_, rfl, fun q a1 a2 => by rw [zcp_nq a2, zst_nq a1, zst_nq a1, zst_nq a1, zst_nq a1, zst_nq a1], fun k hk => ?_, fun k hk => ?_⟩
  · rw [zcp_nq (by simp)]
    rcases (show k = 0 ∨ k = 1 ∨ k = 2 ∨ k = 3 ∨ k = 4 by omega) with rfl | rfl | rfl | rfl | rfl <;> simp [zst_ap]
  · rw [zcp_ap, if_pos ⟨rfl, by omega, by omega⟩, zst_nq hne2, zst_nq hne2, zst_nq hne2, zst_nq hne2, zst_nq hne2]
    congr 1; omega
theorem c_earCopy {L L2 p : Nat} {c : zMem} (hL : L2 ≠ L) (h3 : zbo (c (11, L2, p) 2)) : ∃ K, fX3_copyFrom L p L2 p c = some K ∧ (∀ q, q ≠ (11, L, p) → q ≠ (41, L, p) → K q = c q) ∧ (∀ k, k < 3 → K (11, L, p) k = c (11, L2, p) k) ∧ ∀ k, k < 39 → K (41, L, p) k = c (41, L2, p) k := by
  have hne : ((11, L2, p) : zPl) ≠ (11, L, p) := by simp [hL]
  have hne2 : ((41, L2, p) : zPl) ≠ (11, L, p) := by simp
  unfold fX3_copyFrom
  simp only [zlet_eq, zst_nq hne]
  rw [if_pos h3]
  refine ⟨_, rfl, fun q a1 a2 => by rw [zcp_nq a2, zst_nq a1, zst_nq a1, zst_nq a1], fun k hk => ?_, fun k hk => ?_⟩
  · rw [zcp_nq (by simp)]
    rcases (show k = 0 ∨ k = 1 ∨ k = 2 by omega) with rfl | rfl | rfl <;> simp [zst_ap]
  · rw [zcp_ap, if_pos ⟨rfl, by omega, by omega⟩, zst_nq hne2, zst_nq hne2, zst_nq hne2]
    congr 1; omega
theorem c_slotsCopy {L L2 : Nat} {c : zMem} (hL : L2 ≠ L) (h3 : ∀ p, p < 8 → zbo (c (10, L2, p) 3) ∧ zbo (c (10, L2, p) 4)) : ∃ i' K, zlp (fX7_copyFrom_l2 L L2) 5000 (0, c) = some (i', K) ∧ (∀ q, (∀ p, q ≠ (10, L, p) ∧ q ≠ (37, L, p)) → K q = c q) ∧ ∀ p, p < 8 → (∀ k, k < 5 → K (10, L, p) k = c (10, L2, p) k) ∧ ∀ k, k < 39 → K (37, L, p) k = c (37, L2, p) k := by
  have hh := zlp_inv (body := fX7_copyFrom_l2 L L2) (fun j st => st.1 = (j : Int) ∧ (∀ q, (∀ p, q ≠ (10, L, p) ∧ q ≠ (37, L, p)) → st.2 q = c q) ∧ ∀ p, p < j → (∀ k, k < 5 → st.2 (10, L, p) k = c (10, L2, p) k) ∧ ∀ k, k < 39 → st.2 (37, L, p) k = c (37, L2, p) k) (fun st => (∀ q, (∀ p, q ≠ (10, L, p) ∧ q ≠ (37, L, p)) → st.2 q = c q) ∧ ∀ p, p < 8 → (∀ k, k < 5 → st.2 (10, L, p) k = c (10, L2, p) k) ∧ ∀ k, k < 39 → st.2 (37, L, p) k = c (37, L2, p) k) 8 (N := 5000) (by decide) (s0 := (0, c)) ⟨rfl, fun _ _ => rfl, fun k hk => absurd hk (Nat.not_lt_zero k)⟩ ?_ ?_
  · obtain ⟨⟨i', K⟩, hr, r1⟩ := hh
    exact ⟨i', K, hr, r1⟩
  · rintro j ⟨t1, K⟩ hj ⟨a1, a2, a3⟩
    dsimp only at a1 a2 a3
    subst a1
    have xj : ix (j : Int) = j := ix_nat (by omega)
    have e10 : K (10, L2, j) = c (10, L2, j) := a2 _ (fun p => by simp [hL])
    have e37 : K (37, L2, j) = c (37, L2, j) := a2 _ (fun p => by simp [hL])
    obtain ⟨K', k1, k2, k3, k4⟩ := c_slotCopy (L := L) (L2 := L2) (p := j) (c := K) hL (by rw [e10]; exact (h3 j hj).1) (by rw [e10]; exact (h3 j hj).2)
    unfold fX7_copyFrom_l2
    dsimp only
    rw [if_neg (by rw [w32_n (by omega)]; omega), if_pos (zin_nat hj (by decide)), xj, k1, zb_some]
    refine Or.inl ⟨_, rfl, by dsimp only; omega, fun q hq => by dsimp only; rw [k2 q (hq j).1 (hq j).2, a2 q hq], fun p hp => ?_⟩
    dsimp only
    by_cases e : p = j
    · subst e
      exact ⟨fun k hk => by rw [k3 k hk, e10], fun k hk => by rw [k4 k hk, e37]⟩
    · rw [k2 (10, L, p) (by simp [e]) (by simp), k2 (37, L, p) (by simp) (by simp [e])]
      exact a3 p (by omega)
  · rintro ⟨t1, K⟩ ⟨a1, a2, a3⟩
    dsimp only at a1 a2 a3
    subst a1
    unfold fX7_copyFrom_l2
    dsimp only
    rw [if_pos (by decide)]
    exact ⟨_, rfl, a2, a3⟩
theorem c_earsCopy {L L2 : Nat} {c : zMem} (hL : L2 ≠ L) (h3 : ∀ p, p < 8 → zbo (c (11, L2, p) 2)) : ∃ i' K, zlp (fX5_copyFrom_l2 L L2) 5000 (0, c) = some (i', K) ∧ (∀ q, (∀ p, q ≠ (11, L, p) ∧ q ≠ (41, L, p)) → K q = c q) ∧ ∀ p, p < 8 → (∀ k, k < 3 → K (11, L, p) k = c (11, L2, p) k) ∧ ∀ k, k < 39 → K (41, L, p) k = c (41, L2, p) k := by
  have hh := zlp_inv (body := fX5_copyFrom_l2 L L2) (fun j st => st.1 = (j : Int) ∧ (∀ q, (∀ p, q ≠ (11, L, p) ∧ q ≠ (41, L, p)) → st.2 q = c q) ∧ ∀ p, p < j → (∀ k, k < 3 → st.2 (11, L, p) k = c (11, L2, p) k) ∧ ∀ k, k < 39 → st.2 (41, L, p) k = c (41, L2, p) k) (fun st => (∀ q, (∀ p, q ≠ (11, L, p) ∧ q ≠ (41, L, p)) → st.2 q = c q) ∧ ∀ p, p < 8 → (∀ k, k < 3 → st.2 (11, L, p) k = c (11, L2, p) k) ∧ ∀ k, k < 39 → st.2 (41, L, p) k = c (41, L2, p) k) 8 (N := 5000) (by decide) (s0 := (0, c)) ⟨rfl, fun _ _ => rfl, fun k hk => absurd hk (Nat.not_lt_zero k)⟩ ?_ ?_
  · obtain ⟨⟨i', K⟩, hr, r1⟩ := hh
    exact ⟨i', K, hr, r1⟩
  · rintro j ⟨t1, K⟩ hj ⟨a1, a2, a3⟩
    dsimp only at a1 a2 a3
    subst a1
    have xj : ix (j : Int) = j := ix_nat (by omega)
    have e10 : K (11, L2, j) = c (11, L2, j) := a2 _ (fun p => by simp [hL])
    have e37 : K (41, L2, j) = c (41, L2, j) := a2 _ (fun p => by simp [hL])
    obtain ⟨K', k1, k2, k3, k4⟩ := c_earCopy (L := L) (L2 := L2) (p := j) (c := K) hL (by rw [e10]; exact h3 j hj)
    unfold fX5_copyFrom_l2
    dsimp only
    rw [if_neg (by rw [w32_n (by omega)]; omega), if_pos (zin_nat hj (by decide)), xj, k1, zb_some]
    refine Or.inl ⟨_, rfl, by dsimp only; omega, fun q hq => by dsimp only; rw [k2 q (hq j).1 (hq j).2, a2 q hq], fun p hp => ?_⟩
    dsimp only
    by_cases e : p = j
    · subst e
      exact ⟨fun k hk => by rw [k3 k hk, e10], fun k hk => by rw [k4 k hk, e37]⟩
    · rw [k2 (11, L, p) (by simp [e]) (by simp), k2 (41, L, p) (by simp) (by simp [e])]
      exact a3 p (by omega)
  · rintro ⟨t1, K⟩ ⟨a1, a2, a3⟩
    dsimp only at a1 a2 a3
    subst a1
    unfold fX5_copyFrom_l2
    dsimp only
    rw [if_pos (by decide)]
    exact ⟨_, rfl, a2, a3⟩
theorem c_sndCopy {L L2 : Nat} {c : zMem} (hL : L2 ≠ L) (h3 : ∀ p, p < 8 → zbo (c (10, L2, p) 3) ∧ zbo (c (10, L2, p) 4)) : ∃ K, fX7_copyFrom L L2 c = some K ∧ (∀ q, (∀ p, q ≠ (10, L, p) ∧ q ≠ (37, L, p)) → q ≠ (8, L, 0) → q ≠ (33, L, 0) → q ≠ (34, L, 0) → q ≠ (35, L, 0) → q ≠ (36, L, 0) → K q = c q) ∧ (∀ p, p < 8 → (∀ k, k < 5 → K (10, L, p) k = c (10, L2, p) k) ∧ ∀ k, k < 39 → K (37, L, p) k = c (37, L2, p) k) ∧ (∀ k, 5 ≤ k → k < 11 → K (8, L, 0) k = c (8, L2, 0) k) ∧ (∀ k, k < 20 → K (33, L, 0) k = c (33, L2, 0) k) ∧ (∀ k, k < 8 → K (34, L, 0) k = c (34, L2, 0) k) ∧ (∀ k, k < 8 → K (35, L, 0) k = c (35, L2, 0) k) ∧ ∀ k, k < 8 → K (36, L, 0) k = c (36, L2, 0) k := by
  obtain ⟨i', J, j1, j2, j3⟩ := c_slotsCopy (L := L) (L2 := L2) (c := c) hL h3
  have e : ∀ r, r ≠ 10 → r ≠ 37 → ∀ k, J (r, L2, 0) k = c (r, L2, 0) k := fun r a1 a2 k => by rw [j2 _ (fun p => by simp [a1, a2])]
  have hne : ((8, L2, 0) : zPl) ≠ (8, L, 0) := by simp [hL]
  unfold fX7_copyFrom
  rw [j1, zb_some]
  simp only [zlet_eq, zst_nq hne]
  refine ⟨_, rfl, fun q a1 a2 a3 a4 a5 a6 => ?_, fun p hp => ?_, fun k k1 k2 => ?_, fun k hk => ?_, fun k hk => ?_, fun k hk => ?_, fun k hk => ?_⟩
  · rw [zst_nq a2, zst_nq a2, zst_nq a2, zst_nq a2, zst_nq a2, zst_nq a2, zcp_nq a6, zcp_nq a5, zcp_nq a4, zcp_nq a3, j2 q a1]
  · obtain ⟨f1, f2⟩ := j3 p hp
    exact ⟨fun k hk => by simp [zst_ap, zcp_ap, f1 k hk], fun k hk => by simp [zst_ap, zcp_ap, f2 k hk]⟩
  · rcases (show k = 5 ∨ k = 6 ∨ k = 7 ∨ k = 8 ∨ k = 9 ∨ k = 10 by omega) with rfl | rfl | rfl | rfl | rfl | rfl <;> simp [zst_ap, zcp_ap, e 8, hL]
  · simp [zst_ap, zcp_ap, e 33, hL, hk]
  · simp [zst_ap, zcp_ap, e 34, hL, hk]
  · simp [zst_ap, zcp_ap, e 35, hL, hk]
  · simp [zst_ap, zcp_ap, e 36, hL, hk]
theorem c_rcvCopy {L L2 : Nat} {c : zMem} (hL : L2 ≠ L) (h3 : ∀ p, p < 8 → zbo (c (11, L2, p) 2)) : ∃ K, fX5_copyFrom L L2 c = some K ∧ (∀ q, (∀ p, q ≠ (11, L, p) ∧ q ≠ (41, L, p)) → q ≠ (9, L, 0) → q ≠ (39, L, 0) → q ≠ (40, L, 0) → K q = c q) ∧ (∀ p, p < 8 → (∀ k, k < 3 → K (11, L, p) k = c (11, L2, p) k) ∧ ∀ k, k < 39 → K (41, L, p) k = c (41, L2, p) k) ∧ (∀ k, 3 ≤ k → k < 11 → K (9, L, 0) k = c (9, L2, 0) k) ∧ (∀ k, k < 8 → K (39, L, 0) k = c (39, L2, 0) k) ∧ ∀ k, k < 256 → K (40, L, 0) k = c (40, L2, 0) k := by
  obtain ⟨i', J, j1, j2, j3⟩ := c_earsCopy (L := L) (L2 := L2) (c := c) hL h3
  have e : ∀ r, r ≠ 11 → r ≠ 41 → ∀ k, J (r, L2, 0) k = c (r, L2, 0) k := fun r a1 a2 k => by rw [j2 _ (fun p => by simp [a1, a2])]
  have hne : ((9, L2, 0) : zPl) ≠ (9, L, 0) := by simp [hL]
  unfold fX5_copyFrom
  rw [j1, zb_some]
  simp only [zlet_eq, zst_nq hne]
  refine ⟨_, rfl, fun q a1 a2 a3 a4 => ?_, fun p hp => ?_, fun k k1 k2 => ?_, fun k hk => ?_, fun k hk => ?_⟩
  · rw [zst_nq a2, zst_nq a2, zst_nq a2, zst_nq a2, zst_nq a2, zst_nq a2, zst_nq a2, zst_nq a2, zcp_nq a4, zcp_nq a3, j2 q a1]
  · obtain ⟨f1, f2⟩ := j3 p hp
    exact ⟨fun k hk => by simp [zst_ap, zcp_ap, f1 k hk], fun k hk => by simp [zst_ap, zcp_ap, f2 k hk]⟩
  · rcases (show k = 3 ∨ k = 4 ∨ k = 5 ∨ k = 6 ∨ k = 7 ∨ k = 8 ∨ k = 9 ∨ k = 10 by omega) with rfl | rfl | rfl | rfl | rfl | rfl | rfl | rfl <;> simp [zst_ap, zcp_ap, e 9, hL]
  · simp [zst_ap, zcp_ap, e 39, hL, hk]
  · simp [zst_ap, zcp_ap, e 40, hL, hk]
theorem r_copy {L L2 : Nat} {B : Int} {c : zMem} {g : Nat → Int} (hL : L2 ≠ L) (h : RK L2 B c g) : ∃ C, fX4_copyFrom L L2 c = some C ∧ RK L B C g ∧ (∀ q, ¬ lkP L q → C q = c q) ∧ ∀ r p, C (r, L2, p) = c (r, L2, p) := by
  obtain ⟨h1, h2, h3, h4, h5, h6⟩ := h
  have hz3 : ∀ p, p < 8 → zbo (c (10, L2, p) 3) ∧ zbo (c (10, L2, p) 4) := fun p hp => by
    obtain ⟨-, -, -, ⟨a1, a2, a3⟩, ⟨b1, b2, b3⟩, -⟩ := h5 p hp
    rw [a1, b1]
    exact ⟨by unfold zbo; omega, by unfold zbo; omega⟩
  have hz2 : ∀ p, p < 8 → zbo (c (11, L2, p) 2) := fun p hp => by
    obtain ⟨-, -, ⟨a1, a2, a3⟩, -⟩ := h6 p hp
    rw [a1]; unfold zbo; omega
  have hne : ((7, L2, 0) : zPl) ≠ (7, L, 0) := by simp [hL]
  have e7 : ∀ q, q ≠ (7, L, 0) → zst (zst (zst (zst (zst (zst (zst c (7, L, 0) 0 (c (7, L2, 0) 0)) (7, L, 0) 1 (c (7, L2, 0) 1)) (7, L, 0) 2 (c (7, L2, 0) 2)) (7, L, 0) 3 (c (7, L2, 0) 3)) (7, L, 0) 4 (c (7, L2, 0) 4)) (7, L, 0) 5 (c (7, L2, 0) 5)) (7, L, 0) 6 (c (7, L2, 0) 6) q = c q := fun q hq => by rw [zst_nq hq, zst_nq hq, zst_nq hq, zst_nq hq, zst_nq hq, zst_nq hq, zst_nq hq]
  have e7k : ∀ k, k < 7 → zst (zst (zst (zst (zst (zst (zst c (7, L, 0) 0 (c (7, L2, 0) 0)) (7, L, 0) 1 (c (7, L2, 0) 1)) (7, L, 0) 2 (c (7, L2, 0) 2)) (7, L, 0) 3 (c (7, L2, 0) 3)) (7, L, 0) 4 (c (7, L2, 0) 4)) (7, L, 0) 5 (c (7, L2, 0) 5)) (7, L, 0) 6 (c (7, L2, 0) 6) (7, L, 0) k = c (7, L2, 0) k := fun k hk => by
    rcases (show k = 0 ∨ k = 1 ∨ k = 2 ∨ k = 3 ∨ k = 4 ∨ k = 5 ∨ k = 6 by omega) with rfl | rfl | rfl | rfl | rfl | rfl | rfl <;> simp [zst_ap]
  generalize hc0 : zst (zst (zst (zst (zst (zst (zst c (7, L, 0) 0 (c (7, L2, 0) 0)) (7, L, 0) 1 (c (7, L2, 0) 1)) (7, L, 0) 2 (c (7, L2, 0) 2)) (7, L, 0) 3 (c (7, L2, 0) 3)) (7, L, 0) 4 (c (7, L2, 0) 4)) (7, L, 0) 5 (c (7, L2, 0) 5)) (7, L, 0) 6 (c (7, L2, 0) 6) = c0 at e7 e7k
  have e7' : ∀ r p, r ≠ 7 → c0 (r, L2, p) = c (r, L2, p) := fun r p a => e7 _ (by simp [a])
  obtain ⟨K, k1, k2, k3, k4, k5, k6, k7, k8⟩ := c_sndCopy (L := L) (L2 := L2) (c := c0) hL (fun p hp => by rw [e7' 10 p (by decide)]; exact hz3 p hp)
  have eK : ∀ r p, K (r, L2, p) = c0 (r, L2, p) := fun r p => k2 _ (fun p' => by simp [hL]) (by simp [hL]) (by simp [hL]) (by simp [hL]) (by simp [hL]) (by simp [hL])
  obtain ⟨C, l1, l2, l3, l4, l5, l6⟩ := c_rcvCopy (L := L) (L2 := L2) (c := K) hL (fun p hp => by rw [eK, e7' 11 p (by decide)]; exact hz2 p hp)
  have r0 : ∀ r, r ≠ 9 → r ≠ 39 → r ≠ 40 → r ≠ 11 → r ≠ 41 → ∀ p, C (r, L, p) = K (r, L, p) := fun r a1 a2 a3 a4 a5 p => l2 _ (fun p' => by simp [a4, a5]) (by simp [a1]) (by simp [a2]) (by simp [a3])
  have q7 : ∀ k, k < 7 → C (7, L, 0) k = c (7, L2, 0) k := fun k hk => by rw [r0 7 (by decide) (by decide) (by decide) (by decide) (by decide), k2 _ (fun p => by simp) (by simp) (by simp) (by simp) (by simp) (by simp), e7k k hk]
  have q8 : ∀ k, 5 ≤ k → k < 11 → C (8, L, 0) k = c (8, L2, 0) k := fun k a1 a2 => by rw [r0 8 (by decide) (by decide) (by decide) (by decide) (by decide), k4 k a1 a2, e7' 8 0 (by decide)]
  have q33 : ∀ k, k < 20 → C (33, L, 0) k = c (33, L2, 0) k := fun k hk => by rw [r0 33 (by decide) (by decide) (by decide) (by decide) (by decide), k5 k hk, e7' 33 0 (by decide)]
  have q34 : ∀ k, k < 8 → C (34, L, 0) k = c (34, L2, 0) k := fun k hk => by rw [r0 34 (by decide) (by decide) (by decide) (by decide) (by decide), k6 k hk, e7' 34 0 (by decide)]
  have q35 : ∀ k, k < 8 → C (35, L, 0) k = c (35, L2, 0) k := fun k hk => by rw [r0 35 (by decide) (by decide) (by decide) (by decide) (by decide), k7 k hk, e7' 35 0 (by decide)]
  have q36 : ∀ k, k < 8 → C (36, L, 0) k = c (36, L2, 0) k := fun k hk => by rw [r0 36 (by decide) (by decide) (by decide) (by decide) (by decide), k8 k hk, e7' 36 0 (by decide)]
  have q9 : ∀ k, 3 ≤ k → k < 11 → C (9, L, 0) k = c (9, L2, 0) k := fun k a1 a2 => by rw [l4 k a1 a2, eK, e7' 9 0 (by decide)]
  have q39 : ∀ k, k < 8 → C (39, L, 0) k = c (39, L2, 0) k := fun k hk => by rw [l5 k hk, eK, e7' 39 0 (by decide)]
  have q40 : ∀ k, k < 256 → C (40, L, 0) k = c (40, L2, 0) k := fun k hk => by rw [l6 k hk, eK, e7' 40 0 (by decide)]
  have q10 : ∀ p, p < 8 → ∀ k, k < 5 → C (10, L, p) k = c (10, L2, p) k := fun p hp k hk => by rw [r0 10 (by decide) (by decide) (by decide) (by decide) (by decide), (k3 p hp).1 k hk, e7' 10 p (by decide)]
  have q37 : ∀ p, p < 8 → ∀ k, k < 39 → C (37, L, p) k = c (37, L2, p) k := fun p hp k hk => by rw [r0 37 (by decide) (by decide) (by decide) (by decide) (by decide), (k3 p hp).2 k hk, e7' 37 p (by decide)]
  have q11 : ∀ p, p < 8 → ∀ k, k < 3 → C (11, L, p) k = c (11, L2, p) k := fun p hp k hk => by rw [(l3 p hp).1 k hk, eK, e7' 11 p (by decide)]
  have q41 : ∀ p, p < 8 → ∀ k, k < 39 → C (41, L, p) k = c (41, L2, p) k := fun p hp k hk => by rw [(l3 p hp).2 k hk, eK, e7' 41 p (by decide)]
  refine ⟨C, ?_, ⟨⟨fun k hk => by rw [q7 k hk]; exact h1.1 k hk, h1.2⟩, ?_, ?_, ?_, fun p hp => ?_, fun p hp => ?_⟩, fun q hq => ?_, fun r p => ?_⟩
  · unfold fX4_copyFrom
    simp only [zlet_eq, zst_nq hne]
    rw [hc0, k1, zb_some, l1, zb_some]
  · obtain ⟨a1, a2, a3, a4, a5, a6, a7, a8, a9⟩ := h2
    exact ⟨by rw [q8 5 (by decide) (by decide)]; exact a1, fun i hi => by rw [q33 i (by omega)]; exact a2 i hi, by rw [q8 6 (by decide) (by decide)]; exact a3, fun i hi => by rw [q36 i (by omega)]; exact a4 i hi, by rw [q8 7 (by decide) (by decide)]; exact a5, by rw [q8 8 (by decide) (by decide)]; exact a6, fun s hs => by rw [q34 s hs, q35 s hs]; exact a7 s hs, by rw [q8 9 (by decide) (by decide)]; exact a8, by rw [q8 10 (by decide) (by decide)]; exact a9⟩
  · obtain ⟨⟨a1, a2, a3, a4, a5, a6, a7, a8, a9, a10, a11⟩, aq⟩ := h3
    exact ⟨⟨a1, by rw [q9 3 (by decide) (by decide)]; exact a2, fun k hk => by rw [q39 k hk]; exact a3 k hk, by rw [q9 6 (by decide) (by decide)]; exact a4, a5, a6, by rw [q9 7 (by decide) (by decide)]; exact a7, by rw [q9 8 (by decide) (by decide)]; exact a8, by rw [q9 9 (by decide) (by decide)]; exact a9, by rw [q9 10 (by decide) (by decide)]; exact a10, fun j hj hh => by rw [q40 j hj]; exact a11 j hj hh⟩, aq⟩
  · unfold Rt at h4 ⊢
    rw [q9 4 (by decide) (by decide), q9 5 (by decide) (by decide)]; exact h4
  · obtain ⟨a1, a2, a3, a4, a5, a6, a7, a8⟩ := h5 p hp
    refine ⟨by rw [q10 p hp 0 (by decide)]; exact a1, by rw [q10 p hp 1 (by decide)]; exact a2, by rw [q10 p hp 2 (by decide)]; exact a3, by rw [q10 p hp 3 (by decide)]; exact a4, by rw [q10 p hp 4 (by decide)]; exact a5, a6, fun hn => ?_, a8⟩
    obtain ⟨b1, b2, b3, b4, b5⟩ := a7 hn
    exact ⟨b1, b2, b3, b4, fun k hk => by rw [q37 p hp k hk]; exact b5 k hk⟩
  · obtain ⟨a1, a2, a3, a4, a5⟩ := h6 p hp
    exact ⟨by rw [q11 p hp 0 (by decide)]; exact a1, by rw [q11 p hp 1 (by decide)]; exact a2, by rw [q11 p hp 2 (by decide)]; exact a3, a4, fun k hk => by rw [q41 p hp k hk]; exact a5 k hk⟩
  · have hn : ∀ r p, klb 0 r 0 = false → q ≠ (r, L, p) := fun r p hr e => hq (by rw [e]; exact ⟨rfl, hr⟩)
    rw [l2 q (fun p => ⟨hn 11 p rfl, hn 41 p rfl⟩) (hn 9 0 rfl) (hn 39 0 rfl) (hn 40 0 rfl), k2 q (fun p => ⟨hn 10 p rfl, hn 37 p rfl⟩) (hn 8 0 rfl) (hn 33 0 rfl) (hn 34 0 rfl) (hn 35 0 rfl) (hn 36 0 rfl), e7 q (hn 7 0 rfl)]
  · rw [l2 _ (fun p' => by simp [hL]) (by simp [hL]) (by simp [hL]) (by simp [hL]), eK]
    by_cases er : r = 7
    · subst er; exact e7 _ (by simp [hL])
    · exact e7' r p er
