/-! A NEW LINK -/
/-- the class's numbers of a new link -/
def nwC (L : Nat) (c : zMem) (a0 a1 a2 a3 a4 : Int) : Prop := (c (7, L, 0) 0 = a0 ∧ c (7, L, 0) 1 = a1 ∧ c (7, L, 0) 2 = a2 ∧ c (7, L, 0) 3 = a3 ∧ c (7, L, 0) 4 = a4 ∧ c (7, L, 0) 5 = 500 ∧ c (7, L, 0) 6 = 20) ∧ (∀ k, 5 ≤ k → k < 11 → c (8, L, 0) k = 0) ∧ (∀ k, 3 ≤ k → k < 11 → c (9, L, 0) k = 0) ∧ (∀ k, k < 8 → c (39, L, 0) k = -1) ∧ (∀ p, p < 8 → c (10, L, p) 0 = -1 ∧ c (10, L, p) 1 = 0 ∧ c (10, L, p) 2 = 0 ∧ c (10, L, p) 3 = 0 ∧ c (10, L, p) 4 = 0) ∧ ∀ p, p < 8 → c (11, L, p) 0 = -1 ∧ c (11, L, p) 1 = 0 ∧ c (11, L, p) 2 = 0 ∧ ∀ k, k < 39 → c (41, L, p) k = 0
/-- the model's -/
def nwM (g : Nat → Int) (a0 a1 a2 a3 a4 : Int) : Prop := (g 0 = a0 ∧ g 1 = a1 ∧ g 2 = a2 ∧ g 3 = a3 ∧ g 4 = a4 ∧ g 5 = 500 ∧ g 6 = 20 ∧ g 64 = -1 ∧ g 65 = -1) ∧ (∀ k, k < 8 → g (39 + k) = -1 ∧ g (56 + k) = -1 ∧ g (329 + 88 * k) = -1 ∧ g (329 + 88 * k + 6) = -1) ∧ (∀ k, 7 ≤ k → k < 39 ∨ 47 ≤ k ∧ k < 56 ∨ 66 ≤ k ∧ k < 329 → g k = 0) ∧ ∀ p r, p < 8 → r < 88 → r ≠ 0 → r ≠ 6 → g (329 + 88 * p + r) = 0
theorem RK.new {L : Nat} {B : Int} {c : zMem} {g : Nat → Int} {a0 a1 a2 a3 a4 : Int} (hB : 0 ≤ B) (hc : nwC L c a0 a1 a2 a3 a4) (hg : nwM g a0 a1 a2 a3 a4) (h0 : 1 ≤ a0 ∧ a0 ≤ 8) (h1 : 1 ≤ a1 ∧ a1 ≤ 4) (h2 : 1 ≤ a2 ∧ a2 ≤ 60) (h3 : 1 ≤ a3 ∧ a3 ≤ 8) (h4 : 16 ≤ a4 ∧ a4 ≤ 48) : RK L B c g := by
  obtain ⟨⟨c0, c1, c2, c3, c4, c5, c6⟩, c8, c9, c39, c10, c11⟩ := hc
  obtain ⟨⟨g0, g1, g2, g3, g4, g5, g6, g64, g65⟩, gk, gz, gs⟩ := hg
  have np : ∀ s : Int, ¬ pky g s := fun s => by
    unfold pky
    rw [gz 28 (by decide) (by decide), gz 29 (by decide) (by decide)]; omega
  have hps : psr g = 0 := by
    have h := psr_rng g
    refine Classical.byContradiction fun hc => ?_
    have : psr g = psr (fun _ => -1) := psr_cong (fun k hk => ((gk k hk).2.1))
    exact hc (by rw [this]; decide)
  refine ⟨⟨fun k hk => ?_, by rw [g0]; exact h0, by rw [g1]; exact h1, by rw [g2]; exact h2, by rw [g3]; exact h3, by rw [g4]; exact h4, by rw [g5]; decide, by rw [g6]; decide⟩, ⟨by rw [c8 5 (by decide) (by decide), gz 7 (by decide) (by decide)]; decide, fun i hi => by rw [gz 7 (by decide) (by decide)] at hi; omega, by rw [c8 6 (by decide) (by decide), gz 30 (by decide) (by decide)]; decide, fun i hi => by rw [gz 30 (by decide) (by decide)] at hi; omega, by rw [c8 7 (by decide) (by decide), gz 28 (by decide) (by decide)]; decide, by rw [c8 8 (by decide) (by decide), gz 29 (by decide) (by decide)]; decide, fun s hs => ⟨fun hh => absurd hh (np s), fun _ => (gk s hs).1⟩, by rw [c8 9 (by decide) (by decide), gz 70 (by decide) (by decide)], by rw [c8 10 (by decide) (by decide), gz 71 (by decide) (by decide)]⟩, ⟨⟨by rw [gz 55 (by decide) (by decide)]; decide, by rw [c9 3 (by decide) (by decide), gz 55 (by decide) (by decide)], fun k hk => by rw [c39 k hk, (gk k hk).2.1]; decide, by rw [c9 6 (by decide) (by decide), gz 66 (by decide) (by decide)], by rw [gz 66 (by decide) (by decide)]; decide, by rw [gz 66 (by decide) (by decide), hps]; omega, by rw [c9 7 (by decide) (by decide), gz 67 (by decide) (by decide)], by rw [c9 8 (by decide) (by decide), gz 68 (by decide) (by decide)], by rw [c9 9 (by decide) (by decide), gz 69 (by decide) (by decide)], by rw [c9 10 (by decide) (by decide), gz 72 (by decide) (by decide)], fun j hj hh => by rw [gz 66 (by decide) (by decide)] at hh; omega⟩, ?_⟩, Or.inl ⟨c9 4 (by decide) (by decide), g64, g65, by rw [c9 5 (by decide) (by decide)]; decide, by rw [c9 5 (by decide) (by decide)]; decide⟩, fun p hp => ?_, fun p hp => ?_⟩
  · rcases (show k = 0 ∨ k = 1 ∨ k = 2 ∨ k = 3 ∨ k = 4 ∨ k = 5 ∨ k = 6 by omega) with rfl | rfl | rfl | rfl | rfl | rfl | rfl
    · rw [c0, g0]
    · rw [c1, g1]
    · rw [c2, g2]
    · rw [c3, g3]
    · rw [c4, g4]
    · rw [c5, g5]
    · rw [c6, g6]
  · unfold Rq
    rw [gz 55 (by decide) (by decide)]
    exact (gk 0 (by decide)).2.1
  · obtain ⟨f0, f1, f2, f3, f4⟩ := c10 p hp
    have e0 := (gk p hp).2.2.1
    rw [Rl, e0, f0, f1, f2, f3, f4, gs p 2 hp (by decide) (by decide) (by decide), gs p 3 hp (by decide) (by decide) (by decide), gs p 4 hp (by decide) (by decide) (by decide), gs p 5 hp (by decide) (by decide) (by decide)]
    exact ⟨by decide, by decide, by decide, by decide, by decide, fun _ => ⟨rfl, rfl⟩, fun hn => absurd rfl hn, fun _ => rfl⟩
  · obtain ⟨f0, f1, f2, f3⟩ := c11 p hp
    have e6 := (gk p hp).2.2.2
    rw [Rr, e6, f0, f1, f2, gs p 7 hp (by decide) (by decide) (by decide), gs p 8 hp (by decide) (by decide) (by decide), gs p 9 hp (by decide) (by decide) (by decide)]
    exact ⟨by decide, rfl, by decide, rfl, fun k hk => by rw [f3 k hk, Nat.add_assoc, gs p (10 + k) hp (by omega) (by omega) (by omega)]; decide⟩
theorem c_begSlots {L : Nat} {c : zMem} : ∃ i' K, zlp (fX7_begin_l2 L) 5000 (0, c) = some (i', K) ∧ (∀ q, (∀ p, q ≠ (10, L, p) ∧ q ≠ (37, L, p)) → K q = c q) ∧ ∀ p, p < 8 → K (10, L, p) 0 = -1 ∧ K (10, L, p) 1 = 0 ∧ K (10, L, p) 2 = 0 ∧ K (10, L, p) 3 = 0 ∧ K (10, L, p) 4 = 0 := by
  have hh := zlp_inv (body := fX7_begin_l2 L) (fun j st => st.1 = (j : Int) ∧ (∀ q, (∀ p, q ≠ (10, L, p) ∧ q ≠ (37, L, p)) → st.2 q = c q) ∧ ∀ p, p < j → st.2 (10, L, p) 0 = -1 ∧ st.2 (10, L, p) 1 = 0 ∧ st.2 (10, L, p) 2 = 0 ∧ st.2 (10, L, p) 3 = 0 ∧ st.2 (10, L, p) 4 = 0) (fun st => (∀ q, (∀ p, q ≠ (10, L, p) ∧ q ≠ (37, L, p)) → st.2 q = c q) ∧ ∀ p, p < 8 → st.2 (10, L, p) 0 = -1 ∧ st.2 (10, L, p) 1 = 0 ∧ st.2 (10, L, p) 2 = 0 ∧ st.2 (10, L, p) 3 = 0 ∧ st.2 (10, L, p) 4 = 0) 8 (N := 5000) (by decide) (s0 := (0, c)) ⟨rfl, fun _ _ => rfl, fun k hk => absurd hk (Nat.not_lt_zero k)⟩ ?_ ?_
  · obtain ⟨⟨i', K⟩, hr, r1⟩ := hh
    exact ⟨i', K, hr, r1⟩
  · rintro j ⟨t1, K⟩ hj ⟨a1, a2, a3⟩
    dsimp only at a1 a2 a3
    subst a1
    unfold fX7_begin_l2 fX8_begin
    dsimp only
    rw [if_neg (by rw [w32_n (by omega)]; omega), if_pos (zin_nat hj (by decide)), ix_nat (by omega), c_letGo, zb_some]
    simp only [zlet_eq]
    rw [s_fillI _ (by decide), zb_some, zb_some]
    refine Or.inl ⟨_, rfl, by dsimp only; omega, fun q hq => ?_, fun p hp => ?_⟩
    · dsimp only
      rw [zmp_ne (hq j).2, zst_nq (hq j).1, zst_nq (hq j).1, zst_nq (hq j).1, zst_nq (hq j).1, zst_nq (hq j).1, a2 q hq]
    · dsimp only
      by_cases ep : p = j
      · subst ep
        simp [zst_ap, zmp_ap]
      · have hne : ((10, L, p) : zPl) ≠ (10, L, j) := by simp [ep]
        rw [zmp_ne (by simp), zst_nq hne, zst_nq hne, zst_nq hne, zst_nq hne, zst_nq hne]
        exact a3 p (by omega)
  · rintro ⟨t1, K⟩ ⟨a1, a2, a3⟩
    dsimp only at a1 a2 a3
    subst a1
    unfold fX7_begin_l2
    dsimp only
    rw [if_pos (by decide)]
    exact ⟨_, rfl, a2, a3⟩
theorem c_begEars {L : Nat} {c : zMem} : ∃ i' K, zlp (fX5_begin_l2 L) 5000 (0, c) = some (i', K) ∧ (∀ q, (∀ p, q ≠ (11, L, p) ∧ q ≠ (41, L, p)) → K q = c q) ∧ ∀ p, p < 8 → K (11, L, p) 0 = -1 ∧ K (11, L, p) 1 = 0 ∧ K (11, L, p) 2 = 0 ∧ ∀ k, k < 39 → K (41, L, p) k = 0 := by
  have hh := zlp_inv (body := fX5_begin_l2 L) (fun j st => st.1 = (j : Int) ∧ (∀ q, (∀ p, q ≠ (11, L, p) ∧ q ≠ (41, L, p)) → st.2 q = c q) ∧ ∀ p, p < j → st.2 (11, L, p) 0 = -1 ∧ st.2 (11, L, p) 1 = 0 ∧ st.2 (11, L, p) 2 = 0 ∧ ∀ k, k < 39 → st.2 (41, L, p) k = 0) (fun st => (∀ q, (∀ p, q ≠ (11, L, p) ∧ q ≠ (41, L, p)) → st.2 q = c q) ∧ ∀ p, p < 8 → st.2 (11, L, p) 0 = -1 ∧ st.2 (11, L, p) 1 = 0 ∧ st.2 (11, L, p) 2 = 0 ∧ ∀ k, k < 39 → st.2 (41, L, p) k = 0) 8 (N := 5000) (by decide) (s0 := (0, c)) ⟨rfl, fun _ _ => rfl, fun k hk => absurd hk (Nat.not_lt_zero k)⟩ ?_ ?_
  · obtain ⟨⟨i', K⟩, hr, r1⟩ := hh
    exact ⟨i', K, hr, r1⟩
  · rintro j ⟨t1, K⟩ hj ⟨a1, a2, a3⟩
    dsimp only at a1 a2 a3
    subst a1
    obtain ⟨K', k1, k2, k3, k4, k5, k6⟩ := c_earBegin (L := L) (p := j) (-1) K
    unfold fX5_begin_l2
    dsimp only
    rw [if_neg (by rw [w32_n (by omega)]; omega), if_pos (zin_nat hj (by decide)), ix_nat (by omega), k1, zb_some]
    refine Or.inl ⟨_, rfl, by dsimp only; omega, fun q hq => by dsimp only; rw [k2 q (hq j).1 (hq j).2, a2 q hq], fun p hp => ?_⟩
    dsimp only
    by_cases ep : p = j
    · subst ep; exact ⟨k3, k4, k5, k6⟩
    · rw [k2 (11, L, p) (by simp [ep]) (by simp), k2 (41, L, p) (by simp) (by simp [ep])]
      exact a3 p (by omega)
  · rintro ⟨t1, K⟩ ⟨a1, a2, a3⟩
    dsimp only at a1 a2 a3
    subst a1
    unfold fX5_begin_l2
    dsimp only
    rw [if_pos (by decide)]
    exact ⟨_, rfl, a2, a3⟩
theorem c_begin {L : Nat} {c : zMem} : ∃ K, fX4_begin L c = some K ∧ (∀ q, ¬ lkP L q → K q = c q) ∧ (K (7, L, 0) 5 = 500 ∧ K (7, L, 0) 6 = 20) ∧ (∀ k, 5 ≤ k → k < 11 → K (8, L, 0) k = 0) ∧ (∀ k, 3 ≤ k → k < 11 → K (9, L, 0) k = 0) ∧ (∀ k, k < 8 → K (39, L, 0) k = -1) ∧ (∀ p, p < 8 → K (10, L, p) 0 = -1 ∧ K (10, L, p) 1 = 0 ∧ K (10, L, p) 2 = 0 ∧ K (10, L, p) 3 = 0 ∧ K (10, L, p) 4 = 0) ∧ ∀ p, p < 8 → K (11, L, p) 0 = -1 ∧ K (11, L, p) 1 = 0 ∧ K (11, L, p) 2 = 0 ∧ ∀ k, k < 39 → K (41, L, p) k = 0 := by
  obtain ⟨i1, J, j1, j2, j3⟩ := c_begSlots (L := L) (c := zst (zst c (7, L, 0) 5 500) (7, L, 0) 6 20)
  have hz8 : ∀ q, q ≠ (8, L, 0) → zst (zst (zst (zst (zst (zst J (8, L, 0) 5 0) (8, L, 0) 6 0) (8, L, 0) 7 0) (8, L, 0) 8 0) (8, L, 0) 9 0) (8, L, 0) 10 0 q = J q := fun q hq => by rw [zst_nq hq, zst_nq hq, zst_nq hq, zst_nq hq, zst_nq hq, zst_nq hq]
  obtain ⟨i2, K, k1, k2, k3⟩ := c_begEars (L := L) (c := zst (zst (zst (zst (zst (zst J (8, L, 0) 5 0) (8, L, 0) 6 0) (8, L, 0) 7 0) (8, L, 0) 8 0) (8, L, 0) 9 0) (8, L, 0) 10 0)
  have hz9 : ∀ q, q ≠ (9, L, 0) → q ≠ (39, L, 0) → zst (zst (zst (zst (zst (zst (zst (zst (zmp K (39, L, 0) 8 (fun _ => -1)) (9, L, 0) 3 0) (9, L, 0) 4 0) (9, L, 0) 5 0) (9, L, 0) 6 0) (9, L, 0) 7 0) (9, L, 0) 8 0) (9, L, 0) 9 0) (9, L, 0) 10 0 q = K q := fun q hq h39 => by rw [zst_nq hq, zst_nq hq, zst_nq hq, zst_nq hq, zst_nq hq, zst_nq hq, zst_nq hq, zst_nq hq, zmp_ne h39]
  unfold fX4_begin fX7_begin fX5_begin
  simp only [zlet_eq]
  rw [j1, zb_some, zb_some, k1, zb_some, s_fillI _ (by decide), zb_some, zb_some]
  refine ⟨_, rfl, fun q hq => ?_, ?_, fun k a1 a2 => ?_, fun k a1 a2 => ?_, fun k hk => ?_, fun p hp => ?_, fun p hp => ?_⟩
  · have hn : ∀ r p, klb 0 r 0 = false → q ≠ (r, L, p) := fun r p hr e => hq (by rw [e]; exact ⟨rfl, hr⟩)
    rw [hz9 q (hn 9 0 rfl) (hn 39 0 rfl), k2 q (fun p => ⟨hn 11 p rfl, hn 41 p rfl⟩), hz8 q (hn 8 0 rfl), j2 q (fun p => ⟨hn 10 p rfl, hn 37 p rfl⟩), zst_nq (hn 7 0 rfl), zst_nq (hn 7 0 rfl)]
  · rw [hz9 _ (by simp) (by simp), k2 _ (fun p => by simp), hz8 _ (by simp), j2 _ (fun p => by simp), zst_nk (by decide), zst_at, zst_at]; exact ⟨rfl, rfl⟩
  · rw [hz9 _ (by simp) (by simp), k2 _ (fun p => by simp)]
    rcases (show k = 5 ∨ k = 6 ∨ k = 7 ∨ k = 8 ∨ k = 9 ∨ k = 10 by omega) with rfl | rfl | rfl | rfl | rfl | rfl <;> simp [zst_ap]
  · rcases (show k = 3 ∨ k = 4 ∨ k = 5 ∨ k = 6 ∨ k = 7 ∨ k = 8 ∨ k = 9 ∨ k = 10 by omega) with rfl | rfl | rfl | rfl | rfl | rfl | rfl | rfl <;> simp [zst_ap]
  · simp [zst_ap, zmp_ap, hk]
  · rw [hz9 _ (by simp) (by simp), k2 _ (fun p' => by simp), hz8 _ (by simp)]; exact j3 p hp
  · rw [hz9 _ (by simp) (by simp), hz9 _ (by simp) (by simp)]; exact k3 p hp
theorem m_zeros {m : zMem} (a b d f g : Int) : ∃ i' K, zlp (fX12_begins_l3 a b d f g) 5000 (0, m) = some (i', K) ∧ (∀ q, q ≠ (51, 0, 0) → K q = m q) ∧ (∀ k, 1033 ≤ k → K (51, 0, 0) k = m (51, 0, 0) k) ∧ ∀ k, k < 1033 → K (51, 0, 0) k = 0 := by
  have hh := zlp_inv (body := fX12_begins_l3 a b d f g) (fun j st => st.1 = (j : Int) ∧ (∀ q, q ≠ (51, 0, 0) → st.2 q = m q) ∧ (∀ k, 1033 ≤ k → st.2 (51, 0, 0) k = m (51, 0, 0) k) ∧ ∀ k, k < j → st.2 (51, 0, 0) k = 0) (fun st => (∀ q, q ≠ (51, 0, 0) → st.2 q = m q) ∧ (∀ k, 1033 ≤ k → st.2 (51, 0, 0) k = m (51, 0, 0) k) ∧ ∀ k, k < 1033 → st.2 (51, 0, 0) k = 0) 1033 (N := 5000) (by decide) (s0 := (0, m)) ⟨rfl, fun _ _ => rfl, fun _ _ => rfl, fun k hk => absurd hk (Nat.not_lt_zero k)⟩ ?_ ?_
  · obtain ⟨⟨i', K⟩, hr, r1⟩ := hh
    exact ⟨i', K, hr, r1⟩
  · rintro j ⟨t1, K⟩ hj ⟨a1, a2, a4, a3⟩
    dsimp only at a1 a2 a3 a4
    subst a1
    have xj : ix (j : Int) = j := ix_nat (by omega)
    unfold fX12_begins_l3
    simp only [zlet_eq]
    rw [if_neg (by rw [w32_n (by omega)]; omega), if_pos (zin_of (by omega) (by omega) (by decide)), xj]
    refine Or.inl ⟨_, rfl, by dsimp only; omega, fun q hq => by dsimp only; rw [zst_nq hq, a2 q hq], fun k hk => by dsimp only; rw [zst_nk (by omega)]; exact a4 k hk, fun k hk => ?_⟩
    dsimp only
    by_cases c0 : k = j
    · subst c0; rw [zst_at]
    · rw [zst_nk c0]; exact a3 k (by omega)
  · rintro ⟨t1, K⟩ ⟨a1, a2, a4, a3⟩
    dsimp only at a1 a2 a3 a4
    subst a1
    unfold fX12_begins_l3
    dsimp only
    rw [if_pos (by decide)]
    exact ⟨_, rfl, a2, a4, a3⟩
theorem m_begL {m : zMem} (a b d f g : Int) : ∃ i' K, zlp (fX12_begins_l99 a b d f g) 5000 (0, m) = some (i', K) ∧ (∀ q, q ≠ (51, 0, 0) → K q = m q) ∧ (∀ k, (∀ s, s < 8 → k ≠ 39 + s ∧ k ≠ 56 + s ∧ k ≠ 329 + 88 * s ∧ k ≠ 329 + 88 * s + 6) → K (51, 0, 0) k = m (51, 0, 0) k) ∧ ∀ s, s < 8 → K (51, 0, 0) (39 + s) = -1 ∧ K (51, 0, 0) (56 + s) = -1 ∧ K (51, 0, 0) (329 + 88 * s) = -1 ∧ K (51, 0, 0) (329 + 88 * s + 6) = -1 := by
  have hh := zlp_inv (body := fX12_begins_l99 a b d f g) (fun j st => st.1 = (j : Int) ∧ (∀ q, q ≠ (51, 0, 0) → st.2 q = m q) ∧ (∀ k, (∀ s, s < 8 → k ≠ 39 + s ∧ k ≠ 56 + s ∧ k ≠ 329 + 88 * s ∧ k ≠ 329 + 88 * s + 6) → st.2 (51, 0, 0) k = m (51, 0, 0) k) ∧ ∀ s, s < j → st.2 (51, 0, 0) (39 + s) = -1 ∧ st.2 (51, 0, 0) (56 + s) = -1 ∧ st.2 (51, 0, 0) (329 + 88 * s) = -1 ∧ st.2 (51, 0, 0) (329 + 88 * s + 6) = -1) (fun st => (∀ q, q ≠ (51, 0, 0) → st.2 q = m q) ∧ (∀ k, (∀ s, s < 8 → k ≠ 39 + s ∧ k ≠ 56 + s ∧ k ≠ 329 + 88 * s ∧ k ≠ 329 + 88 * s + 6) → st.2 (51, 0, 0) k = m (51, 0, 0) k) ∧ ∀ s, s < 8 → st.2 (51, 0, 0) (39 + s) = -1 ∧ st.2 (51, 0, 0) (56 + s) = -1 ∧ st.2 (51, 0, 0) (329 + 88 * s) = -1 ∧ st.2 (51, 0, 0) (329 + 88 * s + 6) = -1) 8 (N := 5000) (by decide) (s0 := (0, m)) ⟨rfl, fun _ _ => rfl, fun _ _ => rfl, fun k hk => absurd hk (Nat.not_lt_zero k)⟩ ?_ ?_
  · obtain ⟨⟨i', K⟩, hr, r1⟩ := hh
    exact ⟨i', K, hr, r1⟩
  · rintro j ⟨t1, K⟩ hj ⟨a1, a2, a4, a3⟩
    dsimp only at a1 a2 a3 a4
    subst a1
    have x1 : ix (39 + (j : Int)) = 39 + j := by rw [ix_of (by omega) (by omega)]; omega
    have x2 : ix (56 + (j : Int)) = 56 + j := by rw [ix_of (by omega) (by omega)]; omega
    have x3 : ix (329 + 88 * (j : Int) + 0) = 329 + 88 * j := by rw [ix_of (by omega) (by omega)]; omega
    have x4 : ix (329 + 88 * (j : Int) + 6) = 329 + 88 * j + 6 := by rw [ix_of (by omega) (by omega)]; omega
    unfold fX12_begins_l99
    simp only [zlet_eq]
    rw [if_neg (by rw [w32_n (by omega)]; omega), if_pos (zin_of (by omega) (by omega) (by decide)), if_pos (zin_of (by omega) (by omega) (by decide)), if_pos (zin_of (by omega) (by omega) (by decide)), if_pos (zin_of (by omega) (by omega) (by decide)), x1, x2, x3, x4]
    refine Or.inl ⟨_, rfl, by dsimp only; omega, fun q hq => by dsimp only; rw [zst_nq hq, zst_nq hq, zst_nq hq, zst_nq hq, a2 q hq], fun k hk => ?_, fun s hs => ?_⟩
    · dsimp only
      have hj' := hk j hj
      rw [zst_nk hj'.2.2.2, zst_nk hj'.2.2.1, zst_nk hj'.2.1, zst_nk hj'.1]; exact a4 k hk
    · dsimp only
      by_cases c0 : s = j
      · subst c0
        refine ⟨by rw [zst_nk (by omega), zst_nk (by omega), zst_nk (by omega), zst_at], by rw [zst_nk (by omega), zst_nk (by omega), zst_at], by rw [zst_nk (by omega), zst_at], by rw [zst_at]⟩
      · rw [zst_nk (by omega), zst_nk (by omega), zst_nk (by omega), zst_nk (by omega), zst_nk (by omega), zst_nk (by omega), zst_nk (by omega), zst_nk (by omega), zst_nk (by omega), zst_nk (by omega), zst_nk (by omega), zst_nk (by omega), zst_nk (by omega), zst_nk (by omega), zst_nk (by omega), zst_nk (by omega)]; exact a3 s (by omega)
  · rintro ⟨t1, K⟩ ⟨a1, a2, a4, a3⟩
    dsimp only at a1 a2 a3 a4
    subst a1
    unfold fX12_begins_l99
    dsimp only
    rw [if_pos (by decide)]
    exact ⟨_, rfl, a2, a4, a3⟩
theorem m_begins {m : zMem} (a0 a1 a2 a3 a4 : Int) : ∃ M, fX12_begins a0 a1 a2 a3 a4 m = some M ∧ (∀ q, q ≠ (51, 0, 0) → M q = m q) ∧ (∀ k, 1033 ≤ k → M (51, 0, 0) k = m (51, 0, 0) k) ∧ nwM (M (51, 0, 0)) a0 a1 a2 a3 a4 := by
  obtain ⟨i1, J, j1, j2, j3, j4⟩ := m_zeros (m := m) a0 a1 a2 a3 a4
  obtain ⟨i2, K, k1, k2, k3, k4⟩ := m_begL (m := zst (zst (zst (zst (zst (zst (zst (zst (zst J (51, 0, 0) 0 a0) (51, 0, 0) 1 a1) (51, 0, 0) 2 a2) (51, 0, 0) 3 a3) (51, 0, 0) 4 a4) (51, 0, 0) 5 500) (51, 0, 0) 6 20) (51, 0, 0) 64 (-1)) (51, 0, 0) 65 (-1)) a0 a1 a2 a3 a4
  have hJ : ∀ k, 7 ≤ k → k ≠ 64 → k ≠ 65 → zst (zst (zst (zst (zst (zst (zst (zst (zst J (51, 0, 0) 0 a0) (51, 0, 0) 1 a1) (51, 0, 0) 2 a2) (51, 0, 0) 3 a3) (51, 0, 0) 4 a4) (51, 0, 0) 5 500) (51, 0, 0) 6 20) (51, 0, 0) 64 (-1)) (51, 0, 0) 65 (-1) (51, 0, 0) k = J (51, 0, 0) k := fun k h1 h2 h3 => by rw [zst_nk (by omega), zst_nk (by omega), zst_nk (by omega), zst_nk (by omega), zst_nk (by omega), zst_nk (by omega), zst_nk (by omega), zst_nk (by omega), zst_nk (by omega)]
  unfold fX12_begins
  rw [j1, zb_some]
  simp only [zlet_eq]
  rw [k1, zb_some]
  refine ⟨K, rfl, fun q hq => by rw [k2 q hq, zst_nq hq, zst_nq hq, zst_nq hq, zst_nq hq, zst_nq hq, zst_nq hq, zst_nq hq, zst_nq hq, zst_nq hq, j2 q hq], fun k hk => by rw [k3 k (fun s hs => by omega), hJ k (by omega) (by omega) (by omega), j3 k hk], ⟨⟨?_, ?_, ?_, ?_, ?_, ?_, ?_, ?_, ?_⟩, k4, fun k h1 h2 => by rw [k3 k (fun s hs => by omega), hJ k (by omega) (by omega) (by omega), j4 k (by omega)], fun p r hp hr h0 h6 => by rw [k3 _ (fun s hs => by omega), hJ _ (by omega) (by omega) (by omega), j4 _ (by omega)]⟩⟩
  all_goals rw [k3 _ (fun s hs => by omega)]; simp [zst_ap]
section
variable {n : Int} {e : Nat → Prop} {c m : zMem}
theorem Q_link (h : RW n e c m) (hn : 0 ≤ n) {a0 a1 a2 a3 a4 : Int} (h0 : i32 a0) (h1 : i32 a1) (h2 : i32 a2) (h3 : i32 a3) (h4 : i32 a4) : okC n e (fX11_link a0 a1 a2 a3 a4 c) (fX12_link a0 a1 a2 a3 a4 m) := by
  have hh := h.th.mo (show n ≤ n + 60 by omega)
  have w0 : w32 a0 = a0 := w32_id h0.1 h0.2
  have w1 : w32 a1 = a1 := w32_id h1.1 h1.2
  have w2 : w32 a2 = a2 := w32_id h2.1 h2.2
  have w3 : w32 a3 = a3 := w32_id h3.1 h3.2
  have w4 : w32 a4 = a4 := w32_id h4.1 h4.2
  unfold okC fX11_link fX12_link
  simp only [zlet_eq, w0, w1, w2, w3, w4]
  generalize zst m (50, 0, 0) 0 0 = m0 at hh ⊢
  rw [v_within h0 (by decide) (by decide), vz]
  by_cases c0 : 1 ≤ a0 ∧ a0 ≤ 8
  · rw [if_neg (show ¬ a0 < 1 by omega), if_neg (show ¬ 8 < a0 by omega), if_pos c0, v_within h1 (by decide) (by decide), vz]
    by_cases c1 : 1 ≤ a1 ∧ a1 ≤ 4
    · rw [if_neg (show ¬ a1 < 1 by omega), if_neg (show ¬ 4 < a1 by omega), if_pos c1, v_within h2 (by decide) (by decide), vz]
      by_cases c2 : 1 ≤ a2 ∧ a2 ≤ 60
      · rw [if_neg (show ¬ a2 < 1 by omega), if_pos c2.2, if_pos c2, v_within h3 (by decide) (by decide), vz]
        by_cases c3 : 1 ≤ a3 ∧ a3 ≤ 8
        · rw [if_neg (show ¬ a3 < 1 by omega), if_neg (show ¬ 8 < a3 by omega), if_pos c3, v_within h4 (by decide) (by decide), vz]
          by_cases c4 : 16 ≤ a4 ∧ a4 ≤ 48
          · obtain ⟨K, k1, k2, k3, k4, k5, k6, k7, k8⟩ := c_begin (L := 1) (c := c)
            obtain ⟨M, l1, l2, l3, l4⟩ := m_begins (m := m0) a0 a1 a2 a3 a4
            rw [if_neg (show ¬ a4 < 16 by omega), if_pos c4.2, if_pos c4, k1, zb_some, l1, zb_some]
            have hz : ∀ q, q ≠ (7, 1, 0) → zst (zst (zst (zst (zst K (7, 1, 0) 0 a0) (7, 1, 0) 1 a1) (7, 1, 0) 2 a2) (7, 1, 0) 3 a3) (7, 1, 0) 4 a4 q = K q := fun q hq => by rw [zst_nq hq, zst_nq hq, zst_nq hq, zst_nq hq, zst_nq hq]
            refine ⟨_, _, _, rfl, rfl, hh.st (Int.le_refl _) (RK.new (by omega) ⟨by simp [zst_ap, k3], fun k h1 h2 => by rw [hz _ (by simp)]; exact k4 k h1 h2, fun k h1 h2 => by rw [hz _ (by simp)]; exact k5 k h1 h2, fun k hk => by rw [hz _ (by simp)]; exact k6 k hk, fun p hp => by rw [hz _ (by simp)]; exact k7 p hp, fun p hp => by rw [hz _ (by simp), hz _ (by simp)]; exact k8 p hp⟩ l4 c0 c1 c2 c3 c4) (fun q hq => ?_) ⟨fun q hq => l2 q (ko_ne hq rfl), l3⟩⟩
            rw [hz q (kl_ne hq rfl)]
            exact k2 q (kl_ka hq).2
          · rw [if_neg c4]
            by_cases d : a4 < 16
            · rw [if_pos d]; exact ⟨_, _, _, rfl, rfl, hh⟩
            · rw [if_neg d, if_neg (by omega)]; exact ⟨_, _, _, rfl, rfl, hh⟩
        · rw [if_neg c3]
          by_cases d : a3 < 1
          · rw [if_pos d]; exact ⟨_, _, _, rfl, rfl, hh⟩
          · rw [if_neg d, if_pos (by omega)]; exact ⟨_, _, _, rfl, rfl, hh⟩
      · rw [if_neg c2]
        by_cases d : a2 < 1
        · rw [if_pos d]; exact ⟨_, _, _, rfl, rfl, hh⟩
        · rw [if_neg d, if_neg (by omega)]; exact ⟨_, _, _, rfl, rfl, hh⟩
    · rw [if_neg c1]
      by_cases d : a1 < 1
      · rw [if_pos d]; exact ⟨_, _, _, rfl, rfl, hh⟩
      · rw [if_neg d, if_pos (by omega)]; exact ⟨_, _, _, rfl, rfl, hh⟩
  · rw [if_neg c0]
    by_cases d : a0 < 1
    · rw [if_pos d]; exact ⟨_, _, _, rfl, rfl, hh⟩
    · rw [if_neg d, if_pos (by omega)]; exact ⟨_, _, _, rfl, rfl, hh⟩
end
