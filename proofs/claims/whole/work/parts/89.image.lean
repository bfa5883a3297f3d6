/-! IMAGES -/
theorem m_imageL {m : zMem} {i : Nat} (hi : i < 2) : ∃ i' K, zlp (fX12_image_l20 (i : Int)) 5000 (0, m) = some (i', K) ∧ (∀ q, q ≠ (51, 0, 0) → K q = m q) ∧ (∀ k, k < 1033 * (i + 1) ∨ 1033 * (i + 2) ≤ k → K (51, 0, 0) k = m (51, 0, 0) k) ∧ ∀ k, k < 1033 → K (51, 0, 0) (1033 * (i + 1) + k) = m (51, 0, 0) k := by
  have hh := zlp_inv (body := fX12_image_l20 (i : Int)) (fun j st => st.1 = (j : Int) ∧ (∀ q, q ≠ (51, 0, 0) → st.2 q = m q) ∧ (∀ k, k < 1033 * (i + 1) ∨ 1033 * (i + 2) ≤ k → st.2 (51, 0, 0) k = m (51, 0, 0) k) ∧ ∀ k, k < j → st.2 (51, 0, 0) (1033 * (i + 1) + k) = m (51, 0, 0) k) (fun st => (∀ q, q ≠ (51, 0, 0) → st.2 q = m q) ∧ (∀ k, k < 1033 * (i + 1) ∨ 1033 * (i + 2) ≤ k → st.2 (51, 0, 0) k = m (51, 0, 0) k) ∧ ∀ k, k < 1033 → st.2 (51, 0, 0) (1033 * (i + 1) + k) = m (51, 0, 0) k) 1033 (N := 5000) (by decide) (s0 := (0, m)) ⟨rfl, fun _ _ => rfl, fun _ _ => rfl, fun k hk => absurd hk (Nat.not_lt_zero k)⟩ ?_ ?_
  · obtain ⟨⟨i', K⟩, hr, r1⟩ := hh
    exact ⟨i', K, hr, r1⟩
  · rintro j ⟨t1, K⟩ hj ⟨a1, a2, a3, a4⟩
    dsimp only at a1 a2 a3 a4
    subst a1
    have xj : ix (j : Int) = j := ix_nat (by omega)
    have xo : ix (1033 * ((i : Int) + 1) + (j : Int)) = 1033 * (i + 1) + j := by rw [ix_of (by omega) (by omega)]; omega
    have e51 : K (51, 0, 0) j = m (51, 0, 0) j := a3 j (by omega)
    unfold fX12_image_l20
    simp only [zlet_eq, xj, xo, e51]
    rw [if_neg (by rw [w32_n (by omega)]; omega), if_pos (zin_of (by omega) (by omega) (by decide)), if_pos (zin_of (by omega) (by omega) (by decide))]
    refine Or.inl ⟨_, rfl, by dsimp only; omega, fun q hq => by dsimp only; rw [zst_nq hq, a2 q hq], fun k hk => by dsimp only; rw [zst_nk (by omega)]; exact a3 k hk, fun k hk => ?_⟩
    dsimp only
    by_cases c0 : k = j
    · subst c0; rw [zst_at]
    · rw [zst_nk (by omega)]; exact a4 k (by omega)
  · rintro ⟨t1, K⟩ ⟨a1, a2, a3, a4⟩
    dsimp only at a1 a2 a3 a4
    subst a1
    unfold fX12_image_l20
    dsimp only
    rw [if_pos (by decide)]
    exact ⟨_, rfl, a2, a3, a4⟩
theorem m_restoreL {m : zMem} {i : Nat} (hi : i < 2) : ∃ i' K, zlp (fX12_restore_l32 (i : Int)) 5000 (0, m) = some (i', K) ∧ (∀ q, q ≠ (51, 0, 0) → K q = m q) ∧ (∀ k, 1033 ≤ k → K (51, 0, 0) k = m (51, 0, 0) k) ∧ ∀ k, k < 1033 → K (51, 0, 0) k = m (51, 0, 0) (1033 * (i + 1) + k) := by
  have hh := zlp_inv (body := fX12_restore_l32 (i : Int)) (fun j st => st.1 = (j : Int) ∧ (∀ q, q ≠ (51, 0, 0) → st.2 q = m q) ∧ (∀ k, 1033 ≤ k → st.2 (51, 0, 0) k = m (51, 0, 0) k) ∧ ∀ k, k < j → st.2 (51, 0, 0) k = m (51, 0, 0) (1033 * (i + 1) + k)) (fun st => (∀ q, q ≠ (51, 0, 0) → st.2 q = m q) ∧ (∀ k, 1033 ≤ k → st.2 (51, 0, 0) k = m (51, 0, 0) k) ∧ ∀ k, k < 1033 → st.2 (51, 0, 0) k = m (51, 0, 0) (1033 * (i + 1) + k)) 1033 (N := 5000) (by decide) (s0 := (0, m)) ⟨rfl, fun _ _ => rfl, fun _ _ => rfl, fun k hk => absurd hk (Nat.not_lt_zero k)⟩ ?_ ?_
  · obtain ⟨⟨i', K⟩, hr, r1⟩ := hh
    exact ⟨i', K, hr, r1⟩
  · rintro j ⟨t1, K⟩ hj ⟨a1, a2, a3, a4⟩
    dsimp only at a1 a2 a3 a4
    subst a1
    have xj : ix (j : Int) = j := ix_nat (by omega)
    have xo : ix (1033 * ((i : Int) + 1) + (j : Int)) = 1033 * (i + 1) + j := by rw [ix_of (by omega) (by omega)]; omega
    have e51 : K (51, 0, 0) (1033 * (i + 1) + j) = m (51, 0, 0) (1033 * (i + 1) + j) := a3 _ (by omega)
    unfold fX12_restore_l32
    simp only [zlet_eq, xj, xo, e51]
    rw [if_neg (by rw [w32_n (by omega)]; omega), if_pos (zin_of (by omega) (by omega) (by decide)), if_pos (zin_of (by omega) (by omega) (by decide))]
    refine Or.inl ⟨_, rfl, by dsimp only; omega, fun q hq => by dsimp only; rw [zst_nq hq, a2 q hq], fun k hk => by dsimp only; rw [zst_nk (by omega)]; exact a3 k hk, fun k hk => ?_⟩
    dsimp only
    by_cases c0 : k = j
    · subst c0; rw [zst_at]
    · rw [zst_nk (by omega)]; exact a4 k (by omega)
  · rintro ⟨t1, K⟩ ⟨a1, a2, a3, a4⟩
    dsimp only at a1 a2 a3 a4
    subst a1
    unfold fX12_restore_l32
    dsimp only
    rw [if_pos (by decide)]
    exact ⟨_, rfl, a2, a3, a4⟩
theorem lk_other {L L2 r p : Nat} (h : L2 ≠ L) : ¬ lkP L (r, L2, p) := fun hh => h hh.1
section
variable {n : Int} {e : Nat → Prop} {c m : zMem}
theorem Q_imageN (h : RW n e c m) {a : Int} (ha : i32 a) (hn : ¬ (0 ≤ a ∧ a ≤ 1)) : ∃ m', fX12_image a m = some (-2, m') ∧ RW (n + 60) e c m' := by
  have h0 := h.th.mo (show n ≤ n + 60 by omega)
  unfold fX12_image
  simp only [zlet_eq, w32_id ha.1 ha.2]
  rw [v_within ha (by decide) (by decide), vz, if_neg hn]
  exact ⟨_, rfl, h0⟩
theorem Q_restoreN (h : RW n e c m) {a : Int} (ha : i32 a) (hn : ¬ (0 ≤ a ∧ a ≤ 1)) : ∃ m', fX12_restore a m = some (-2, m') ∧ RW (n + 60) e c m' := by
  have h0 := h.th.mo (show n ≤ n + 60 by omega)
  unfold fX12_restore
  simp only [zlet_eq, w32_id ha.1 ha.2]
  rw [v_within ha (by decide) (by decide), vz, if_neg hn]
  exact ⟨_, rfl, h0⟩
theorem Q_restore0 (h : RW n e c m) {i : Nat} (hi : i < 2) (he : ¬ e (2 + i)) : ∃ m', fX12_restore (i : Int) m = some (-5, m') ∧ RW (n + 60) e c m' := by
  have h0 := h.th.mo (show n ≤ n + 60 by omega)
  unfold fX12_restore
  simp only [zlet_eq, w32_n (show i < 2147483648 by omega)]
  generalize zst m (50, 0, 0) 0 0 = m0 at h0 ⊢
  have e53 : m0 (53, 0, 0) i = 0 := by
    rcases h0.2.2.1 i hi with ⟨f1, f2⟩ | ⟨f1, f2, f3⟩
    · exact f1
    · exact absurd f2 he
  rw [v_within (by constructor <;> omega) (by decide) (by decide), vz, if_pos (by omega), if_pos (zin_nat hi (by decide)), ix_nat (by omega), e53, if_pos w32_0]
  exact ⟨_, rfl, h0⟩
theorem Q_restore (h : RW n e c m) {i : Nat} (hi : i < 2) (he : e (2 + i)) : ∃ C m', fX4_copyFrom 1 (2 + i) c = some C ∧ fX12_restore (i : Int) m = some (0, m') ∧ RW (n + 60) e C m' := by
  have h0 := h.th.mo (show n ≤ n + 60 by omega)
  unfold fX12_restore
  simp only [zlet_eq, w32_n (show i < 2147483648 by omega)]
  generalize zst m (50, 0, 0) 0 0 = m0 at h0 ⊢
  rcases h0.2.2.1 i hi with ⟨f1, f2⟩ | ⟨f1, f2, f3⟩
  · exact absurd he f2
  · obtain ⟨C, k1, k2, k3, k4⟩ := r_copy (L := 1) (L2 := 2 + i) (by omega) f3
    obtain ⟨i', K, l1, l2, l3, l4⟩ := m_restoreL (m := m0) hi
    rw [v_within (by constructor <;> omega) (by decide) (by decide), vz, if_pos (by omega), if_pos (zin_nat hi (by decide)), ix_nat (by omega), f1, if_neg (by decide), l1, zb_some]
    refine ⟨C, K, k1, rfl, h0.st (Int.le_refl _) (k2.ck (fun _ _ _ => rfl) (fun k hk => l4 k hk)) (fun q hq => k3 q (kl_ka hq).2) ⟨fun q hq => l2 q (ko_ne hq rfl), l3⟩⟩
theorem Q_image (h : RW n e c m) {i : Nat} (hi : i < 2) {c1 : zMem} (hc : ∀ q, ¬ lkP (2 + i) q → c1 q = c q) : ∃ C m', fX4_copyFrom (2 + i) 1 c1 = some C ∧ fX12_image (i : Int) m = some (0, m') ∧ RW (n + 60) (fun L => e L ∨ L = 2 + i) C m' := by
  have h0 := h.th.mo (show n ≤ n + 60 by omega)
  unfold fX12_image
  simp only [zlet_eq, w32_n (show i < 2147483648 by omega)]
  generalize zst m (50, 0, 0) 0 0 = m0 at h0 ⊢
  obtain ⟨C, k1, k2, k3, k4⟩ := r_copy (L := 2 + i) (L2 := 1) (c := c1) (g := m0 (51, 0, 0)) (B := n + 60) (by omega) (h0.2.1.ck (fun r p _ => hc _ (lk_other (by omega))) (fun _ _ => rfl))
  obtain ⟨i', K, l1, l2, l3, l4⟩ := m_imageL (m := m0) hi
  have hC : ∀ q, ¬ lkP (2 + i) q → C q = c q := fun q hq => by rw [k3 q hq, hc q hq]
  have K51 : ∀ k, k < 1033 → zst K (53, 0, 0) i 1 (51, 0, 0) k = m0 (51, 0, 0) k := fun k hk => by rw [zst_nq (by simp), l3 k (by omega)]
  rw [v_within (by constructor <;> omega) (by decide) (by decide), vz, if_pos (by omega), l1, zb_some, if_pos (zin_nat hi (by decide)), ix_nat (by omega)]
  refine ⟨C, zst K (53, 0, 0) i 1, k1, rfl, h0.1.kp (hC _ (lk_no rfl)) (hC _ (lk_no rfl)) (hC _ (lk_no rfl)) (hC _ (lk_no rfl)) (by rw [zst_nq (by simp), l2 _ (by simp)]) (by rw [zst_nq (by simp), l2 _ (by simp)]), h0.2.1.ck (fun r p _ => hC _ (lk_other (by omega))) K51, fun j hj => ?_, fun t ht => ?_⟩
  · by_cases ej : j = i
    · subst ej
      refine Or.inr ⟨zst_at, Or.inr rfl, k2.ck (fun _ _ _ => rfl) (fun k hk => ?_)⟩
      rw [zst_nq (by simp)]; exact l4 k hk
    · rw [zst_nk ej, l2 _ (by simp)]
      rcases h0.2.2.1 j hj with ⟨f1, f2⟩ | ⟨f1, f2, f3⟩
      · exact Or.inl ⟨f1, fun hh => hh.elim f2 (fun e => ej (by omega))⟩
      · refine Or.inr ⟨f1, Or.inl f2, f3.ck (fun r p _ => hC _ (lk_other (by omega))) (fun k hk => ?_)⟩
        rw [zst_nq (by simp), l3 _ (by omega)]
  · rw [hC (31, 0, 0) (lk_no rfl), hC (30, 0, t) (lk_no rfl), zst_nq (q := (53, 0, 0)) (q' := (66, 0, 0)) (by simp), zst_nq (q := (53, 0, 0)) (q' := (67, 0, 0)) (by simp), l2 _ (by simp), l2 _ (by simp)]
    exact h0.2.2.2 t ht
end
