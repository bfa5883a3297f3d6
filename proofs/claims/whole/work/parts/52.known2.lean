theorem m_known {m : zMem} (a b : Int) {f : Nat → Int} (hf : pbd f) (hS : ∀ k, k < 39 → m (58, 0, 0) k = f k) : ∃ K, zlp (fX12_known_l44 a b) 5000 (0, 0, m) = some (zsm (fun k => (pkn f k : Int)) 39, 39, K) ∧ (∀ q, q ≠ (57, 0, 0) → K q = m q) ∧ ∀ k, k < 39 → K (57, 0, 0) k = (pkn f k : Int) := by
  have hh := zlp_inv (body := fX12_known_l44 a b) (fun j st => st.1 = zsm (fun k => (pkn f k : Int)) j ∧ st.2.1 = (j : Int) ∧ (∀ q, q ≠ (57, 0, 0) → st.2.2 q = m q) ∧ ∀ k, k < j → st.2.2 (57, 0, 0) k = (pkn f k : Int)) (fun st => st.1 = zsm (fun k => (pkn f k : Int)) 39 ∧ st.2.1 = 39 ∧ (∀ q, q ≠ (57, 0, 0) → st.2.2 q = m q) ∧ ∀ k, k < 39 → st.2.2 (57, 0, 0) k = (pkn f k : Int)) 39 (N := 5000) (by decide) (s0 := (0, 0, m)) ⟨rfl, rfl, fun _ _ => rfl, fun k h => absurd h (Nat.not_lt_zero k)⟩ ?_ ?_
  · obtain ⟨⟨x, y, K⟩, hr, r1, r2, r3, r4⟩ := hh
    dsimp only at r1 r2 r3 r4
    subst r1 r2
    exact ⟨K, hr, r3, r4⟩
  · rintro j ⟨t1, t2, K⟩ hj ⟨a1, a2, a3, a4⟩
    dsimp only at a1 a2 a3 a4
    subst a1 a2
    have bj := hf j hj
    have key : ∀ z : Int, z = (pkn f j : Int) → fX12_known_b44_72 a b (zsm (fun k => (pkn f k : Int)) j) (j : Int) z (j : Int) K = some (.inl (zsm (fun k => (pkn f k : Int)) (j + 1), ((j + 1 : Nat) : Int), zst K (57, 0, 0) j z)) := fun z hz => by
      unfold fX12_known_b44_72
      dsimp only [zlet]
      rw [if_pos (zin_nat hj (by decide)), if_pos (zin_nat hj (by decide)), ix_nat (by omega), zst_at, hz]; rfl
    have fin : ∀ z : Int, z = (pkn f j : Int) → (∀ q, q ≠ (57, 0, 0) → zst K (57, 0, 0) j z q = m q) ∧ ∀ k, k < j + 1 → zst K (57, 0, 0) j z (57, 0, 0) k = (pkn f k : Int) := fun z hz => ⟨fun q hq => by rw [zst_nq hq, a3 q hq], fun k hk => by
      by_cases e : k = j
      · subst e; rw [zst_at, hz]
      · rw [zst_nk e]; exact a4 k (by omega)⟩
    unfold fX12_known_l44
    dsimp only
    rw [if_neg (by rw [w32_n (by omega)]; omega), if_pos (zin_nat hj (by decide)), ix_nat (by omega)]
    have ek : w32 (K (58, 0, 0) j) = f j := by rw [a3 (58, 0, 0) (by decide), hS j hj]; exact w32_id (by omega) (by omega)
    by_cases e : f j = 0
    · have hz : (0 : Int) = (pkn f j : Int) := by unfold pkn; rw [if_pos e]; rfl
      rw [if_pos (by rw [ek]; exact e), key 0 hz]
      exact Or.inl ⟨_, rfl, rfl, rfl, fin 0 hz⟩
    · have hz : (1 : Int) = (pkn f j : Int) := by unfold pkn; rw [if_neg e]; rfl
      rw [if_neg (by rw [ek]; exact e), key 1 hz]
      exact Or.inl ⟨_, rfl, rfl, rfl, fin 1 hz⟩
  · rintro ⟨t1, t2, K⟩ ⟨a1, a2, a3, a4⟩
    dsimp only at a1 a2 a3 a4
    subst a1 a2
    unfold fX12_known_l44
    dsimp only
    rw [if_pos (by decide)]
    exact ⟨_, rfl, rfl, rfl, a3, a4⟩
