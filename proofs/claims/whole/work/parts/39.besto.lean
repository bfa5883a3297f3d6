/-- one step of all -/
theorem s_l38 {f : Nat → Int} (hf : pbd f) {K : zMem} {t : Nat} (ht : t < 13) (hS : ∀ c, c < 39 → K (58, 0, 0) c = f c) (hM : pM f t K) : ∃ K', fX12_bestNow_l38 ((t : Int), K) = some (.inl (((t + 1 : Nat) : Int), K')) ∧ (∀ r, r ≠ (59, 0, 0) → r ≠ (60, 0, 0) → r ≠ (61, 0, 0) → r ≠ (62, 0, 0) → K' r = K r) ∧ pM f (t + 1) K' := by
  unfold fX12_bestNow_l38
  dsimp only
  rw [if_neg (by rw [w32_n (by omega)]; omega)]
  have h1 := zlp_inv (body := fX12_bestNow_l46 (t : Int)) (fun k st => st.1 = (k : Int) ∧ fr2 K st.2 ∧ ∀ j, j < k → st.2 (61, 0, 0) j = -1073741824 ∧ st.2 (62, 0, 0) j = 2048) (fun st => fr2 K st.2 ∧ ∀ j, j < 4 → st.2 (61, 0, 0) j = -1073741824 ∧ st.2 (62, 0, 0) j = 2048) 4 (N := 5000) (by decide) (s0 := (0, K)) ⟨rfl, fun _ _ _ => rfl, fun j h => absurd h (Nat.not_lt_zero j)⟩ ?_ ?_
  · obtain ⟨R1, hr1, f1, n1⟩ := h1
    rw [hr1, zb_some]
    have q59 : R1.2 (59, 0, 0) = K (59, 0, 0) := f1 _ (by decide) (by decide)
    have q60 : R1.2 (60, 0, 0) = K (60, 0, 0) := f1 _ (by decide) (by decide)
    have q58 : R1.2 (58, 0, 0) = K (58, 0, 0) := f1 _ (by decide) (by decide)
    have h2 := zlp_inv (body := fX12_bestNow_l76 (t : Int)) (fun k st => st.1 = (k : Int) ∧ fr2 R1.2 st.2 ∧ pN f t k st.2) (fun st => fr2 R1.2 st.2 ∧ pN f t 4 st.2) 4 (N := 5000) (by decide) (s0 := (0, R1.2)) ⟨rfl, fun _ _ _ => rfl, fun j hj => Or.inl ⟨(n1 j hj).1, by rw [(n1 j hj).2]; decide, by rw [(n1 j hj).2]; decide, fun V h => absurd h.2.2 (Nat.not_lt_zero _)⟩⟩ ?_ ?_
    · obtain ⟨R2, hr2, f2, n2⟩ := h2
      rw [hr2, zb_some]
      have h3 := zlp_inv (body := fX12_bestNow_l123 (t : Int)) (fun k st => st.1 = (k : Int) ∧ (∀ r, r ≠ (59, 0, 0) → r ≠ (60, 0, 0) → st.2 r = R2.2 r) ∧ ∀ j, j < k → st.2 (59, 0, 0) j = R2.2 (61, 0, 0) j ∧ st.2 (60, 0, 0) j = R2.2 (62, 0, 0) j) (fun st => (∀ r, r ≠ (59, 0, 0) → r ≠ (60, 0, 0) → st.2 r = R2.2 r) ∧ ∀ j, j < 4 → st.2 (59, 0, 0) j = R2.2 (61, 0, 0) j ∧ st.2 (60, 0, 0) j = R2.2 (62, 0, 0) j) 4 (N := 5000) (by decide) (s0 := (0, R2.2)) ⟨rfl, fun _ _ _ => rfl, fun j h => absurd h (Nat.not_lt_zero j)⟩ ?_ ?_
      · obtain ⟨R3, hr3, f3, n3⟩ := h3
        rw [hr3, zb_some]
        refine ⟨_, rfl, fun r a b c d => by rw [f3 r a b, f2 r c d, f1 r c d], fun k hk => ?_⟩
        rw [(n3 k hk).1, (n3 k hk).2]
        exact pBV_iff (n2 k hk) fun V => ⟨fun h => ⟨h.1, h.2.1⟩, fun h => ⟨h.1, h.2, pst_lt _⟩⟩
      · rintro k ⟨t1, J⟩ hk ⟨a1, a2, a3⟩
        dsimp only at a1 a2 a3
        subst a1
        unfold fX12_bestNow_l123
        dsimp only [zlet]
        rw [if_neg (by rw [w32_n (by omega)]; omega), if_pos (zin_of (by omega) (by omega) (by decide)), ix_nat (by omega)]
        refine Or.inl ⟨_, rfl, by dsimp only; omega, fun r n1 n2 => by dsimp only; rw [zst_nq n2, zst_nq n1, a2 r n1 n2], fun j hj => ?_⟩
        dsimp only
        by_cases e : j = k
        · subst e
          rw [zst_nq (show ((59, 0, 0) : zPl) ≠ (60, 0, 0) by decide), zst_at, zst_at, zst_nq (show ((62, 0, 0) : zPl) ≠ (59, 0, 0) by decide), a2 _ (by decide) (by decide), a2 _ (by decide) (by decide)]
          exact ⟨rfl, rfl⟩
        · rw [zst_nk e, zst_nk e, zst_nk e, zst_nk e]; exact a3 j (by omega)
      · rintro ⟨t1, J⟩ ⟨a1, a2, a3⟩
        dsimp only at a1 a2 a3
        subst a1
        unfold fX12_bestNow_l123
        dsimp only
        rw [if_pos (by decide)]
        exact ⟨_, rfl, a2, a3⟩
    · rintro k ⟨t1, J⟩ hk ⟨a1, a2, a3⟩
      dsimp only at a1 a2 a3
      subst a1
      have p59 : J (59, 0, 0) = K (59, 0, 0) := by rw [a2 _ (by decide) (by decide), q59]
      have p60 : J (60, 0, 0) = K (60, 0, 0) := by rw [a2 _ (by decide) (by decide), q60]
      obtain ⟨K', e, k1, k2⟩ := s_l76 hf ht hk (K := J) (fun c hc => by rw [a2 _ (by decide) (by decide), q58]; exact hS c hc) (fun s hs => by rw [p59, p60]; exact hM s hs) a3
      rw [e]
      exact Or.inl ⟨_, rfl, rfl, fun r n1 n2 => by dsimp only; rw [k1 r n1 n2, a2 r n1 n2], k2⟩
    · rintro ⟨t1, J⟩ ⟨a1, a2, a3⟩
      dsimp only at a1 a2 a3
      subst a1
      unfold fX12_bestNow_l76
      dsimp only
      rw [if_pos (by decide)]
      exact ⟨_, rfl, a2, a3⟩
  · rintro k ⟨t1, J⟩ hk ⟨a1, a2, a3⟩
    dsimp only at a1 a2 a3
    subst a1
    unfold fX12_bestNow_l46
    dsimp only [zlet]
    rw [if_neg (by rw [w32_n (by omega)]; omega), if_pos (zin_of (by omega) (by omega) (by decide)), ix_nat (by omega)]
    refine Or.inl ⟨_, rfl, by dsimp only; omega, fun r n1 n2 => by dsimp only; rw [zst_nq n2, zst_nq n1, a2 r n1 n2], fun j hj => ?_⟩
    dsimp only
    by_cases e : j = k
    · subst e
      rw [zst_nq (show ((61, 0, 0) : zPl) ≠ (62, 0, 0) by decide), zst_at, zst_at]
      exact ⟨rfl, rfl⟩
    · rw [zst_nk e, zst_nk e, zst_nk e, zst_nk e]; exact a3 j (by omega)
  · rintro ⟨t1, J⟩ ⟨a1, a2, a3⟩
    dsimp only at a1 a2 a3
    subst a1
    unfold fX12_bestNow_l46
    dsimp only
    rw [if_pos (by decide)]
    exact ⟨_, rfl, a2, a3⟩
/-- the model's best word -/
theorem s_bestNow {f : Nat → Int} (hf : pbd f) {I : zMem} (hI : ∀ c, c < 39 → I (58, 0, 0) c = f c) : ∃ r J, fX12_bestNow I = some (r, J) ∧ pbest f r ∧ ∀ p, p ≠ (59, 0, 0) → p ≠ (60, 0, 0) → p ≠ (61, 0, 0) → p ≠ (62, 0, 0) → J p = I p := by
  unfold fX12_bestNow
  have h1 := zlp_inv (body := fX12_bestNow_l2) (fun k st => st.1 = (k : Int) ∧ (∀ r, r ≠ (59, 0, 0) → r ≠ (60, 0, 0) → st.2 r = I r) ∧ ∀ j, j < k → st.2 (59, 0, 0) j = (if j = 0 then 0 else -1073741824) ∧ st.2 (60, 0, 0) j = 0) (fun st => (∀ r, r ≠ (59, 0, 0) → r ≠ (60, 0, 0) → st.2 r = I r) ∧ ∀ j, j < 4 → st.2 (59, 0, 0) j = (if j = 0 then 0 else -1073741824) ∧ st.2 (60, 0, 0) j = 0) 4 (N := 5000) (by decide) (s0 := (0, I)) ⟨rfl, fun _ _ _ => rfl, fun j h => absurd h (Nat.not_lt_zero j)⟩ ?_ ?_
  · obtain ⟨R1, hr1, f1, n1⟩ := h1
    rw [hr1, zb_some]
    have m0 : pM f 0 R1.2 := fun k hk => by
      rw [(n1 k hk).1, (n1 k hk).2]
      by_cases e : k = 0
      · subst e
        rw [if_pos rfl]
        exact Or.inr ⟨0, ⟨⟨by decide, fun h => absurd h (by decide), fun h => absurd h (by decide)⟩, rfl⟩, rfl, rfl, fun V' h => Or.inr ⟨rfl, Nat.zero_le _⟩⟩
      · rw [if_neg e]
        refine Or.inl ⟨rfl, by decide, by decide, fun V h => e ?_⟩
        have hv : V = 0 := by have := h.1.1; rw [Nat.pow_zero] at this; omega
        rw [← h.2, hv]; rfl
    have h2 := zlp_inv (body := fX12_bestNow_l38) (fun t st => st.1 = (t : Int) ∧ (∀ r, r ≠ (59, 0, 0) → r ≠ (60, 0, 0) → r ≠ (61, 0, 0) → r ≠ (62, 0, 0) → st.2 r = I r) ∧ pM f t st.2) (fun st => (∀ r, r ≠ (59, 0, 0) → r ≠ (60, 0, 0) → r ≠ (61, 0, 0) → r ≠ (62, 0, 0) → st.2 r = I r) ∧ pM f 13 st.2) 13 (N := 5000) (by decide) (s0 := (0, R1.2)) ⟨rfl, fun r a b _ _ => f1 r a b, m0⟩ ?_ ?_
    · obtain ⟨R2, hr2, f2, n2⟩ := h2
      rw [hr2, zb_some]
      refine ⟨_, _, rfl, ?_, f2⟩
      have hb : (2 : Nat) ^ 13 = 8192 := by decide
      have ad : ∀ w, w < 2048 → pAd 13 (4 * w) ∧ pst (4 * w) = 0 := fun w hw => ⟨⟨by omega, fun h => absurd h (by decide), fun _ => by omega⟩, by unfold pst; omega⟩
      rcases n2 0 (by decide) with ⟨-, -, -, h4⟩ | ⟨V, v1, v2, v3, v4⟩
      · exact absurd (ad 0 (by decide)) (h4 0)
      · have hV : V % 4 = 0 := v1.1.2.2 rfl
        have hlt := v1.1.1
        refine ⟨V / 4, by rw [v3]; rfl, by omega, fun w' hw' => ?_⟩
        have := v4 (4 * w') (ad w' hw')
        unfold pT
        rw [show 4 * (V / 4) = V by omega]
        omega
    · rintro t ⟨t1, K⟩ ht ⟨a1, a2, a3⟩
      dsimp only at a1 a2 a3
      subst a1
      obtain ⟨K', e, k1, k2⟩ := s_l38 hf ht (K := K) (fun c hc => by rw [a2 _ (by decide) (by decide) (by decide) (by decide)]; exact hI c hc) a3
      rw [e]
      exact Or.inl ⟨_, rfl, rfl, fun r n1 n2 n3 n4 => by dsimp only; rw [k1 r n1 n2 n3 n4, a2 r n1 n2 n3 n4], k2⟩
    · rintro ⟨t1, K⟩ ⟨a1, a2, a3⟩
      dsimp only at a1 a2 a3
      subst a1
      unfold fX12_bestNow_l38
      dsimp only
      rw [if_pos (by decide)]
      exact ⟨_, rfl, a2, a3⟩
  · rintro k ⟨t1, J⟩ hk ⟨a1, a2, a3⟩
    dsimp only at a1 a2 a3
    subst a1
    have key : ∀ z : Int, z = (if k = 0 then 0 else -1073741824) → fX12_bestNow_b2_22 (k : Int) z (k : Int) J = some (.inl ((k : Int) + 1, zst (zst J (59, 0, 0) k z) (60, 0, 0) k 0)) := fun z _ => by
      unfold fX12_bestNow_b2_22
      dsimp only [zlet]
      rw [if_pos (zin_of (by omega) (by omega) (by decide)), if_pos (zin_of (by omega) (by omega) (by decide)), ix_nat (by omega)]
    have fin : ∀ z : Int, z = (if k = 0 then 0 else -1073741824) → (∀ r, r ≠ (59, 0, 0) → r ≠ (60, 0, 0) → zst (zst J (59, 0, 0) k z) (60, 0, 0) k 0 r = I r) ∧ ∀ j, j < k + 1 → zst (zst J (59, 0, 0) k z) (60, 0, 0) k 0 (59, 0, 0) j = (if j = 0 then 0 else -1073741824) ∧ zst (zst J (59, 0, 0) k z) (60, 0, 0) k 0 (60, 0, 0) j = 0 := fun z hz => ⟨fun r n1 n2 => by rw [zst_nq n2, zst_nq n1, a2 r n1 n2], fun j hj => by
      by_cases e : j = k
      · subst e
        rw [zst_nq (show ((59, 0, 0) : zPl) ≠ (60, 0, 0) by decide), zst_at, zst_at]
        exact ⟨hz, rfl⟩
      · rw [zst_nk e, zst_nk e, zst_nk e, zst_nk e]; exact a3 j (by omega)⟩
    unfold fX12_bestNow_l2
    dsimp only
    rw [if_neg (by rw [w32_n (by omega)]; omega), w32_n (by omega)]
    by_cases e : k = 0
    · have hz : (0 : Int) = (if k = 0 then 0 else -1073741824) := by rw [if_pos e]
      rw [if_pos (by omega), key 0 hz]
      exact Or.inl ⟨_, rfl, by dsimp only; omega, fin 0 hz⟩
    · have hz : (-1073741824 : Int) = (if k = 0 then 0 else -1073741824) := by rw [if_neg e]
      rw [if_neg (by omega), key _ hz]
      exact Or.inl ⟨_, rfl, by dsimp only; omega, fin _ hz⟩
  · rintro ⟨t1, J⟩ ⟨a1, a2, a3⟩
    dsimp only at a1 a2 a3
    subst a1
    unfold fX12_bestNow_l2
    dsimp only
    rw [if_pos (by decide)]
    exact ⟨_, rfl, a2, a3⟩
