/-! THE BEST WORD, model: its loops -/
/-- states and next states -/
def pM (f : Nat → Int) (t : Nat) (K : zMem) : Prop := ∀ k, k < 4 → pBV f t (fun V => pAd t V ∧ pst V = k) (K (59, 0, 0) k) (K (60, 0, 0) k)
def pN (f : Nat → Int) (t k : Nat) (K : zMem) : Prop := ∀ j, j < 4 → pBV f (t + 1) (fun V => pAd (t + 1) V ∧ pst V = j ∧ pst (V / 2) < k) (K (61, 0, 0) j) (K (62, 0, 0) j)
abbrev fr2 (I J : zMem) : Prop := ∀ r, r ≠ (61, 0, 0) → r ≠ (62, 0, 0) → J r = I r
/-- one bit: the next state gets its candidates -/
theorem s_bit {f : Nat → Int} (hf : pbd f) {K : zMem} {t k b : Nat} (ht : t < 13) (hk : k < 4) (hb : b < 2) (hb2 : 11 ≤ t → b = 0) (hS : ∀ c, c < 39 → K (58, 0, 0) c = f c) {X : Nat} (hX : pAd t X ∧ pst X = k) (e1 : K (59, 0, 0) k = pS f t X) (e2 : K (60, 0, 0) k = (pth t X : Int)) (hbest : ∀ V', pAd t V' ∧ pst V' = k → pS f t V' < pS f t X ∨ (pS f t V' = pS f t X ∧ X ≤ V')) {C : Nat → Nat → Prop} (hC : ∀ j V, C j V → pAd (t + 1) V) (hN : ∀ j, j < 4 → pBV f (t + 1) (C j) (K (61, 0, 0) j) (K (62, 0, 0) j)) : ∃ K', fX12_stepsBit (t : Int) (k : Int) (b : Int) K = some K' ∧ fr2 K K' ∧ ∀ j, j < 4 → pBV f (t + 1) (fun V => C j V ∨ (pAd (t + 1) V ∧ pst V = j ∧ pst (V / 2) = k ∧ V % 2 = b)) (K' (61, 0, 0) j) (K' (62, 0, 0) j) := by
  have hj4 : 2 * b + k / 2 < 4 := by omega
  have bn := pBV_bd hf (by omega) (hC _) (hN _ hj4)
  have bX := pS_bd hf t (by omega) X
  have bW := pth_bd (by omega) hX.1
  have hAd := pAd_s ht hX.1 hb hb2
  have hP : pS f (t + 1) (2 * X + b) = pS f t X + pgn f t (4 * (k % 2) + 2 * (k / 2) + b) := by
    rw [pS_s, show (2 * X + b) / 2 = X by omega, (pst_2 hX.2 hb).2.2.2]
  have hW : ((pth (t + 1) (2 * X + b) : Nat) : Int) = if t < 11 then 2 * K (60, 0, 0) k + (b : Int) else K (60, 0, 0) k := by
    rw [pth_s ht hb hb2, e2]
    by_cases c : t < 11
    · rw [if_pos c, if_pos c]; omega
    · rw [if_neg c, if_neg c]
  have hs := s_stepsBit ht hk hb hS (by rw [e1]; omega) hf (by rw [e2]; omega) (by omega) (by omega) (pS f (t + 1) (2 * X + b)) ((pth (t + 1) (2 * X + b) : Nat) : Int) (by rw [hP, e1]) hW
  have hD : ∀ V', (pAd (t + 1) V' ∧ pst V' = 2 * b + k / 2 ∧ pst (V' / 2) = k ∧ V' % 2 = b) → pS f (t + 1) V' < pS f (t + 1) (2 * X + b) ∨ (pS f (t + 1) V' = pS f (t + 1) (2 * X + b) ∧ 2 * X + b ≤ V') := fun V' ⟨v1, v2, v3, v4⟩ => by
    have h3 := hbest (V' / 2) ⟨(pAd_d ht v1).1, v3⟩
    have h4 : pS f (t + 1) V' = pS f t (V' / 2) + pgn f t (4 * (k % 2) + 2 * (k / 2) + b) := by
      rw [pS_s, (pst_to v2 v3 v4).2]
    rw [hP, h4]; omega
  have hadd := pBV_add hf (T := t + 1) (by omega) (C := C (2 * b + k / 2)) (D := fun V => pAd (t + 1) V ∧ pst V = 2 * b + k / 2 ∧ pst (V / 2) = k ∧ V % 2 = b) (hC _) (fun V h => h.1) (hN _ hj4) (X := 2 * X + b) ⟨hAd, (pst_2 hX.2 hb).1, (pst_2 hX.2 hb).2.1, (pst_2 hX.2 hb).2.2.1⟩ hD
  have other : ∀ j, j < 4 → j ≠ 2 * b + k / 2 → ∀ V, C j V ↔ (C j V ∨ (pAd (t + 1) V ∧ pst V = j ∧ pst (V / 2) = k ∧ V % 2 = b)) := fun j hj hne V => by
    refine ⟨Or.inl, fun h => ?_⟩
    rcases h with h | ⟨-, h2, h3, h4⟩
    · exact h
    · exact absurd (pst_to h2 h3 h4).1 hne
  rw [hs]
  by_cases c : pS f (t + 1) (2 * X + b) < K (61, 0, 0) (2 * b + k / 2) ∨ (pS f (t + 1) (2 * X + b) = K (61, 0, 0) (2 * b + k / 2) ∧ K (62, 0, 0) (2 * b + k / 2) ≤ ((pth (t + 1) (2 * X + b) : Nat) : Int))
  · rw [if_pos c]
    refine ⟨K, rfl, fun _ _ _ => rfl, fun j hj => ?_⟩
    by_cases ej : j = 2 * b + k / 2
    · subst ej; exact hadd.1 c
    · exact pBV_iff (hN j hj) (other j hj ej)
  · rw [if_neg c]
    refine ⟨_, rfl, fun r n1 n2 => by rw [zst_nq n2, zst_nq n1], fun j hj => ?_⟩
    by_cases ej : j = 2 * b + k / 2
    · subst ej
      rw [zst_nq (by decide), zst_at, zst_at]; exact hadd.2 c
    · rw [zst_nk ej, zst_nk ej, zst_nk ej, zst_nk ej]
      exact pBV_iff (hN j hj) (other j hj ej)
/-- one state -/
theorem s_l76 {f : Nat → Int} (hf : pbd f) {K : zMem} {t k : Nat} (ht : t < 13) (hk : k < 4) (hS : ∀ c, c < 39 → K (58, 0, 0) c = f c) (hM : pM f t K) (hN : pN f t k K) : ∃ K', fX12_bestNow_l76 (t : Int) ((k : Int), K) = some (.inl (((k + 1 : Nat) : Int), K')) ∧ fr2 K K' ∧ pN f t (k + 1) K' := by
  have hb := pBV_bd hf (by omega) (fun V h => h.1) (hM k hk)
  unfold fX12_bestNow_l76 fX12_bestNow_b76_115
  dsimp only
  rw [if_neg (by rw [w32_n (by omega)]; omega), if_pos (zin_of (by omega) (by omega) (by decide)), ix_nat (by omega), w32_id (by omega) (by omega)]
  rcases hM k hk with ⟨h1, -, -, h4⟩ | ⟨X, x1, x2, x3, x4⟩
  · rw [if_pos h1]
    refine ⟨K, rfl, fun _ _ _ => rfl, fun j hj => pBV_iff (hN j hj) fun V => ⟨fun h => ⟨h.1, h.2.1, by omega⟩, fun h => ⟨h.1, h.2.1, ?_⟩⟩⟩
    have : pst (V / 2) ≠ k := fun e => h4 (V / 2) ⟨(pAd_d ht h.1).1, e⟩
    omega
  · have bX := pS_bd hf t (by omega) X
    rw [if_neg (by omega)]
    obtain ⟨K1, k1, k2, k3⟩ := s_bit hf ht hk (b := 0) (by decide) (fun _ => rfl) hS x1 x2 x3 x4 (C := fun j V => pAd (t + 1) V ∧ pst V = j ∧ pst (V / 2) < k) (fun j V h => h.1) hN
    rw [show fX12_stepsBit (t : Int) (k : Int) 0 K = some K1 from k1, zb_some]
    by_cases c : 11 ≤ t
    · rw [if_pos (by rw [w32_n (by omega)]; omega)]
      refine ⟨K1, rfl, k2, fun j hj => pBV_iff (k3 j hj) fun V => ⟨fun h => ?_, fun h => ?_⟩⟩
      · rcases h with h | h
        · exact ⟨h.1, h.2.1, by omega⟩
        · exact ⟨h.1, h.2.1, by omega⟩
      · have := (pAd_d ht h.1).2 (by omega)
        by_cases e : pst (V / 2) < k
        · exact Or.inl ⟨h.1, h.2.1, e⟩
        · exact Or.inr ⟨h.1, h.2.1, by omega, this⟩
    · have q59 : K1 (59, 0, 0) = K (59, 0, 0) := k2 _ (by decide) (by decide)
      have q60 : K1 (60, 0, 0) = K (60, 0, 0) := k2 _ (by decide) (by decide)
      have q58 : K1 (58, 0, 0) = K (58, 0, 0) := k2 _ (by decide) (by decide)
      obtain ⟨K2, l1, l2, l3⟩ := s_bit hf ht hk (b := 1) (by decide) (fun h => absurd h c) (fun i hi => by rw [q58]; exact hS i hi) x1 (by rw [q59]; exact x2) (by rw [q60]; exact x3) x4 (C := fun j V => (pAd (t + 1) V ∧ pst V = j ∧ pst (V / 2) < k) ∨ (pAd (t + 1) V ∧ pst V = j ∧ pst (V / 2) = k ∧ V % 2 = 0)) (fun j V h => by rcases h with h | h <;> exact h.1) k3
      rw [if_neg (by rw [w32_n (by omega)]; omega), show fX12_stepsBit (t : Int) (k : Int) 1 K1 = some K2 from l1, zb_some]
      refine ⟨K2, rfl, fun r n1 n2 => by rw [l2 r n1 n2, k2 r n1 n2], fun j hj => pBV_iff (l3 j hj) fun V => ⟨fun h => ?_, fun h => ?_⟩⟩
      · rcases h with (h | h) | h
        · exact ⟨h.1, h.2.1, by omega⟩
        · exact ⟨h.1, h.2.1, by omega⟩
        · exact ⟨h.1, h.2.1, by omega⟩
      · by_cases e : pst (V / 2) < k
        · exact Or.inl (Or.inl ⟨h.1, h.2.1, e⟩)
        · by_cases e2 : V % 2 = 0
          · exact Or.inl (Or.inr ⟨h.1, h.2.1, by omega, e2⟩)
          · exact Or.inr ⟨h.1, h.2.1, by omega, by omega⟩
