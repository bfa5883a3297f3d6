theorem P_known {c m : zMem} (hC : iCode c) (hM : iCodeM m) (h : RE c m) {a b : Int} (ha : i32 a) (hb : i32 b) : ∃ r c' m', fX11_known a b c = some (r, c') ∧ fX12_known a b m = some (r, m') ∧ sC c c' ∧ sM m m' := by
  have wb : w32 b = b := w32_id hb.1 hb.2
  unfold fX11_known fX12_known fX11_refuseEar
  dsimp only [zlet]
  simp only [wb]
  by_cases c0 : 0 ≤ b ∧ b ≤ 1
  · rw [if_neg (show ¬ b < 0 by omega), if_pos c0.2]
    rcases P_refuse2 h ha with ⟨h1, h2⟩ | ⟨h1, h2, h3⟩
    · rw [h1, zb_some, zb_some, h2, zb_some, if_pos w32_0, if_neg (show ¬ w32 (-2) = 0 by decide)]
      exact ⟨_, _, _, rfl, rfl, sC.rf c, sM_th m 0⟩
    · rw [h1, zb_some, if_neg (show ¬ w32 1 = 0 by decide), v_within hb (by decide) (by decide), vz, if_pos c0]
      rcases h3 with ⟨h3, h4⟩ | ⟨p, rfl, p1, h3, hf, J, h4, h5, h6⟩
      · rw [h3, zb_some, zb_some, h4, zb_some, if_neg (show ¬ w32 (-6) = 0 by decide), if_neg (show ¬ w32 (-6) = 0 by decide)]
        exact ⟨_, _, _, rfl, rfl, sC.rf c, sM_th m 0⟩
      · obtain ⟨K, k1, k2, k3⟩ := s_known (p : Int) b hf
        obtain ⟨L, l1, l2, l3⟩ := m_known (p : Int) b hf h6
        have sK : sC c K := fun q hq => k2 q (kc_ne hq rfl)
        have sL : sM m L := h5.tr fun q hq => l2 q (km_ne hq rfl)
        rw [h3, zb_some, zb_some, h4, zb_some]
        dsimp only
        rw [if_pos w32_0, if_pos w32_0, if_pos (zin_of (by omega) (by omega) (by decide)), ix_nat (n := p) (by omega), k1, zb_some, l1, zb_some]
        dsimp only
        by_cases c1 : b = 0
        · rw [if_pos c1, if_pos c1]
          exact ⟨_, _, _, rfl, rfl, sK, sL⟩
        · obtain ⟨N, n1, n2, n3, n4⟩ := s_take (I := K) (q := (13, 0, 0)) (by decide) (by decide) (g := pkn (c (41, 1, p))) (fun k hk => ⟨k3 k hk, pkn_lt _ k⟩)
          have sN : sC c N := sK.tr fun q hq => n2 q (kc_ne hq rfl) (kc_ne hq rfl)
          rw [if_neg c1, if_neg c1, n1, zb_some, s_leastWc (fun k _ => pkn_lt _ k) (hC.keep sN) n4, zb_some, m_leastW (hM.keep sL) (fun k _ => pkn_lt _ k) l3, zb_some]
          exact ⟨_, _, _, rfl, rfl, sN, sL⟩
  · refine ⟨-2, c, zst m (50, 0, 0) 0 0, ?_, ?_, sC.rf c, sM_th m 0⟩
    · by_cases c1 : b < 0
      · rw [if_pos c1]
      · rw [if_neg c1, if_neg (by omega)]
    · rcases P_refuse2 h ha with ⟨h1, h2⟩ | ⟨h1, h2, h3⟩
      · rw [h2, zb_some, if_pos w32_0]
      · rw [h1, zb_some, if_neg (show ¬ w32 1 = 0 by decide), v_within hb (by decide) (by decide), vz, if_neg c0]
