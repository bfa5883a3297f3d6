/-! RANK -/
def prk (f : Nat → Int) (z : Int) (n : Nat) : Int := zsm (fun w => if z < pT f w then 1 else 0) n
theorem P_rank {c m : zMem} (hM : iCodeM m) (h : RE c m) {a b : Int} (ha : i32 a) (hb : i32 b) : ∃ r c' m', fX11_rank a b c = some (r, c') ∧ fX12_rank a b m = some (r, m') ∧ sC c c' ∧ sM m m' := by
  unfold fX11_rank fX12_rank
  dsimp only [zlet]
  rw [v_isWord hb, zb_some]
  rcases P_refuse2 h ha with ⟨h1, h2⟩ | ⟨h1, h2, h3⟩
  · rw [h1, zb_some, h2, zb_some, if_pos w32_0, if_neg (show ¬ w32 (-2) = 0 by decide)]
    exact ⟨_, _, _, rfl, rfl, sC.rf c, sM_th m 0⟩
  · rw [h1, zb_some, if_neg (show ¬ w32 1 = 0 by decide), m_isWord hb, vz]
    by_cases c0 : 0 ≤ b ∧ b ≤ 2047
    · rw [if_pos c0, if_pos c0]
      rcases h3 with ⟨h3, h4⟩ | ⟨p, rfl, p1, h3, hf, J, h4, h5, h6⟩
      · rw [h3, zb_some, h4, zb_some, if_neg (show ¬ w32 (-6) = 0 by decide), if_neg (show ¬ w32 (-6) = 0 by decide)]
        exact ⟨_, _, _, rfl, rfl, sC.rf c, sM_th m 0⟩
      · obtain ⟨w, rfl⟩ := nat_of c0.1
        have w1 : w < 2048 := by omega
        have hCJ := hM.keep h5
        obtain ⟨K, k1, k2, k3⟩ := s_sumAll (f := c (41, 1, p)) (q := (41, 1, p)) (by intro e; cases e) (I := c) (fun _ _ => rfl)
        have bw := pT_bd hf w
        have wz : w32 (pT (c (41, 1, p)) w) = pT (c (41, 1, p)) w := w32_id (by omega) (by omega)
        have hc := zlp_0 (body := fX11_rank_l55 (p : Int) (w : Int) (pT (c (41, 1, p)) w) K) (S := fun j => (prk (c (41, 1, p)) (pT (c (41, 1, p)) w) j, (j : Int))) (r := (prk (c (41, 1, p)) (pT (c (41, 1, p)) w) 2048, 2048)) 2048 (N := 5000) (by decide) ?_ ?_
        · have hm := zlp_0 (body := fX12_rank_l51 (p : Int) (w : Int) (pT (c (41, 1, p)) w) J) (S := fun j => (prk (c (41, 1, p)) (pT (c (41, 1, p)) w) j, (j : Int))) (r := (prk (c (41, 1, p)) (pT (c (41, 1, p)) w) 2048, 2048)) 2048 (N := 5000) (by decide) ?_ ?_
          · rw [h3, zb_some, h4, zb_some]
            dsimp only
            rw [if_pos w32_0, if_pos w32_0, if_pos (zin_of (by omega) (by omega) (by decide)), ix_nat (n := p) (by omega), k1, zb_some, if_pos (zin_nat w1 (by decide)), ix_nat (n := w) (by omega), k2 w w1, s_sumNow hCJ h6 w1, zb_some]
            refine ⟨prk (c (41, 1, p)) (pT (c (41, 1, p)) w) 2048, K, J, ?_, ?_, fun q hq => k3 q (kc_ne hq rfl) (kc_ne hq rfl), h5⟩
            · exact congrArg (fun o => zb o (fun x9 : Int × Int => some (x9.1, K))) hc
            · exact congrArg (fun o => zb o (fun x10 : Int × Int => some (x10.1, J))) hm
          · intro j hj
            have bj := pT_bd hf j
            have es : prk (c (41, 1, p)) (pT (c (41, 1, p)) w) (j + 1) = prk (c (41, 1, p)) (pT (c (41, 1, p)) w) j + if pT (c (41, 1, p)) w < pT (c (41, 1, p)) j then 1 else 0 := rfl
            unfold fX12_rank_l51 fX12_rank_b51_77
            dsimp only [zlet]
            rw [if_neg (by rw [w32_n (by omega)]; omega), s_sumNow hCJ h6 hj, zb_some, w32_id (z := pT (c (41, 1, p)) j) (by omega) (by omega), wz, es]
            by_cases c1 : pT (c (41, 1, p)) j ≤ pT (c (41, 1, p)) w
            · rw [if_pos c1, if_neg (by omega)]; rfl
            · rw [if_neg c1, if_pos (by omega)]; rfl
          · unfold fX12_rank_l51
            dsimp only
            rw [if_pos (by decide)]
            rfl
        · intro j hj
          have bj := pT_bd hf j
          have es : prk (c (41, 1, p)) (pT (c (41, 1, p)) w) (j + 1) = prk (c (41, 1, p)) (pT (c (41, 1, p)) w) j + if pT (c (41, 1, p)) w < pT (c (41, 1, p)) j then 1 else 0 := rfl
          unfold fX11_rank_l55 fX11_rank_b55_81
          dsimp only
          rw [if_neg (by rw [w32_n (by omega)]; omega), if_pos (zin_nat hj (by decide)), ix_nat (by omega), k2 j hj, w32_id (z := pT (c (41, 1, p)) j) (by omega) (by omega), wz, es]
          by_cases c1 : pT (c (41, 1, p)) j ≤ pT (c (41, 1, p)) w
          · rw [if_pos c1, if_neg (by omega), Int.add_zero]; rfl
          · rw [if_neg c1, if_pos (by omega)]; rfl
        · unfold fX11_rank_l55
          dsimp only
          rw [if_pos (by decide)]
          rfl
    · rw [if_neg c0, if_neg c0, h2, zb_some, if_neg (show ¬ w32 (-3) = 0 by decide)]
      exact ⟨_, _, _, rfl, rfl, sC.rf c, sM_th m 0⟩
