theorem P_against {c m : zMem} (hC : iCode c) (h : RE c m) {a b : Int} (ha : i32 a) (hb : i32 b) : ∃ r m', fX11_against a b c = some r ∧ fX12_against a b m = some (r, m') ∧ sM m m' := by
  unfold fX11_against fX12_against
  dsimp only [zlet]
  rw [v_isWord hb, zb_some]
  rcases P_refuse2 h ha with ⟨h1, h2⟩ | ⟨h1, h2, h3⟩
  · rw [h1, zb_some, h2, zb_some, if_pos w32_0, if_neg (show ¬ w32 (-2) = 0 by decide)]
    exact ⟨_, _, rfl, rfl, sM_th m 0⟩
  · rw [h1, zb_some, if_neg (show ¬ w32 1 = 0 by decide), m_isWord hb, vz]
    by_cases c0 : 0 ≤ b ∧ b ≤ 2047
    · rw [if_pos c0, if_pos c0]
      rcases h3 with ⟨h3, h4⟩ | ⟨p, rfl, p1, h3, hf, J, h4, h5, h6⟩
      · rw [h3, zb_some, h4, zb_some, if_neg (show ¬ w32 (-6) = 0 by decide), if_neg (show ¬ w32 (-6) = 0 by decide)]
        exact ⟨_, _, rfl, rfl, sM_th m 0⟩
      · obtain ⟨w, rfl⟩ := nat_of c0.1
        rw [h3, zb_some, h4, zb_some]
        dsimp only
        rw [if_pos w32_0, if_pos w32_0, if_pos (zin_of (by omega) (by omega) (by decide)), if_pos (zin_nat (by omega) (by decide)), ix_nat (n := p) (by omega), ix_nat (n := w) (by omega), hC.1 w (by omega), s_unlike hf (fun _ _ => rfl) w, zb_some, s_againstNow hf h6 (by omega), zb_some]
        exact ⟨_, _, rfl, rfl, h5⟩
    · rw [if_neg c0, if_neg c0, h2, zb_some, if_neg (show ¬ w32 (-3) = 0 by decide)]
      exact ⟨_, _, rfl, rfl, sM_th m 0⟩
