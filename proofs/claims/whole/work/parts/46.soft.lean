/-! SOFT -/
theorem P_soft {c m : zMem} (h : RE c m) {a b : Int} (ha : i32 a) (hb : i32 b) : ∃ r m', fX11_soft a b c = some r ∧ fX12_soft a b m = some (r, m') ∧ sM m m' := by
  have wb : w32 b = b := w32_id hb.1 hb.2
  unfold fX11_soft fX12_soft
  dsimp only [zlet]
  rcases P_refuse h ha with ⟨r, h1, h2, h3⟩ | ⟨p, rfl, p1, h2, hf, J, h3, h4, h5⟩
  · rw [h2, zb_some, h3, zb_some, if_neg h1, if_neg h1]
    exact ⟨_, _, rfl, rfl, sM_th m 0⟩
  · rw [h2, zb_some, h3, zb_some]
    dsimp only
    rw [if_pos w32_0, if_pos w32_0]
    by_cases c0 : 0 ≤ b ∧ b ≤ 38
    · obtain ⟨k, rfl⟩ := nat_of c0.1
      have e : fX12_within (w32 (k : Int)) 0 38 = some (if 0 ≤ (k : Int) ∧ (k : Int) ≤ 38 then 1 else 0) := by rw [wb]; exact v_within hb (by decide) (by decide)
      rw [if_neg (by rw [wb]; omega), if_pos (by rw [wb]; omega), e, vz, if_pos c0, if_pos (zin_of (by omega) (by omega) (by decide)), if_pos (zin_nat (by omega) (by decide)), if_pos (zin_nat (by omega) (by decide)), ix_nat (by omega), ix_nat (by omega), h5 k (by omega)]
      exact ⟨_, _, rfl, rfl, h4⟩
    · refine ⟨-99000007, J, ?_, ?_, h4⟩
      · by_cases c1 : b < 0
        · rw [if_pos (by rw [wb]; exact c1)]
        · rw [if_neg (by rw [wb]; exact c1), if_neg (by rw [wb]; omega)]
      · have e := v_within hb (lo := 0) (hi := 38) (by decide) (by decide)
        simp only [wb]
        rw [e, vz, if_neg c0]
