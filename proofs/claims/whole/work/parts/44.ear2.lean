/-! THE EARS, public, with a second argument -/
theorem P_refuse2 {c m : zMem} (h : RE c m) {a : Int} (ha : i32 a) : (∀ b, fX11_refuseEarAnd a b c = some (-2)) ∧ fX12_isProcess a (zst m (50, 0, 0) 0 0) = some 0 ∨ fX12_isProcess a (zst m (50, 0, 0) 0 0) = some 1 ∧ fX11_refuseEarAnd a 0 c = some (-3) ∧ ((fX11_refuseEarAnd a 1 c = some (-6) ∧ fX12_noSoft a (zst m (50, 0, 0) 0 0) = some (-6, zst m (50, 0, 0) 0 0)) ∨ ∃ p : Nat, a = (p : Int) ∧ p < 8 ∧ fX11_refuseEarAnd a 1 c = some 0 ∧ pbd (c (41, 1, p)) ∧ ∃ J, fX12_noSoft a (zst m (50, 0, 0) 0 0) = some (0, J) ∧ sM m J ∧ ∀ k, k < 39 → J (58, 0, 0) k = c (41, 1, p) k) := by
  obtain ⟨n, n1, n2, e1, e2, hp⟩ := h
  have e2' : zst m (50, 0, 0) 0 0 (51, 0, 0) = m (51, 0, 0) := zst_nq (by decide)
  have eI := m_isProcess (m := zst m (50, 0, 0) 0 0) n2 (by rw [e2']; exact e2) ha
  unfold fX11_refuseEarAnd fX12_noSoft
  rw [eI, v_isProcess n2 e1 ha, vz]
  by_cases h1 : 0 ≤ a ∧ a < (n : Int)
  · rw [if_pos (show 0 ≤ a ∧ a ≤ (n : Int) - 1 by omega)]
    refine Or.inr ⟨rfl, ?_, ?_⟩
    · rw [if_pos h1, if_pos w32_0]
    · obtain ⟨p, rfl⟩ := nat_of h1.1
      have hpp := hp p (by omega)
      have x : ix (329 + 88 * (p : Int) + 9) = 329 + 88 * p + 9 := by rw [ix_of (by omega) (by omega)]; omega
      unfold fX12_own
      rw [vz, if_pos h1, if_neg (show ¬ w32 1 = 0 by decide), zb_some, if_neg (show ¬ w32 1 = 0 by decide), zb_some, if_pos (zin_of (by omega) (by omega) (by decide)), if_pos (zin_of (by omega) (by omega) (by decide)), x, ix_nat (by omega), e2', hpp.2.1, w32_id (z := c (11, 1, p) 0) (by omega) (by omega)]
      by_cases h2 : c (11, 1, p) 0 = -1
      · rw [if_pos h2, if_pos h2, if_pos (by decide)]
        exact Or.inl ⟨rfl, rfl⟩
      · obtain ⟨J, j1, j2, j3⟩ := s_laysSoft (m := zst m (50, 0, 0) 0 0) (p := p) (by omega)
        rw [if_neg h2, if_neg h2, if_neg (by decide), j1, zb_some]
        exact Or.inr ⟨p, rfl, by omega, rfl, fun k hk => (hpp.2.2 k hk).2, J, rfl, fun q hq => by rw [j2 q (km_ne hq rfl), zst_nq (km_ne hq rfl)], fun k hk => by rw [j3 k hk, e2', (hpp.2.2 k hk).1]⟩
  · rw [if_neg (show ¬ (0 ≤ a ∧ a ≤ (n : Int) - 1) by omega)]
    exact Or.inl ⟨fun b => by rw [vz, if_neg h1], rfl⟩
theorem P_lean {c m : zMem} (hM : iCodeM m) (h : RE c m) {a b : Int} (ha : i32 a) (hb : i32 b) : ∃ r c' m', fX11_lean a b c = some (r, c') ∧ fX12_lean a b m = some (r, m') ∧ sC c c' ∧ sM m m' := by
  have wb : w32 b = b := w32_id hb.1 hb.2
  unfold fX11_lean fX11_lean_b16 fX11_lean_b17 fX12_lean
  dsimp only [zlet]
  simp only [wb]
  rcases P_refuse2 h ha with ⟨h1, h2⟩ | ⟨h1, h2, h3⟩
  · rw [h1, h1, zb_some, h2, zb_some, if_pos w32_0, if_neg (show ¬ w32 (-2) = 0 by decide)]
    refine ⟨_, c, _, ?_, rfl, sC.rf c, sM_th m 0⟩
    by_cases c1 : b < 0
    · rw [if_pos c1]; rfl
    · rw [if_neg c1]
      by_cases c2 : 11 ≤ b
      · rw [if_pos c2]; rfl
      · rw [if_neg c2]; rfl
  · rw [h1, zb_some, if_neg (show ¬ w32 1 = 0 by decide), v_within hb (by decide) (by decide), vz, h2, zb_some, if_neg (show ¬ w32 (-3) = 0 by decide)]
    by_cases c0 : 0 ≤ b ∧ b ≤ 10
    · rw [if_pos c0, if_neg (show ¬ b < 0 by omega), if_neg (show ¬ 11 ≤ b by omega)]
      rcases h3 with ⟨h3, h4⟩ | ⟨p, rfl, p1, h3, hf, J, h4, h5, h6⟩
      · rw [h3, zb_some, h4, zb_some, if_neg (show ¬ w32 (-6) = 0 by decide), if_neg (show ¬ w32 (-6) = 0 by decide)]
        exact ⟨_, _, _, rfl, rfl, sC.rf c, sM_th m 0⟩
      · obtain ⟨K, k1, k2, k3⟩ := s_sumAll (f := c (41, 1, p)) (q := (41, 1, p)) (by intro e; cases e) (I := c) (fun _ _ => rfl)
        obtain ⟨s, rfl⟩ := nat_of c0.1
        obtain ⟨x, x1, x2⟩ := great_eq hf k2 (hM.keep h5) h6 (st0 := s) (b := 1) (by omega) (by decide)
        obtain ⟨y, y1, y2⟩ := great_eq hf k2 (hM.keep h5) h6 (st0 := s) (b := 0) (by omega) (by decide)
        rw [h3, zb_some, h4, zb_some]
        dsimp only
        rw [if_pos w32_0, if_pos w32_0, if_pos (zin_of (by omega) (by omega) (by decide)), ix_nat (by omega), k1, zb_some, show fX2_greatestWith (10 - (s : Int)) 1 K = some x from x1, zb_some, show fX2_greatestWith (10 - (s : Int)) 0 K = some y from y1, zb_some, show fX12_greatestOf (s : Int) 1 J = some x from x2, zb_some, show fX12_greatestOf (s : Int) 0 J = some y from y2, zb_some]
        exact ⟨_, _, _, rfl, rfl, fun q hq => k3 q (kc_ne hq rfl) (kc_ne hq rfl), h5⟩
    · rw [if_neg c0]
      refine ⟨_, c, _, ?_, rfl, sC.rf c, sM_th m 0⟩
      by_cases c1 : b < 0
      · rw [if_pos c1]; rfl
      · rw [if_neg c1, if_pos (by omega)]; rfl
theorem s_sumRow {c : zMem} (hC : iCode c) {p w : Nat} (hw : w < 2048) : zlp (fX11_sum_l43 (p : Int) (w : Int) c p) 5000 (0, 0) = some (pT (c (41, 1, p)) w, 39) := by
  have hc := pcode_lt w
  have hh := zlp_0 (body := fX11_sum_l43 (p : Int) (w : Int) c p) (S := fun j => (zsm (fun k => psg (pcb w k) (c (41, 1, p) k)) j, (j : Int))) (r := (zsm (fun k => psg (pcb w k) (c (41, 1, p) k)) 39, 39)) 39 (N := 5000) (by decide) ?_ ?_
  · rw [pT_sum hw]; exact hh
  · intro j hj
    unfold fX11_sum_l43 fX11_sum_b43_83
    dsimp only [zlet]
    rw [if_neg (by rw [w32_n (by omega)]; omega), if_pos (zin_nat hw (by decide)), if_pos (zin_nat hj (by decide)), ix_nat (by omega), ix_nat (by omega), hC.1 w hw, s_isOne hc hj, vz, pcode_bit hj, zsm]
    unfold psg
    by_cases e : pcb w j = 1
    · rw [if_pos e, if_pos e, if_pos (zin_nat hj (by decide))]; rfl
    · rw [if_neg e, if_neg e]; rfl
  · unfold fX11_sum_l43
    dsimp only
    rw [if_pos (by decide)]
    rfl
theorem P_sum {c m : zMem} (hC : iCode c) (hM : iCodeM m) (h : RE c m) {a b : Int} (ha : i32 a) (hb : i32 b) : ∃ r m', fX11_sum a b c = some r ∧ fX12_sum a b m = some (r, m') ∧ sM m m' := by
  unfold fX11_sum fX12_sum
  dsimp only [zlet]
  rw [v_isWord hb, zb_some]
  rcases P_refuse2 h ha with ⟨h1, h2⟩ | ⟨h1, h2, h3⟩
  · rw [h1, zb_some, h2, zb_some, if_pos w32_0, if_neg (show ¬ w32 (-2) = 0 by decide)]
    exact ⟨_, _, rfl, rfl, sM_th m 0⟩
  · rw [h1, zb_some, if_neg (show ¬ w32 1 = 0 by decide), m_isWord hb, vz]
    by_cases c0 : 0 ≤ b ∧ b ≤ 2047
    · rw [if_pos c0, if_pos c0]
      rcases h3 with ⟨h3, h4⟩ | ⟨p, rfl, p1, h3, hf, J, h4, h5, h6⟩
      · rw [h3, zb_some, h4, zb_some, if_neg (show ¬ w32 (-6) = 0 by decide), if_neg (show ¬ w32 (-6) = 0 by decide)]
        exact ⟨_, _, rfl, rfl, sM_th m 0⟩
      · obtain ⟨w, rfl⟩ := nat_of c0.1
        rw [h3, zb_some, h4, zb_some]
        dsimp only
        rw [if_pos w32_0, if_pos w32_0, if_pos (zin_of (by omega) (by omega) (by decide)), ix_nat (by omega), s_sumRow hC (by omega), zb_some, s_sumNow (hM.keep h5) h6 (by omega), zb_some]
        exact ⟨_, _, rfl, rfl, h5⟩
    · rw [if_neg c0, if_neg c0, h2, zb_some, if_neg (show ¬ w32 (-3) = 0 by decide)]
      exact ⟨_, _, rfl, rfl, sM_th m 0⟩
