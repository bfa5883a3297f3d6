/-! THE EARS, public -/
def RE (c m : zMem) : Prop := ∃ n : Nat, 1 ≤ n ∧ n ≤ 8 ∧ c (7, 1, 0) 0 = (n : Int) ∧ m (51, 0, 0) 0 = (n : Int) ∧ ∀ p, p < n → (-1 ≤ c (11, 1, p) 0 ∧ c (11, 1, p) 0 ≤ 1) ∧ m (51, 0, 0) (329 + 88 * p + 9) = (if c (11, 1, p) 0 = -1 then 0 else 1) ∧ ∀ k, k < 39 → m (51, 0, 0) (329 + 88 * p + 10 + k) = c (41, 1, p) k ∧ -9999 ≤ c (41, 1, p) k ∧ c (41, 1, p) k ≤ 9999
theorem v_isProcess {c : zMem} {n : Nat} (hn : n ≤ 8) (e : c (7, 1, 0) 0 = (n : Int)) {a : Int} (ha : i32 a) : fX11_isProcess a c = some (if 0 ≤ a ∧ a < (n : Int) then 1 else 0) := by
  unfold fX11_isProcess fX11_isProcess_b19
  rw [w32_id ha.1 ha.2, e, w32_n (by omega)]
  by_cases h1 : a < 0
  · rw [if_pos h1, if_neg (by omega)]
  · rw [if_neg h1]
    by_cases h2 : (n : Int) ≤ a
    · rw [if_pos h2, if_neg (by omega)]
    · rw [if_neg h2, if_pos (by omega)]
theorem m_isProcess {m : zMem} {n : Nat} (hn : n ≤ 8) (e : m (51, 0, 0) 0 = (n : Int)) {a : Int} (ha : i32 a) : fX12_isProcess a m = some (if 0 ≤ a ∧ a ≤ (n : Int) - 1 then 1 else 0) := by
  unfold fX12_isProcess
  rw [w32_id ha.1 ha.2, e, w32_id (z := (n : Int) - 1) (by omega) (by omega), v_within ha (by decide) (by omega), vbo]
theorem s_laysSoft {m : zMem} {p : Nat} (hp : p < 8) : ∃ J, fX12_laysSoft (p : Int) m = some J ∧ (∀ q, q ≠ (58, 0, 0) → J q = m q) ∧ ∀ k, k < 39 → J (58, 0, 0) k = m (51, 0, 0) (329 + 88 * p + 10 + k) := by
  unfold fX12_laysSoft
  have hh := zlp_inv (body := fX12_laysSoft_l2 (p : Int)) (fun j st => st.1 = (j : Int) ∧ (∀ q, q ≠ (58, 0, 0) → st.2 q = m q) ∧ ∀ k, k < j → st.2 (58, 0, 0) k = m (51, 0, 0) (329 + 88 * p + 10 + k)) (fun st => (∀ q, q ≠ (58, 0, 0) → st.2 q = m q) ∧ ∀ k, k < 39 → st.2 (58, 0, 0) k = m (51, 0, 0) (329 + 88 * p + 10 + k)) 39 (N := 5000) (by decide) (s0 := (0, m)) ⟨rfl, fun _ _ => rfl, fun k h => absurd h (Nat.not_lt_zero k)⟩ ?_ ?_
  · obtain ⟨R, hr, r1, r2⟩ := hh
    rw [hr, zb_some]
    exact ⟨_, rfl, r1, r2⟩
  · rintro j ⟨t1, J⟩ hj ⟨a1, a2, a3⟩
    dsimp only at a1 a2 a3
    subst a1
    have x : ix (329 + 88 * (p : Int) + 10 + (j : Int)) = 329 + 88 * p + 10 + j := by rw [ix_of (by omega) (by omega)]; omega
    unfold fX12_laysSoft_l2 fX12_own
    dsimp only [zlet]
    rw [if_neg (by rw [w32_n (by omega)]; omega), zb_some, if_pos (zin_of (by omega) (by omega) (by decide)), if_pos (zin_of (by omega) (by omega) (by decide)), x, ix_nat (by omega), a2 _ (by decide)]
    refine Or.inl ⟨_, rfl, by dsimp only; omega, fun q hq => by dsimp only; rw [zst_nq hq, a2 q hq], fun k hk => ?_⟩
    dsimp only
    by_cases e : k = j
    · subst e; exact zst_at
    · rw [zst_nk e]; exact a3 k (by omega)
  · rintro ⟨t1, J⟩ ⟨a1, a2, a3⟩
    dsimp only at a1 a2 a3
    subst a1
    unfold fX12_laysSoft_l2
    dsimp only
    rw [if_pos (by decide)]
    exact ⟨_, rfl, a2, a3⟩
/-- refused alike, or a soft row laid -/
theorem P_refuse {c m : zMem} (h : RE c m) {a : Int} (ha : i32 a) : (∃ r, w32 r ≠ 0 ∧ fX11_refuseEar a c = some r ∧ fX12_noSoft a (zst m (50, 0, 0) 0 0) = some (r, zst m (50, 0, 0) 0 0)) ∨ ∃ p : Nat, a = (p : Int) ∧ p < 8 ∧ fX11_refuseEar a c = some 0 ∧ pbd (c (41, 1, p)) ∧ ∃ J, fX12_noSoft a (zst m (50, 0, 0) 0 0) = some (0, J) ∧ sM m J ∧ ∀ k, k < 39 → J (58, 0, 0) k = c (41, 1, p) k := by
  obtain ⟨n, n1, n2, e1, e2, hp⟩ := h
  have e2' : zst m (50, 0, 0) 0 0 (51, 0, 0) = m (51, 0, 0) := zst_nq (by decide)
  unfold fX11_refuseEar fX11_refuseEarAnd fX12_noSoft
  rw [v_isProcess n2 e1 ha, vz, m_isProcess n2 (by rw [e2']; exact e2) ha, vz]
  by_cases h1 : 0 ≤ a ∧ a < (n : Int)
  · rw [if_pos h1, if_pos (show 0 ≤ a ∧ a ≤ (n : Int) - 1 by omega), if_neg (show ¬ w32 1 = 0 by decide)]
    obtain ⟨p, rfl⟩ := nat_of h1.1
    have hpp := hp p (by omega)
    have x : ix (329 + 88 * (p : Int) + 9) = 329 + 88 * p + 9 := by rw [ix_of (by omega) (by omega)]; omega
    unfold fX12_own
    rw [zb_some, if_pos (zin_of (by omega) (by omega) (by decide)), if_pos (zin_of (by omega) (by omega) (by decide)), x, ix_nat (by omega), e2', hpp.2.1, w32_id (z := c (11, 1, p) 0) (by omega) (by omega)]
    by_cases h2 : c (11, 1, p) 0 = -1
    · rw [if_pos h2, if_pos h2, if_pos (by decide), zb_some]
      exact Or.inl ⟨_, by decide, rfl, rfl⟩
    · obtain ⟨J, j1, j2, j3⟩ := s_laysSoft (m := zst m (50, 0, 0) 0 0) (p := p) (by omega)
      rw [if_neg h2, if_neg h2, if_neg (by decide), zb_some, j1, zb_some]
      exact Or.inr ⟨p, rfl, by omega, rfl, fun k hk => (hpp.2.2 k hk).2, J, rfl, fun q hq => by rw [j2 q (km_ne hq rfl), zst_nq (km_ne hq rfl)], fun k hk => by rw [j3 k hk, e2', (hpp.2.2 k hk).1]⟩
  · rw [if_neg h1, if_neg (show ¬ (0 ≤ a ∧ a ≤ (n : Int) - 1) by omega), zb_some]
    exact Or.inl ⟨_, by decide, rfl, rfl⟩
theorem P_best {c m : zMem} (h : RE c m) {a : Int} (ha : i32 a) : ∃ r c' m', fX11_best a c = some (r, c') ∧ fX12_best a m = some (r, m') ∧ sC c c' ∧ sM m m' := by
  unfold fX11_best fX12_best
  dsimp only [zlet]
  rcases P_refuse h ha with ⟨r, h1, h2, h3⟩ | ⟨p, rfl, p1, h2, hf, J, h3, h4, h5⟩
  · rw [h2, zb_some, h3, zb_some, if_neg h1, if_neg h1]
    exact ⟨_, _, _, rfl, rfl, sC.rf c, sM_th m 0⟩
  · obtain ⟨r, K, k1, k2, k3⟩ := s_bestWord hf (q := (41, 1, p)) (by intro e; cases e) (I := c) (fun _ _ => rfl)
    obtain ⟨r', L, l1, l2, l3⟩ := s_bestNow hf (I := J) h5
    have e := pbest_one l2 k2
    subst e
    rw [h2, zb_some, h3, zb_some]
    dsimp only
    rw [if_pos w32_0, if_pos w32_0, if_pos (zin_of (by omega) (by omega) (by decide)), ix_nat (by omega), k1, zb_some, l1, zb_some]
    exact ⟨_, _, _, rfl, rfl, fun q hq => k3 q (kc_ne hq rfl) (kc_ne hq rfl) (kc_ne hq rfl) (kc_ne hq rfl) (kc_ne hq rfl), h4.tr fun q hq => l3 q (km_ne hq rfl) (km_ne hq rfl) (km_ne hq rfl) (km_ne hq rfl)⟩
theorem P_second {c m : zMem} (hM : iCodeM m) (h : RE c m) {a : Int} (ha : i32 a) : ∃ r c' m', fX11_second a c = some (r, c') ∧ fX12_second a m = some (r, m') ∧ sC c c' ∧ sM m m' := by
  unfold fX11_second fX12_second
  dsimp only [zlet]
  rcases P_refuse h ha with ⟨r, h1, h2, h3⟩ | ⟨p, rfl, p1, h2, hf, J, h3, h4, h5⟩
  · rw [h2, zb_some, h3, zb_some, if_neg h1, if_neg h1]
    exact ⟨_, _, _, rfl, rfl, sC.rf c, sM_th m 0⟩
  · obtain ⟨K, k1, k2, k3⟩ := s_sumAll (f := c (41, 1, p)) (q := (41, 1, p)) (by intro e; cases e) (I := c) (fun _ _ => rfl)
    obtain ⟨b, b1, b2⟩ := s_greatestBut hf k2 (x := -1) (by decide)
    obtain ⟨r', L, l1, l2, l3⟩ := s_bestNow hf (I := J) h5
    have e := pbest_one l2 (pbut_best b2)
    subst e
    have sL : sM J L := fun q hq => l3 q (km_ne hq rfl) (km_ne hq rfl) (km_ne hq rfl) (km_ne hq rfl)
    have rb : -1 ≤ r' ∧ r' < 2048 := by
      obtain ⟨w, rfl, w1, -⟩ := l2; omega
    obtain ⟨d, d1, d2⟩ := s_greatestBut hf k2 rb
    obtain ⟨d', d3, d4⟩ := s_secondNow hf (m := L) ((hM.keep h4).keep sL) (fun k hk => by rw [l3 _ (by decide) (by decide) (by decide) (by decide)]; exact h5 k hk) rb
    have e := pbut_one d4 d2
    subst e
    rw [h2, zb_some, h3, zb_some]
    dsimp only
    rw [if_pos w32_0, if_pos w32_0, if_pos (zin_of (by omega) (by omega) (by decide)), ix_nat (by omega), k1, zb_some, b1, zb_some, d1, zb_some, l1, zb_some]
    dsimp only
    rw [d3, zb_some]
    exact ⟨_, _, _, rfl, rfl, fun q hq => k3 q (kc_ne hq rfl) (kc_ne hq rfl), h4.tr sL⟩
theorem P_margin {c m : zMem} (hM : iCodeM m) (h : RE c m) {a : Int} (ha : i32 a) : ∃ r c' m', fX11_margin a c = some (r, c') ∧ fX12_margin a m = some (r, m') ∧ sC c c' ∧ sM m m' := by
  unfold fX11_margin fX12_margin
  dsimp only [zlet]
  rcases P_refuse h ha with ⟨r, h1, h2, h3⟩ | ⟨p, rfl, p1, h2, hf, J, h3, h4, h5⟩
  · rw [h2, zb_some, h3, zb_some, if_neg h1, if_neg h1]
    exact ⟨_, _, _, rfl, rfl, sC.rf c, sM_th m 0⟩
  · obtain ⟨K, k1, k2, k3⟩ := s_sumAll (f := c (41, 1, p)) (q := (41, 1, p)) (by intro e; cases e) (I := c) (fun _ _ => rfl)
    obtain ⟨b, b1, b2⟩ := s_greatestBut hf k2 (x := -1) (by decide)
    obtain ⟨r', L, l1, l2, l3⟩ := s_bestNow hf (I := J) h5
    have e := pbest_one l2 (pbut_best b2)
    subst e
    have sL : sM J L := fun q hq => l3 q (km_ne hq rfl) (km_ne hq rfl) (km_ne hq rfl) (km_ne hq rfl)
    obtain ⟨w, rfl, w1, -⟩ := l2
    have hCL := (hM.keep h4).keep sL
    have hSL : ∀ k, k < 39 → L (58, 0, 0) k = c (41, 1, p) k := fun k hk => by rw [l3 _ (by decide) (by decide) (by decide) (by decide)]; exact h5 k hk
    obtain ⟨d, d1, d2⟩ := s_greatestBut hf k2 (x := (w : Int)) (by omega)
    obtain ⟨d', d3, d4⟩ := s_secondNow hf (m := L) hCL hSL (x := (w : Int)) (by omega)
    have e := pbut_one d4 d2
    subst e
    obtain ⟨v, rfl, v1, -⟩ := d4
    rw [h2, zb_some, h3, zb_some]
    dsimp only
    rw [if_pos w32_0, if_pos w32_0, if_pos (zin_of (by omega) (by omega) (by decide)), ix_nat (by omega), k1, zb_some, b1, zb_some, if_pos (zin_nat w1 (by decide)), d1, zb_some, if_pos (zin_nat v1 (by decide)), ix_nat (by omega), ix_nat (by omega), k2 w w1, k2 v v1, l1, zb_some]
    dsimp only
    rw [s_sumNow hCL hSL w1, zb_some, d3, zb_some, s_sumNow hCL hSL v1, zb_some]
    exact ⟨_, _, _, rfl, rfl, fun q hq => k3 q (kc_ne hq rfl) (kc_ne hq rfl), h4.tr sL⟩
