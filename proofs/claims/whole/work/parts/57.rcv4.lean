/-! THE RECEIVER: time, and a block that comes -/
theorem Rv.cg {L : Nat} {B : Int} {c c' : zMem} {g g' : Nat → Int} (h : Rv L B c g) (h1 : ∀ k, k ≠ 4 → k ≠ 5 → c' (9, L, 0) k = c (9, L, 0) k) (h2 : c' (39, L, 0) = c (39, L, 0)) (h3 : c' (40, L, 0) = c (40, L, 0)) (h4 : ∀ k, 55 ≤ k → k < 329 → k ≠ 64 → k ≠ 65 → k ≠ 70 → k ≠ 71 → g' k = g k) : Rv L B c' g' := by
  obtain ⟨a1, a2, a3, a4, a5, a6, a7, a8, a9, a10, a11⟩ := h
  have hp : psr g' = psr g := psr_cong (fun k hk => h4 _ (by omega) (by omega) (by omega) (by omega) (by omega) (by omega))
  have e55 := h4 55 (by decide) (by decide) (by decide) (by decide) (by decide) (by decide)
  have e66 := h4 66 (by decide) (by decide) (by decide) (by decide) (by decide) (by decide)
  refine ⟨by rw [e55]; exact a1, by rw [h1 3 (by decide) (by decide), e55]; exact a2, fun k hk => by rw [h2, h4 _ (by omega) (by omega) (by omega) (by omega) (by omega) (by omega)]; exact a3 k hk, by rw [h1 6 (by decide) (by decide), e66]; exact a4, by rw [e66]; exact a5, by rw [e66, hp]; exact a6, by rw [h1 7 (by decide) (by decide), h4 67 (by decide) (by decide) (by decide) (by decide) (by decide) (by decide)]; exact a7, by rw [h1 8 (by decide) (by decide), h4 68 (by decide) (by decide) (by decide) (by decide) (by decide) (by decide)]; exact a8, by rw [h1 9 (by decide) (by decide), h4 69 (by decide) (by decide) (by decide) (by decide) (by decide) (by decide)]; exact a9, by rw [h1 10 (by decide) (by decide), h4 72 (by decide) (by decide) (by decide) (by decide) (by decide) (by decide)]; exact a10, fun j hj hh => ?_⟩
  rw [h3, h4 _ (by omega) (by omega) (by omega) (by omega) (by omega) (by omega)]
  rw [e66] at hh
  exact a11 j hj hh
theorem Rv.mo {L : Nat} {B B' : Int} {c : zMem} {g : Nat → Int} (h : Rv L B c g) (hB : B ≤ B') : Rv L B' c g := by
  obtain ⟨a1, a2, a3, a4, a5, a6, a7⟩ := h
  exact ⟨a1, a2, a3, a4, a5, by omega, a7⟩
theorem Rt.cg {L : Nat} {c c' : zMem} {g g' : Nat → Int} (h : Rt L c g) (h4 : c' (9, L, 0) 4 = c (9, L, 0) 4) (h5 : c' (9, L, 0) 5 = c (9, L, 0) 5) (g5 : g' 55 = g 55) (g64 : g' 64 = g 64) (g65 : g' 65 = g 65) : Rt L c' g' := by
  unfold Rt at h ⊢
  rw [h4, h5, g5, g64, g65]; exact h
theorem r_passL {L : Nat} {B v : Int} (hB : B ≤ 1000000000) : ∀ (a N N' : Nat) (c m : zMem), Rv L B c (m (51, 0, 0)) → c (9, L, 0) 4 = 0 → 0 ≤ c (9, L, 0) 5 ∧ c (9, L, 0) 5 ≤ 8 → a ≤ 8 → (if a = 0 then m (51, 0, 0) 64 = -1 ∧ m (51, 0, 0) 65 = -1 else m (51, 0, 0) 64 = 0 ∧ m (51, 0, 0) 65 = (m (51, 0, 0) 55 + a) % 8) → a < N → a < N' → ∃ i' c' m', zlp (fX5_passTime_l31 L v) N ((a : Int), c) = some (i', c') ∧ zlp fX12_ticks_l34 N' m = some m' ∧ Rv L B c' (m' (51, 0, 0)) ∧ Rt L c' (m' (51, 0, 0)) ∧ sRc L c c' ∧ sRm m m' := by
  intro a
  induction a with
  | zero =>
    intro N N' c m h h4 h5 _ hg hN hN'
    obtain ⟨n, rfl⟩ : ∃ n, N = n + 1 := ⟨N - 1, by omega⟩
    obtain ⟨n', rfl⟩ : ∃ n, N' = n + 1 := ⟨N' - 1, by omega⟩
    rw [if_pos rfl] at hg
    refine ⟨0, c, m, zlp_out ?_, zlp_out ?_, h, Or.inl ⟨h4, hg.1, hg.2, h5.1, h5.2⟩, sRc.rf L c, sRm.rf m⟩
    · unfold fX5_passTime_l31
      dsimp only
      rw [if_pos (by decide)]; rfl
    · unfold fX12_ticks_l34
      rw [if_pos (by rw [hg.1]; decide)]
  | succ a ih =>
    intro N N' c m h h4 h5 ha hg hN hN'
    obtain ⟨n, rfl⟩ : ∃ n, N = n + 1 := ⟨N - 1, by omega⟩
    obtain ⟨n', rfl⟩ : ∃ n, N' = n + 1 := ⟨N' - 1, by omega⟩
    rw [if_neg (by omega)] at hg
    have e0 := h.1
    obtain ⟨c', m', c1, m1, hv, sc, sm, g55, gs, tc, tm⟩ := r_move h hB (by rw [h4]; decide) (by omega) (by rw [hg.1]; decide) (by rw [hg.2]; omega)
    unfold tC at tc
    unfold tM at tm
    rw [if_pos (by omega)] at tc
    rw [if_neg (by omega)] at tm
    obtain ⟨i', c2, m2, k1, k2, k3, k4, k5, k6⟩ := ih n n' c' m' hv (by omega) (by omega) (by omega) (by
      by_cases a0 : a = 0
      · rw [if_pos a0]
        rw [if_pos (by rw [hg.2, a0]; rfl)] at tm
        exact tm
      · rw [if_neg a0]
        rw [if_neg (by omega)] at tm
        exact ⟨by omega, by omega⟩) (by omega) (by omega)
    refine ⟨i', c2, m2, ?_, ?_, k3, k4, sc.tr k5, sm.tr k6⟩
    · rw [← k1]
      apply zlp_in
      unfold fX5_passTime_l31
      dsimp only
      rw [if_neg (by rw [w32_n (by omega)]; omega), c1, zb_some, show ((a + 1 : Nat) : Int) + -1 = (a : Int) by omega]
    · rw [← k2]
      apply zlp_in
      unfold fX12_ticks_l34
      rw [if_neg (by rw [hg.1]; decide), m1, zb_some]
theorem r_tick {L : Nat} {B v : Int} {c m : zMem} (h : Rv L B c (m (51, 0, 0))) (hB : B ≤ 1000000000) (t : Rt L c (m (51, 0, 0))) (hq : Rq (m (51, 0, 0))) (hv : m (51, 0, 0) 2 = v) (hv2 : 1 ≤ v ∧ v ≤ 60) : ∃ c' m', fX5_passTime L v c = some c' ∧ fX12_ticks m = some m' ∧ Rv L B c' (m' (51, 0, 0)) ∧ Rt L c' (m' (51, 0, 0)) ∧ sRc L c c' ∧ sRm m m' ∧ Rq (m' (51, 0, 0)) := by
  have e55 := h.1
  unfold fX5_passTime fX12_ticks
  dsimp only [zlet]
  rcases t with ⟨t1, t2, t3, t4, t5⟩ | ⟨t1, t2, t3, t4, t5, t6⟩
  · rw [if_pos (by rw [t1]; decide), if_pos (by rw [t2]; decide)]
    exact ⟨c, m, rfl, rfl, h, Or.inl ⟨t1, t2, t3, t4, t5⟩, sRc.rf L c, sRm.rf m, hq⟩
  · have w4 : ¬ w32 (c (9, L, 0) 4) = 0 := by rw [w32_id (by omega) (by omega)]; omega
    have w6 : ¬ w32 (m (51, 0, 0) 64) = -1 := by rw [t3, w32_id (by omega) (by omega)]; omega
    have r4 : zst c (9, L, 0) 4 (c (9, L, 0) 4 - 1) (9, L, 0) 4 = c (9, L, 0) 4 - 1 := zst_at
    have r5 : zst c (9, L, 0) 4 (c (9, L, 0) 4 - 1) (9, L, 0) 5 = c (9, L, 0) 5 := zst_nk (by decide)
    have r6 : zst m (51, 0, 0) 64 (m (51, 0, 0) 64 - 1) (51, 0, 0) 64 = c (9, L, 0) 4 - 1 := by rw [zst_at, t3]
    have r7 : zst m (51, 0, 0) 64 (m (51, 0, 0) 64 - 1) (51, 0, 0) 65 = m (51, 0, 0) 65 := zst_nk (by decide)
    have r8 : zst m (51, 0, 0) 64 (m (51, 0, 0) 64 - 1) (51, 0, 0) 55 = m (51, 0, 0) 55 := zst_nk (by decide)
    have w5 : w32 (c (9, L, 0) 4 - 1) = c (9, L, 0) 4 - 1 := w32_id (by omega) (by omega)
    have hV : Rv L B (zst c (9, L, 0) 4 (c (9, L, 0) 4 - 1)) (zst m (51, 0, 0) 64 (m (51, 0, 0) 64 - 1) (51, 0, 0)) := h.cg (fun k k4 k5 => zst_nk k4) (zst_nq (by simp)) (zst_nq (by simp)) (fun k a1 a2 a3 a4 a5 a6 => zst_nk a3)
    have sc : sRc L c (zst c (9, L, 0) 4 (c (9, L, 0) 4 - 1)) := fun q h1 h2 h3 => zst_nq h1
    have sm : sRm m (zst m (51, 0, 0) 64 (m (51, 0, 0) 64 - 1)) := ⟨fun q hq => zst_nq hq, fun k hk => zst_nk (by omega)⟩
    rw [if_neg w4, if_neg w6, r4, r6, w5, r5]
    by_cases c0 : c (9, L, 0) 4 - 1 ≤ 0
    · rw [if_pos c0, if_pos c0]
      obtain ⟨a, ea⟩ := nat_of (show 0 ≤ c (9, L, 0) 5 by omega)
      obtain ⟨i', c2, m2, k1, k2, k3, k4, k5, k6⟩ := r_passL (v := v) hB a 5000 5000 _ _ hV (by rw [r4]; omega) (by rw [r5]; omega) (by omega) (by rw [if_neg (by omega), r6, r7, r8, t6, ea]; exact ⟨by omega, rfl⟩) (by omega) (by omega)
      obtain ⟨c3, m3, l1, l2, l3, l4, l5, l6, l7⟩ := r_settle (v := v) k3 hB k4 (by rw [k6.2 2 (by decide), zst_nk (by decide)]; exact hv) hv2
      rw [ea, k1, zb_some, k2, zb_some, l1, zb_some, l2, zb_some]
      exact ⟨c3, m3, rfl, rfl, l3, l4, (sc.tr k5).tr l5, (sm.tr k6).tr l6, l7⟩
    · rw [if_neg c0, if_neg c0]
      exact ⟨_, _, rfl, rfl, hV, Or.inr ⟨by rw [r4]; omega, by rw [r4]; omega, by rw [r4, r6], by rw [r5]; exact t4, by rw [r5]; exact t5, by rw [r7, r8, r5]; exact t6⟩, sc, sm, hq.cg r8 (zst_nk (by omega))⟩
theorem m_b71 (a b : Int) (I : zMem) : fX12_comes_b71 a b I = fX12_givesAll I := by
  unfold fX12_comes_b71
  cases fX12_givesAll I <;> rfl
theorem r_comes {L : Nat} {B v w : Int} {c m : zMem} {sn : Nat} {load : Int} (h : Rv L B c (m (51, 0, 0))) (hB : B + 1 ≤ 1000000000) (t : Rt L c (m (51, 0, 0))) (hv : m (51, 0, 0) 2 = v) (hv2 : 1 ≤ v ∧ v ≤ 60) (hw : m (51, 0, 0) 1 = w) (hw2 : 1 ≤ w ∧ w ≤ 4) (s8 : sn < 8) (hl : 0 ≤ load ∧ load ≤ 31) : ∃ c1 c' m', fX5_shelve L (sn : Int) load w c = some c1 ∧ fX5_settle L v c1 = some c' ∧ fX12_comes (sn : Int) load m = some m' ∧ Rv L (B + 1) c' (m' (51, 0, 0)) ∧ Rt L c' (m' (51, 0, 0)) ∧ sRc L c c1 ∧ sRc L c c' ∧ sRm m m' ∧ Rq (m' (51, 0, 0)) := by
  have key : ∃ c1 m1, fX5_shelve L (sn : Int) load w c = some c1 ∧ fX12_comes (sn : Int) load m = fX12_givesAll m1 ∧ Rv L (B + 1) c1 (m1 (51, 0, 0)) ∧ Rt L c1 (m1 (51, 0, 0)) ∧ sRc L c c1 ∧ sRm m m1 := by
    unfold fX5_shelve fX5_fateOf fX12_comes fX12_past
    simp only [zlet_eq, m_b71]
    obtain ⟨e0, he, hs, hrest⟩ := h
    have hk := hs sn s8
    have wl : w32 (m (51, 0, 0) (56 + sn)) = m (51, 0, 0) (56 + sn) := w32_id (by omega) (by omega)
    have x1 : ix (56 + (sn : Int)) = 56 + sn := by rw [ix_of (by omega) (by omega)]; omega
    have wd : w32 (((sn : Int) - m (51, 0, 0) 55) % 8) = ((sn : Int) - m (51, 0, 0) 55) % 8 := w32_emod _ _ (by decide)
    have ww : w32 w = w := w32_id (by omega) (by omega)
    simp only [he, zb_some, wd, hw, ww, x1, wl, ix_nat (show sn < 2147483648 by omega), hk.1]
    by_cases c0 : ((sn : Int) - m (51, 0, 0) 55) % 8 < w
    · have z1 : zin (sn : Int) 8 := zin_nat s8 (by decide)
      have z2 : zin (56 + (sn : Int)) 3099 := zin_of (by omega) (by omega) (by decide)
      simp only [if_pos c0, if_pos z1, if_pos z2]
      by_cases c1 : m (51, 0, 0) (56 + sn) = -1
      · rw [if_pos c1, if_pos c1]
        refine ⟨zst c (39, L, 0) sn load, zst m (51, 0, 0) (56 + sn) load, ?_, rfl, ?_, t.cg (by rw [zst_nq (by simp)]) (by rw [zst_nq (by simp)]) (zst_nk (by omega)) (zst_nk (by omega)) (zst_nk (by omega)), fun q h1 h2 h3 => zst_nq h2, ⟨fun q hq => zst_nq hq, fun k hk => zst_nk (by omega)⟩⟩
        · by_cases c2 : ((sn : Int) - m (51, 0, 0) 55) % 8 = 0
          · rw [if_pos c2, zb_some, if_neg (by decide), if_neg (by decide)]
          · rw [if_neg c2, zb_some, if_neg (by decide), if_neg (by decide)]
        · obtain ⟨a4, a5, a6, a7, a8, a9, a10, a11⟩ := hrest
          have ep := psr_set (g := m (51, 0, 0)) (g' := zst m (51, 0, 0) (56 + sn) load (51, 0, 0)) s8 (fun k hk hne => zst_nk (by omega))
          rw [zst_at, if_pos c1, if_neg (by omega)] at ep
          refine ⟨by rw [zst_nk (by omega)]; exact e0, by rw [zst_nq (by simp), zst_nk (by omega)]; exact he, fun k hk => ?_, by rw [zst_nq (by simp), zst_nk (by omega)]; exact a4, by rw [zst_nk (by omega)]; exact a5, by rw [ep, zst_nk (by omega)]; omega, by rw [zst_nq (by simp), zst_nk (by omega)]; exact a7, by rw [zst_nq (by simp), zst_nk (by omega)]; exact a8, by rw [zst_nq (by simp), zst_nk (by omega)]; exact a9, by rw [zst_nq (by simp), zst_nk (by omega)]; exact a10, fun j hj hh => ?_⟩
          · by_cases e1 : k = sn
            · rw [e1, zst_at, zst_at]; exact ⟨rfl, by omega, by omega⟩
            · rw [zst_nk e1, zst_nk (by omega)]; exact hs k hk
          · rw [zst_nq (by simp), zst_nk (by omega)]
            rw [zst_nk (by omega)] at hh
            exact a11 j hj hh
      · rw [if_neg c1, if_neg c1, zb_some, if_neg (by decide), if_pos (by decide)]
        refine ⟨zst c (9, L, 0) 9 (c (9, L, 0) 9 + 1), zst m (51, 0, 0) 69 (m (51, 0, 0) 69 + 1), rfl, rfl, ?_, t.cg (zst_nk (by decide)) (zst_nk (by decide)) (zst_nk (by decide)) (zst_nk (by decide)) (zst_nk (by decide)), fun q h1 h2 h3 => zst_nq h1, ⟨fun q hq => zst_nq hq, fun k hk => zst_nk (by omega)⟩⟩
        obtain ⟨a4, a5, a6, a7, a8, a9, a10, a11⟩ := hrest
        have ep := psr_cong (g := m (51, 0, 0)) (g' := zst m (51, 0, 0) 69 (m (51, 0, 0) 69 + 1) (51, 0, 0)) (fun k hk => zst_nk (by omega))
        refine ⟨by rw [zst_nk (by decide)]; exact e0, by rw [zst_nk (by decide), zst_nk (by decide)]; exact he, fun k hk => by rw [zst_nq (by simp), zst_nk (by omega)]; exact hs k hk, by rw [zst_nk (by decide), zst_nk (by decide)]; exact a4, by rw [zst_nk (by decide)]; exact a5, by rw [ep, zst_nk (by decide)]; omega, by rw [zst_nk (by decide), zst_nk (by decide)]; exact a7, by rw [zst_nk (by decide), zst_nk (by decide)]; exact a8, by rw [zst_at, zst_at, a9], by rw [zst_nk (by decide), zst_nk (by decide)]; exact a10, fun j hj hh => ?_⟩
        rw [zst_nq (by simp), zst_nk (by omega)]
        rw [zst_nk (by decide)] at hh
        exact a11 j hj hh
    · rw [if_neg c0, if_neg c0, zb_some, if_pos (by decide)]
      refine ⟨zst c (9, L, 0) 8 (c (9, L, 0) 8 + 1), zst m (51, 0, 0) 68 (m (51, 0, 0) 68 + 1), rfl, rfl, ?_, t.cg (zst_nk (by decide)) (zst_nk (by decide)) (zst_nk (by decide)) (zst_nk (by decide)) (zst_nk (by decide)), fun q h1 h2 h3 => zst_nq h1, ⟨fun q hq => zst_nq hq, fun k hk => zst_nk (by omega)⟩⟩
      obtain ⟨a4, a5, a6, a7, a8, a9, a10, a11⟩ := hrest
      have ep := psr_cong (g := m (51, 0, 0)) (g' := zst m (51, 0, 0) 68 (m (51, 0, 0) 68 + 1) (51, 0, 0)) (fun k hk => zst_nk (by omega))
      refine ⟨by rw [zst_nk (by decide)]; exact e0, by rw [zst_nk (by decide), zst_nk (by decide)]; exact he, fun k hk => by rw [zst_nq (by simp), zst_nk (by omega)]; exact hs k hk, by rw [zst_nk (by decide), zst_nk (by decide)]; exact a4, by rw [zst_nk (by decide)]; exact a5, by rw [ep, zst_nk (by decide)]; omega, by rw [zst_nk (by decide), zst_nk (by decide)]; exact a7, by rw [zst_at, zst_at, a8], by rw [zst_nk (by decide), zst_nk (by decide)]; exact a9, by rw [zst_nk (by decide), zst_nk (by decide)]; exact a10, fun j hj hh => ?_⟩
      rw [zst_nq (by simp), zst_nk (by omega)]
      rw [zst_nk (by decide)] at hh
      exact a11 j hj hh
  obtain ⟨c1, m1, h1, h2, h3, h4, h5, h6⟩ := key
  obtain ⟨c2, m2, l1, l2, l3, l4, l5, l6, l7⟩ := r_settle (v := v) h3 hB h4 (by rw [h6.2 2 (by decide)]; exact hv) hv2
  exact ⟨c1, c2, m2, h1, l1, h2.trans l2, l3, l4, h5, h5.tr l5, h6.tr l6, l7⟩
