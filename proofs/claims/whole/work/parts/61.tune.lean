/-! HEARING: the toggle -/
theorem m_own {p o : Nat} (ho : o = 329 + 88 * p) : fX12_own (p : Int) = some (o : Int) := by
  unfold fX12_own
  exact congrArg some (by omega)
theorem m_zero {o : Nat} {m : zMem} (ho : 329 ≤ o ∧ o ≤ 945) (a b d : Int) : ∃ i' K, zlp (fX12_hears_l24 a b d (o : Int)) 5000 (0, m) = some (i', K) ∧ (∀ q, q ≠ (51, 0, 0) → K q = m q) ∧ (∀ k, k < o + 10 ∨ o + 49 ≤ k → K (51, 0, 0) k = m (51, 0, 0) k) ∧ ∀ k, k < 39 → K (51, 0, 0) (o + 10 + k) = 0 := by
  have hh := zlp_inv (body := fX12_hears_l24 a b d (o : Int)) (fun j st => st.1 = (j : Int) ∧ (∀ q, q ≠ (51, 0, 0) → st.2 q = m q) ∧ (∀ k, k < o + 10 ∨ o + 49 ≤ k → st.2 (51, 0, 0) k = m (51, 0, 0) k) ∧ ∀ k, k < j → st.2 (51, 0, 0) (o + 10 + k) = 0) (fun st => (∀ q, q ≠ (51, 0, 0) → st.2 q = m q) ∧ (∀ k, k < o + 10 ∨ o + 49 ≤ k → st.2 (51, 0, 0) k = m (51, 0, 0) k) ∧ ∀ k, k < 39 → st.2 (51, 0, 0) (o + 10 + k) = 0) 39 (N := 5000) (by decide) (s0 := (0, m)) ⟨rfl, fun _ _ => rfl, fun _ _ => rfl, fun k hk => absurd hk (Nat.not_lt_zero k)⟩ ?_ ?_
  · obtain ⟨⟨i', K⟩, hr, r1, r2, r3⟩ := hh
    exact ⟨i', K, hr, r1, r2, r3⟩
  · rintro j ⟨t1, K⟩ hj ⟨a1, a2, a4, a3⟩
    dsimp only at a1 a2 a3 a4
    subst a1
    have xs : ix ((o : Int) + 10 + (j : Int)) = o + 10 + j := by rw [ix_of (by omega) (by omega)]; omega
    unfold fX12_hears_l24
    simp only [zlet_eq]
    rw [if_neg (by rw [w32_n (by omega)]; omega), if_pos (zin_of (by omega) (by omega) (by decide)), xs]
    refine Or.inl ⟨_, rfl, by dsimp only; omega, fun q hq => by dsimp only; rw [zst_nq hq, a2 q hq], fun k hk => by dsimp only; rw [zst_nk (by omega)]; exact a4 k hk, fun k hk => ?_⟩
    dsimp only
    by_cases c0 : k = j
    · subst c0; rw [zst_at]
    · rw [zst_nk (by omega)]; exact a3 k (by omega)
  · rintro ⟨t1, K⟩ ⟨a1, a2, a4, a3⟩
    dsimp only at a1 a2 a3 a4
    subst a1
    unfold fX12_hears_l24
    dsimp only
    rw [if_pos (by decide)]
    exact ⟨_, rfl, a2, a4, a3⟩
theorem c_earBegin {L p : Nat} (tg : Int) (c : zMem) : ∃ K, fX3_begin L p tg c = some K ∧ (∀ q, q ≠ (11, L, p) → q ≠ (41, L, p) → K q = c q) ∧ K (11, L, p) 0 = tg ∧ K (11, L, p) 1 = 0 ∧ K (11, L, p) 2 = 0 ∧ ∀ k, k < 39 → K (41, L, p) k = 0 := by
  unfold fX3_begin
  simp only [zlet_eq]
  rw [s_fillI _ (by decide), zb_some]
  refine ⟨_, rfl, fun q a1 a2 => by rw [zmp_ne a2, zst_nq a1, zst_nq a1, zst_nq a1], by rw [zmp_ne (by simp), zst_nk (by decide), zst_nk (by decide), zst_at], by rw [zmp_ne (by simp), zst_nk (by decide), zst_at], by rw [zmp_ne (by simp), zst_at], fun k hk => zmp_in hk⟩
theorem r_hear {L p o len : Nat} {B tg : Int} {c m : zMem} {sq v : Nat → Int} (hp : p < 8) (ho : o = 329 + 88 * p) (htg : 0 ≤ tg ∧ tg ≤ 1) (h : RK L B c (m (51, 0, 0))) (hB : B + 1 ≤ 1000000000) (hlen : len ≤ 60) (hrow : ∀ i, i < len → c (20, 0, 0) i = sq i ∧ 0 ≤ sq i ∧ sq i ≤ 38) (hrowM : ∀ i, i < len → m (56, 0, 0) i = sq i) (hv : ∀ i, i < len → c (28, 0, 0) i = v i ∧ -1000 ≤ v i ∧ v i ≤ 1000) (hvM : ∀ i, i < len → m (63, 0, 0) i = v i) : ∃ r c' m', fX0_hear L (p : Int) tg (len : Int) c = some (r, c') ∧ fX12_hears (p : Int) tg (len : Int) m = some m' ∧ RK L (B + 1) c' (m' (51, 0, 0)) ∧ sK (PH L p) c c' ∧ sJ (GH o) m m' ∧ r = m' (51, 0, 0) (o + 8) := by
  have hr := h.2.2.2.2.2 p hp
  rw [← ho] at hr
  obtain ⟨⟨b1, b2, b3⟩, b4, ⟨b5, b6, b7⟩, b8, b9⟩ := hr
  have x6 : ix ((o : Int) + 6) = o + 6 := io o 6 (by omega)
  have z6 : zin ((o : Int) + 6) 3099 := zo o 6 (by omega)
  have x7 : ix ((o : Int) + 7) = o + 7 := io o 7 (by omega)
  have z7 : zin ((o : Int) + 7) 3099 := zo o 7 (by omega)
  have x8 : ix ((o : Int) + 8) = o + 8 := io o 8 (by omega)
  have z8 : zin ((o : Int) + 8) 3099 := zo o 8 (by omega)
  have x9 : ix ((o : Int) + 9) = o + 9 := io o 9 (by omega)
  have z9 : zin ((o : Int) + 9) 3099 := zo o 9 (by omega)
  have xp : ix (p : Int) = p := ix_nat (by omega)
  have ws : w32 (m (51, 0, 0) (o + 6)) = m (51, 0, 0) (o + 6) := w32_id (by omega) (by omega)
  have wt : w32 tg = tg := w32_id (by omega) (by omega)
  unfold fX0_hear fX12_hears
  simp only [zlet_eq, m_own ho, zb_some, xp, x6, x7, x8, x9, b1, ws, wt]
  rw [if_pos (zin_nat hp (by decide)), if_pos z6]
  by_cases c0 : m (51, 0, 0) (o + 6) = tg
  · rw [if_pos c0, if_pos c0]
    exact r_hearB hp ho h hB hlen hrow hrowM hv hvM
  · obtain ⟨K, k1, k2, k3, k4, k5, k6⟩ := c_earBegin (L := L) (p := p) tg c
    obtain ⟨i', M, l1, l2, l3, l4⟩ := m_zero (o := o) (m := m) (by omega) (p : Int) tg (len : Int)
    rw [if_neg c0, if_neg c0, k1, zb_some, l1, zb_some]
    dsimp only
    rw [if_pos z9, if_pos z7, if_pos z8]
    have hM : ∀ q, q ≠ (51, 0, 0) → zst (zst (zst (zst M (51, 0, 0) (o + 9) 1) (51, 0, 0) (o + 7) 0) (51, 0, 0) (o + 8) 0) (51, 0, 0) (o + 6) tg q = m q := fun q hq => by rw [zst_nq hq, zst_nq hq, zst_nq hq, zst_nq hq, l2 q hq]
    have hG : ∀ k, k < o + 6 ∨ o + 49 ≤ k → zst (zst (zst (zst M (51, 0, 0) (o + 9) 1) (51, 0, 0) (o + 7) 0) (51, 0, 0) (o + 8) 0) (51, 0, 0) (o + 6) tg (51, 0, 0) k = m (51, 0, 0) k := fun k hk => by rw [zst_nk (by omega), zst_nk (by omega), zst_nk (by omega), zst_nk (by omega), l3 k (by omega)]
    obtain ⟨r, c', m', e1, e2, e3, e4, e5, e6⟩ := r_hearB (tg := tg) (c := K) (m := zst (zst (zst (zst M (51, 0, 0) (o + 9) 1) (51, 0, 0) (o + 7) 0) (51, 0, 0) (o + 8) 0) (51, 0, 0) (o + 6) tg) hp ho (h.ear (p := p) (by
      rw [← ho]
      refine ⟨by rw [k3, zst_at]; omega, by rw [k4, zst_nk (by omega), zst_nk (by omega), zst_at], by rw [k5, zst_nk (by omega), zst_at]; decide, by rw [zst_nk (by omega), zst_nk (by omega), zst_nk (by omega), zst_at, zst_at, if_neg (by omega)], fun k hk => ?_⟩
      rw [k6 k hk, zst_nk (by omega), zst_nk (by omega), zst_nk (by omega), zst_nk (by omega), l4 k hk]; decide) (fun q a1 a2 => k2 q (fun e => a2 (Or.inl e)) (fun e => a2 (Or.inr e))) (fun k hk => hG k (by omega))) hB hlen (fun i hi => by rw [k2 _ (by simp) (by simp)]; exact hrow i hi) (fun i hi => by rw [hM _ (by simp)]; exact hrowM i hi) (fun i hi => by rw [k2 _ (by simp) (by simp)]; exact hv i hi) (fun i hi => by rw [hM _ (by simp)]; exact hvM i hi)
    refine ⟨r, c', m', e1, e2, e3, ?_, ?_, e6⟩
    · exact sK.tr (fun q a1 a2 => k2 q (fun e => a2 (Or.inr (Or.inr (Or.inr (Or.inl e))))) (fun e => a2 (Or.inr (Or.inr (Or.inr (Or.inr e)))))) e4
    · exact sJ.tr ⟨fun q hq => hM q (kn_ne hq rfl), fun k hk => hG k (by unfold GH at hk; omega)⟩ e5
