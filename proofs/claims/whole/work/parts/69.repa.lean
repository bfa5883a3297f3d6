/-! REPORTS: what is kept, and the slots -/
theorem m_base {m : zMem} {b e : Nat} (hb : m (51, 0, 0) 29 = b) (b8 : b < 8) (he : m (51, 0, 0) 55 = e) (e8 : e < 8) : ∃ M, zlp fX12_reports_l42 5000 m = some M ∧ (∀ q, q ≠ (51, 0, 0) → M q = m q) ∧ (∀ k, k ≠ 29 → k < 39 ∨ 47 ≤ k → M (51, 0, 0) k = m (51, 0, 0) k) ∧ M (51, 0, 0) 29 = e ∧ ∀ s : Nat, s < 8 → M (51, 0, 0) (39 + s) = if ((s : Int) - b) % 8 < ((e : Int) - b) % 8 then -1 else m (51, 0, 0) (39 + s) := by
  obtain ⟨t, et⟩ := nat_of (show 0 ≤ ((e : Int) - b) % 8 by omega)
  have hh := zlp_inv (body := fX12_reports_l42) (fun j st => (∀ q, q ≠ (51, 0, 0) → st q = m q) ∧ (∀ k, k ≠ 29 → k < 39 ∨ 47 ≤ k → st (51, 0, 0) k = m (51, 0, 0) k) ∧ st (51, 0, 0) 29 = ((b : Int) + j) % 8 ∧ ∀ s : Nat, s < 8 → st (51, 0, 0) (39 + s) = if ((s : Int) - b) % 8 < (j : Int) then -1 else m (51, 0, 0) (39 + s)) (fun st => (∀ q, q ≠ (51, 0, 0) → st q = m q) ∧ (∀ k, k ≠ 29 → k < 39 ∨ 47 ≤ k → st (51, 0, 0) k = m (51, 0, 0) k) ∧ st (51, 0, 0) 29 = e ∧ ∀ s : Nat, s < 8 → st (51, 0, 0) (39 + s) = if ((s : Int) - b) % 8 < ((e : Int) - b) % 8 then -1 else m (51, 0, 0) (39 + s)) t (N := 5000) (by omega) (s0 := m) ⟨fun _ _ => rfl, fun _ _ _ => rfl, by rw [hb]; omega, fun s hs => by rw [if_neg (by omega)]⟩ ?_ ?_
  · exact hh
  · rintro j M hj ⟨a1, a2, a3, a4⟩
    obtain ⟨x, ex⟩ := nat_of (show 0 ≤ ((b : Int) + j) % 8 by omega)
    have x8 : x < 8 := by omega
    have e55 : M (51, 0, 0) 55 = e := by rw [a2 55 (by decide) (by decide), he]
    have x39 : ix (39 + (x : Int)) = 39 + x := by rw [ix_of (by omega) (by omega)]; omega
    have r29 : zst M (51, 0, 0) (39 + x) (-1) (51, 0, 0) 29 = x := by rw [zst_nk (by omega), a3, ex]
    have a3' : M (51, 0, 0) 29 = x := by rw [a3, ex]
    unfold fX12_reports_l42
    simp only [zlet_eq, a3', e55, x39, r29]
    rw [if_neg (by rw [w32_n (by omega), w32_n (by omega)]; omega), if_pos (zin_of (by omega) (by omega) (by decide))]
    refine Or.inl ⟨_, rfl, fun q hq => by rw [zst_nq hq, zst_nq hq, a1 q hq], fun k k1 k2 => by rw [zst_nk (by omega), zst_nk (by omega)]; exact a2 k k1 k2, by rw [zst_at]; omega, fun s hs => ?_⟩
    rw [zst_nk (by omega)]
    by_cases es : s = x
    · subst es; rw [zst_at, if_pos (by omega)]
    · rw [zst_nk (by omega), a4 s hs]
      by_cases c0 : ((s : Int) - b) % 8 < (j : Int)
      · rw [if_pos c0, if_pos (by omega)]
      · rw [if_neg c0, if_neg (by omega)]
  · rintro M ⟨a1, a2, a3, a4⟩
    have e55 : M (51, 0, 0) 55 = e := by rw [a2 55 (by decide) (by decide), he]
    have e29 : M (51, 0, 0) 29 = e := by rw [a3]; omega
    unfold fX12_reports_l42
    rw [if_pos (by rw [e29, e55])]
    refine ⟨_, rfl, a1, a2, e29, fun s hs => ?_⟩
    rw [a4 s hs, et]
theorem m_none {m : zMem} : ∃ i' M, zlp fX12_resets_l49 5000 (0, m) = some (i', M) ∧ (∀ q, q ≠ (51, 0, 0) → M q = m q) ∧ (∀ k, k < 39 ∨ 47 ≤ k → M (51, 0, 0) k = m (51, 0, 0) k) ∧ ∀ s, s < 8 → M (51, 0, 0) (39 + s) = -1 := by
  have hh := zlp_inv (body := fX12_resets_l49) (fun j st => st.1 = (j : Int) ∧ (∀ q, q ≠ (51, 0, 0) → st.2 q = m q) ∧ (∀ k, k < 39 ∨ 47 ≤ k → st.2 (51, 0, 0) k = m (51, 0, 0) k) ∧ ∀ s, s < j → st.2 (51, 0, 0) (39 + s) = -1) (fun st => (∀ q, q ≠ (51, 0, 0) → st.2 q = m q) ∧ (∀ k, k < 39 ∨ 47 ≤ k → st.2 (51, 0, 0) k = m (51, 0, 0) k) ∧ ∀ s, s < 8 → st.2 (51, 0, 0) (39 + s) = -1) 8 (N := 5000) (by decide) (s0 := (0, m)) ⟨rfl, fun _ _ => rfl, fun _ _ => rfl, fun k hk => absurd hk (Nat.not_lt_zero k)⟩ ?_ ?_
  · obtain ⟨⟨i', K⟩, hr, r1, r2, r3⟩ := hh
    exact ⟨i', K, hr, r1, r2, r3⟩
  · rintro j ⟨t1, K⟩ hj ⟨a1, a2, a4, a3⟩
    dsimp only at a1 a2 a3 a4
    subst a1
    have xs : ix (39 + (j : Int)) = 39 + j := by rw [ix_of (by omega) (by omega)]; omega
    unfold fX12_resets_l49
    simp only [zlet_eq]
    rw [if_neg (by rw [w32_n (by omega)]; omega), if_pos (zin_of (by omega) (by omega) (by decide)), xs]
    refine Or.inl ⟨_, rfl, by dsimp only; omega, fun q hq => by dsimp only; rw [zst_nq hq, a2 q hq], fun k hk => by dsimp only; rw [zst_nk (by omega)]; exact a4 k hk, fun k hk => ?_⟩
    dsimp only
    by_cases c0 : k = j
    · subst c0; rw [zst_at]
    · rw [zst_nk (by omega)]; exact a3 k (by omega)
  · rintro ⟨t1, K⟩ ⟨a1, a2, a4, a3⟩
    dsimp only at a1 a2 a3 a4
    subst a1
    unfold fX12_resets_l49
    dsimp only
    rw [if_pos (by decide)]
    exact ⟨_, rfl, a2, a4, a3⟩
/-- class and model behind the slots' loops, the again list empty -/
theorem RK.rpt {L : Nat} {B : Int} {c C m M1 M : zMem} {n e : Int} {pn : Nat} {sl : Nat → Int} (h : RK L B c (m (51, 0, 0))) (hpn : m (51, 0, 0) 0 = pn) (hsl : ∀ p, p < 8 → m (51, 0, 0) (329 + 88 * p) = sl p) (n8 : 0 ≤ n ∧ n ≤ 7) (e8 : 0 ≤ e ∧ e ≤ 7)
    -- the class
    (k8 : C (8, L, 0) 5 = c (8, L, 0) 5 ∧ C (8, L, 0) 6 = 0 ∧ C (8, L, 0) 7 = n ∧ C (8, L, 0) 8 = e ∧ C (8, L, 0) 9 = c (8, L, 0) 9) (kq : ∀ q, (∀ p, q ≠ (10, L, p)) → q ≠ (8, L, 0) → C q = c q) (ks : ∀ p, p < 8 → (¬ dI sl n e p → C (10, L, p) = c (10, L, p)) ∧ (dI sl n e p → C (10, L, p) = zst (zst (zst c (10, L, p) 0 (-1)) (10, L, p) 2 0) (10, L, p) 3 0 (10, L, p)))
    -- the model ahead of the slots
    (mq : ∀ k, k < 28 ∨ 47 ≤ k ∧ k ≠ 71 → M1 (51, 0, 0) k = m (51, 0, 0) k) (m28 : M1 (51, 0, 0) 28 = n) (m29 : M1 (51, 0, 0) 29 = e) (mk : ∀ s : Nat, s < 8 → (((s : Int) - e) % 8 < (n - e) % 8 → pky (m (51, 0, 0)) s ∧ M1 (51, 0, 0) (39 + s) = m (51, 0, 0) (39 + s)) ∧ (¬ ((s : Int) - e) % 8 < (n - e) % 8 → M1 (51, 0, 0) (39 + s) = -1)) (m71 : C (8, L, 0) 10 = M1 (51, 0, 0) 71)
    -- the model behind them
    (hM : mS sl n e M1 M pn) (m30 : M (51, 0, 0) 30 = 0) : RK L B C (M (51, 0, 0)) := by
  obtain ⟨h1, h2, h3, h4, h5, h6⟩ := h
  obtain ⟨u1, u2, u3, u4, u5⟩ := hM
  have cq : ∀ r p, r ≠ 10 → r ≠ 8 → C (r, L, p) = c (r, L, p) := fun r p a1 a2 => kq _ (fun p' => by simp [a1]) (by simp [a2])
  have g : ∀ k, k < 28 ∨ 47 ≤ k ∧ k < 329 ∧ k ≠ 71 → M (51, 0, 0) k = m (51, 0, 0) k := fun k hk => by rw [u2 k (by omega), mq k (by omega)]
  have g28 : M (51, 0, 0) 28 = n := by rw [u2 _ (by omega), m28]
  have g29 : M (51, 0, 0) 29 = e := by rw [u2 _ (by omega), m29]
  have gp : ∀ s : Int, pky (M (51, 0, 0)) s ↔ (s - e) % 8 < (n - e) % 8 := fun s => by unfold pky; rw [g28, g29]
  obtain ⟨⟨s1, s2, s3⟩, s4, ⟨s5, s6, s7⟩, s8, ⟨s9, s10, s11⟩, ⟨s12, s13, s14⟩, s15, s16, s17⟩ := h2
  refine ⟨h1.cg (fun k _ => by rw [cq 7 0 (by decide) (by decide)]) (fun k hk => g k (by omega)), ⟨by rw [k8.1, g 7 (by decide)]; exact ⟨s1, s2, s3⟩, fun i hi => ?_, by rw [k8.2.1, m30]; decide, fun i hi => by rw [m30] at hi; omega, by rw [k8.2.2.1, g28]; exact ⟨rfl, n8.1, n8.2⟩, by rw [k8.2.2.2.1, g29]; exact ⟨rfl, e8.1, e8.2⟩, fun s hs => ?_, by rw [k8.2.2.2.2, g 70 (by decide)]; exact s16, by rw [m71, u2 71 (by decide)]⟩, h3.cg (fun k _ _ => by rw [cq 9 0 (by decide) (by decide)]) (cq 39 0 (by decide) (by decide)) (cq 40 0 (by decide) (by decide)) (fun k a1 a2 _ _ _ _ => g k (by omega)), h4.cg (by rw [cq 9 0 (by decide) (by decide)]) (by rw [cq 9 0 (by decide) (by decide)]) (g 55 (by decide)) (g 64 (by decide)) (g 65 (by decide)), fun p hp => ?_, fun p hp => (h6 p hp).cg (cq 11 p (by decide) (by decide)) (cq 41 p (by decide) (by decide)) (fun k a1 a2 => ?_)⟩
  · rw [g 7 (by decide)] at hi
    rw [cq 33 0 (by decide) (by decide), g (8 + i) (by omega)]; exact s4 i hi
  · rw [gp, cq 34 0 (by decide) (by decide), cq 35 0 (by decide) (by decide), u2 (39 + s) (by omega), g (47 + s) (by omega)]
    refine ⟨fun hh => ?_, fun hh => (mk s hs).2 hh⟩
    obtain ⟨f1, f2⟩ := (mk s hs).1 hh
    rw [f2]; exact (s15 s hs).1 f1
  · have hl := h5 p hp
    obtain ⟨b1, b2, b3, b4, b5, b6, b7, b8⟩ := hl
    have v : ∀ r, r < 88 → r ≠ 0 → r ≠ 3 → r ≠ 4 → M (51, 0, 0) (329 + 88 * p + r) = m (51, 0, 0) (329 + 88 * p + r) := fun r a1 a2 a3 a4 => by rw [u3 p r hp a1 a2 a3 a4, mq _ (by omega)]
    have hsp := hsl p hp
    by_cases cd : dI sl n e p
    · have hpp : p < pn := Classical.byContradiction fun hc => cd.1 (by rw [← hsp]; exact b8 (by rw [hpn]; omega))
      obtain ⟨z0, z3, z4⟩ := (u4 p hpp).2 cd
      have ek := (ks p hp).2 cd
      rw [Rl, z0, z3, z4]
      refine ⟨by rw [ek]; rw [zst_nk (by decide), zst_nk (by decide), zst_at]; decide, by rw [ek, v 2 (by decide) (by decide) (by decide) (by decide), zst_nk (by decide), zst_nk (by decide), zst_nk (by decide)]; exact b2, by rw [ek, zst_nk (by decide), zst_at]; decide, by rw [ek, zst_at]; decide, by rw [ek, v 5 (by decide) (by decide) (by decide) (by decide), zst_nk (by decide), zst_nk (by decide), zst_nk (by decide)]; exact b5, fun _ => ⟨rfl, rfl⟩, fun hh => absurd rfl hh, fun _ => rfl⟩
    · have zz : M (51, 0, 0) (329 + 88 * p) = m (51, 0, 0) (329 + 88 * p) ∧ M (51, 0, 0) (329 + 88 * p + 3) = m (51, 0, 0) (329 + 88 * p + 3) ∧ M (51, 0, 0) (329 + 88 * p + 4) = m (51, 0, 0) (329 + 88 * p + 4) := by
        by_cases hpp : p < pn
        · obtain ⟨z0, z3, z4⟩ := (u4 p hpp).1 cd
          exact ⟨by rw [z0, mq _ (by omega)], by rw [z3, mq _ (by omega)], by rw [z4, mq _ (by omega)]⟩
        · obtain ⟨z0, z3, z4⟩ := u5 p (by omega) hp
          exact ⟨by rw [z0, mq _ (by omega)], by rw [z3, mq _ (by omega)], by rw [z4, mq _ (by omega)]⟩
      obtain ⟨z0, z3, z4⟩ := zz
      have hl : Rl L p (329 + 88 * p) c (m (51, 0, 0)) := ⟨b1, b2, b3, b4, b5, b6, b7, b8⟩
      refine hl.cg2 ((ks p hp).1 cd) (cq 37 p (by decide) (by decide)) (g 0 (by decide)) (g 3 (by decide)) (fun hn _ => ?_) (fun k a1 a2 => ?_)
      · have hk : (m (51, 0, 0) (329 + 88 * p) - e) % 8 < (n - e) % 8 := Classical.byContradiction fun hc => cd ⟨by rw [← hsp]; exact hn, by rw [← hsp]; exact hc⟩
        obtain ⟨x, ex⟩ := nat_of (show 0 ≤ m (51, 0, 0) (329 + 88 * p) by omega)
        rw [gp]
        refine ⟨hk, ?_⟩
        rw [ex] at hk ⊢
        rw [show ((x : Int)).toNat = x from rfl, u2 _ (by omega)]
        exact ((mk x (by omega)).1 hk).2
      · obtain ⟨r, er⟩ : ∃ r, k = 329 + 88 * p + r := ⟨k - (329 + 88 * p), by omega⟩
        subst er
        by_cases r0 : r = 0
        · subst r0; exact z0
        · by_cases r3 : r = 3
          · subst r3; exact z3
          · by_cases r4 : r = 4
            · subst r4; exact z4
            · exact v r (by omega) r0 r3 r4
  · obtain ⟨r, er⟩ : ∃ r, k = 329 + 88 * p + r := ⟨k - (329 + 88 * p), by omega⟩
    subst er
    rw [u3 p r hp (by omega) (by omega) (by omega) (by omega), mq _ (by omega)]
