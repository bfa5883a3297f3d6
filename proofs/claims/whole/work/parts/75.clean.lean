/-! ROUNDS: clean ones -/
theorem r_cleanP {L p : Nat} {B : Int} {c m : zMem} (hp : p < 8) (h : RK L B c (m (51, 0, 0))) (hB : B + 1 ≤ 1000000000) (ht : RT c m) (hpn : (p : Int) < m (51, 0, 0) 0) (a : Int) : ∃ c' m', fX0_cleanRound_b2_32 L a (p : Int) c = some (.inl ((p : Int) + 1, c')) ∧ fX12_goesClean_b2_35 a (p : Int) m = some (.inl ((p : Int) + 1, m')) ∧ RS L (B + 1) c m c' m' := by
  have e7 : c (7, L, 0) 1 = m (51, 0, 0) 1 := h.1.1 1 (by decide)
  obtain ⟨b, b1, b2, b3⟩ := r_able hp rfl h
  unfold fX0_cleanRound_b2_32 fX12_goesClean_b2_35 fX0_cleanRound_b2_61 fX12_goesClean_b2_61 fX0_quiet
  rw [e7, b1, zb_some, b2, zb_some]
  rcases b3 with rfl | ⟨rfl, hask, hab⟩
  · rw [if_pos w32_0, if_pos w32_0]
    exact ⟨c, m, rfl, rfl, RS.rf (h.mo (by omega))⟩
  · rw [if_neg (show ¬ w32 1 = 0 by decide), if_neg (show ¬ w32 1 = 0 by decide), s_fillI _ (by decide), zb_some, zb_some]
    have hK : ∀ q, q ≠ (28, 0, 0) → zmp c (28, 0, 0) 60 (fun _ => 0) q = c q := fun q hq => zmp_ne hq
    obtain ⟨M1, l1, l2, l3⟩ := r_trans (L := L) (c := zmp c (28, 0, 0) 60 (fun _ => 0)) (m := m) (len := 39) (v := fun _ => 0) (pass := 1) hp rfl (h.cc (fun r p' a1 a2 a3 => hK _ (by simp [a3]))) hB (ht.kp (hK _ (by simp)) (hK _ (by simp)) (hK _ (by simp)) (hK _ (by simp)) rfl rfl) (by decide) hpn hask hab (fun i hi => ⟨zmp_in (by omega), by decide⟩) (Or.inr rfl)
    obtain ⟨r, c', m', t1, t2, t3, t4, t5, t6, t7, t8⟩ := l3 M1 (fun _ _ _ => rfl) (fun i _ => (Int.add_zero _).symm)
    have t1' : fX0_transmit L (p : Int) 39 1 (zmp c (28, 0, 0) 60 (fun _ => 0)) = some (r, c') := t1
    have t2' : fX12_endsSend (p : Int) 39 1 M1 = some m' := t2
    have l1' : fX12_beginsSend (p : Int) 39 m = some M1 := l1
    rw [t1', zb_some, l1', zb_some, t2', zb_some]
    refine ⟨c', m', rfl, rfl, t3, fun q a1 a2 => by rw [t4 q a1 a2, hK q (ka_ne a1 rfl)], ⟨fun q hq => ?_, t7⟩⟩
    by_cases e : q = (50, 0, 0)
    · rw [e, t6, l2.1 _ rfl]
    · exact t5 q hq e
theorem r_cleanL {L pn : Nat} {B a : Int} (hB : B + 8 ≤ 1000000000) (p8 : pn ≤ 8) (ha : 0 ≤ a ∧ a ≤ 2) : ∀ (r j N N' : Nat) (c m : zMem), j + r = pn → RK L (B + j) c (m (51, 0, 0)) → RT c m → m (51, 0, 0) 0 = pn → r < N → r < N' → ∃ i1 i2 c' m', zlp (fX0_cleanRound_l2 L a) N ((j : Int), c) = some (i1, c') ∧ zlp (fX12_goesClean_l2 a) N' ((j : Int), m) = some (i2, m') ∧ RS L (B + pn) c m c' m' := by
  intro r
  induction r with
  | zero =>
    intro j N N' c m hj h ht h0 hN hN'
    obtain ⟨n, rfl⟩ : ∃ n, N = n + 1 := ⟨N - 1, by omega⟩
    obtain ⟨n', rfl⟩ : ∃ n, N' = n + 1 := ⟨N' - 1, by omega⟩
    have ej : j = pn := by omega
    subst ej
    have e0 : c (7, L, 0) 0 = j := by rw [h.1.1 0 (by decide), h0]
    refine ⟨j, j, c, m, zlp_out ?_, zlp_out ?_, RS.rf h⟩
    · unfold fX0_cleanRound_l2
      dsimp only
      rw [if_pos (by rw [e0]; exact Int.le_refl _)]
    · unfold fX12_goesClean_l2
      dsimp only
      rw [if_pos (by rw [h0]; exact Int.le_refl _)]
  | succ r ih =>
    intro j N N' c m hj h ht h0 hN hN'
    obtain ⟨n, rfl⟩ : ∃ n, N = n + 1 := ⟨N - 1, by omega⟩
    obtain ⟨n', rfl⟩ : ∃ n, N' = n + 1 := ⟨N' - 1, by omega⟩
    have e0 : c (7, L, 0) 0 = pn := by rw [h.1.1 0 (by decide), h0]
    have j8 : j < 8 := by omega
    have xj : ix (j : Int) = j := ix_nat (by omega)
    obtain ⟨-, -, -, ⟨b4, b5, b6⟩, -⟩ := h.2.2.2.2.1 j j8
    have w4 : w32 (m (51, 0, 0) (329 + 88 * j + 4)) = m (51, 0, 0) (329 + 88 * j + 4) := w32_id (by omega) (by omega)
    have z4 : zin (((329 + 88 * j : Nat) : Int) + 4) 3099 := zo _ 4 (by omega)
    have x4 : ix (((329 + 88 * j : Nat) : Int) + 4) = 329 + 88 * j + 4 := io _ 4 (by omega)
    have ej : (j : Int) + 1 = ((j + 1 : Nat) : Int) := by omega
    -- behind the answer
    have tail : ∀ c0 m0 : zMem, RS L (B + j) c m c0 m0 → fX0_cleanRound_l2 L a ((j : Int), c) = fX0_cleanRound_b2_32 L a (j : Int) c0 → fX12_goesClean_l2 a ((j : Int), m) = fX12_goesClean_b2_35 a (j : Int) m0 → ∃ i1 i2 c' m', zlp (fX0_cleanRound_l2 L a) (n + 1) ((j : Int), c) = some (i1, c') ∧ zlp (fX12_goesClean_l2 a) (n' + 1) ((j : Int), m) = some (i2, m') ∧ RS L (B + pn) c m c' m' := fun c0 m0 g1 g2 g3 => by
      have gt := ht.k g1.2.1 g1.2.2
      have g0 : m0 (51, 0, 0) 0 = pn := by rw [g1.2.2.2 0 (by unfold G0; omega), h0]
      obtain ⟨c1, m1, j1, j2, j3⟩ := r_cleanP j8 g1.1 (by omega) gt (by rw [g0]; omega) a
      have j4 := g1.tr j3
      obtain ⟨i1, i2, c2, m2, k1, k2, k3⟩ := ih (j + 1) n n' c1 m1 (by omega) (j3.1.mo (by omega)) (gt.k j3.2.1 j3.2.2) (by rw [j3.2.2.2 0 (by unfold G0; omega), g0]) (by omega) (by omega)
      rw [ej] at j1 j2
      exact ⟨i1, i2, c2, m2, by rw [zlp_in (g2.trans j1)]; exact k1, by rw [zlp_in (g3.trans j2)]; exact k2, j4.tr k3⟩
    by_cases c4 : m (51, 0, 0) (329 + 88 * j + 4) = 0
    · refine tail c m (RS.rf h) ?_ ?_
      · unfold fX0_cleanRound_l2
        simp only [e0, xj, b4, w4]
        rw [if_neg (by rw [w32_n (by omega), w32_n (by omega)]; omega), if_pos (zin_nat j8 (by decide)), if_pos c4]
      · unfold fX12_goesClean_l2
        simp only [h0, m_own (p := j) rfl, zb_some, x4, w4]
        rw [if_neg (by rw [w32_n (by omega), w32_n (by omega)]; omega), if_pos z4, if_neg (by omega)]
    · obtain ⟨w, c1, m1, k1, k2, k3, k4⟩ := r_readsS j8 rfl h (by omega) ha
      refine tail c1 m1 k3 ?_ ?_
      · unfold fX0_cleanRound_l2
        simp only [e0, xj, b4, w4]
        rw [if_neg (by rw [w32_n (by omega), w32_n (by omega)]; omega), if_pos (zin_nat j8 (by decide)), if_neg c4, k1, zb_some]
      · unfold fX12_goesClean_l2
        simp only [h0, m_own (p := j) rfl, zb_some, x4, w4]
        rw [if_neg (by rw [w32_n (by omega), w32_n (by omega)]; omega), if_pos z4, if_pos (by omega), k2, zb_some]
theorem r_clean {L : Nat} {B a : Int} {c m : zMem} (h : RK L B c (m (51, 0, 0))) (hB : B + 8 ≤ 1000000000) (ht : RT c m) (ha : 0 ≤ a ∧ a ≤ 2) : ∃ c' m', fX0_cleanRound L a c = some c' ∧ fX12_goesClean a m = some m' ∧ RS L (B + 8) c m c' m' := by
  obtain ⟨p0, ⟨p1a, p1b⟩, -⟩ := h.1
  obtain ⟨pn, epn⟩ := nat_of (show 0 ≤ m (51, 0, 0) 0 by omega)
  obtain ⟨i1, i2, c1, m1, k1, k2, k3⟩ := r_cleanL (L := L) (B := B) (a := a) hB (show pn ≤ 8 by omega) ha pn 0 5000 5000 c m (by omega) (h.mo (by omega)) ht epn (by omega) (by omega)
  have k4 := k3.mo (B' := B + 8) (by omega)
  obtain ⟨c2, m2, k5, k6, k7⟩ := r_tickS k4.1 hB
  obtain ⟨c3, m3, k8, k9, k10⟩ := r_learnS k7.1
  unfold fX0_cleanRound fX12_goesClean
  rw [show ((0 : Int), c) = (((0 : Nat) : Int), c) from rfl, show ((0 : Int), m) = (((0 : Nat) : Int), m) from rfl, k1, zb_some, k2, zb_some]
  dsimp only
  rw [k5, zb_some, k8, zb_some, k6, zb_some, k9, zb_some]
  exact ⟨c3, m3, rfl, rfl, k4.tr (k7.tr k10)⟩
theorem r_clear {L : Nat} {B : Int} {c m : zMem} (h : RK L B c (m (51, 0, 0))) : ∃ b, fX7_isClear L c = some b ∧ fX12_isDrained m = some b ∧ (b = 0 ∨ b = 1) := by
  obtain ⟨⟨s1, s2, s3⟩, -, -, -, ⟨s9, s10, s11⟩, ⟨s12, s13, s14⟩, -⟩ := h.2.1
  unfold fX7_isClear fX12_isDrained fX7_isClear_b22 fX12_isDrained_b31
  simp only [s1, s9, s12]
  by_cases c0 : w32 (m (51, 0, 0) 7) = 0
  · simp only [if_pos c0]
    by_cases c1 : w32 (m (51, 0, 0) 29) = w32 (m (51, 0, 0) 28)
    · simp only [if_pos c1]; exact ⟨1, rfl, rfl, Or.inr rfl⟩
    · simp only [if_neg c1]; exact ⟨0, rfl, rfl, Or.inl rfl⟩
  · simp only [if_neg c0]; exact ⟨0, rfl, rfl, Or.inl rfl⟩
/-- what the class makes of its loop's end -/
def tillC (o : Option ((Int × zMem) ⊕ (Int × zMem))) : Option (Int × zMem) := zbr o (fun x5 => zb (fX7_isClear 0 x5.2) (fun r6 => if w32 r6 = 0 then some ((-1), x5.2) else some (30, x5.2))) (fun z => z)
theorem r_drainL {a L2 : Nat} {B : Int} (hB : B + 240 ≤ 1000000000) (ha : a < 8) : ∀ (r j N N' : Nat) (c m : zMem), j + r = 30 → RK 0 (B + 8 * j) c (m (51, 0, 0)) → RT c m → r + 2 < N → r + 2 < N' → ∃ res c' m', tillC (zlp (fX0_roundsTillClear_l19 L2 (a : Int)) N ((j : Int), c)) = some (res, c') ∧ zbr (zlp (fX12_goesDrain_l11 (a : Int)) N' ((j : Int), m)) (fun x4 => some ((-1), x4.2)) (fun z => z) = some (res, m') ∧ RS 0 (B + 240) c m c' m' ∧ -1 ≤ res ∧ res ≤ 30 := by
  intro r
  induction r with
  | zero =>
    intro j N N' c m hj h ht hN hN'
    obtain ⟨n, rfl⟩ : ∃ n, N = n + 1 := ⟨N - 1, by omega⟩
    obtain ⟨n', rfl⟩ : ∃ n, N' = n + 2 := ⟨N' - 2, by omega⟩
    have ej : j = 30 := by omega
    subst ej
    obtain ⟨b, b1, b2, b3⟩ := r_clear h
    have e1 : fX0_roundsTillClear_l19 L2 (a : Int) (((30 : Nat) : Int), c) = some (.inr (.inl (30, c))) := by
      unfold fX0_roundsTillClear_l19
      dsimp only
      rw [if_pos (by decide)]; rfl
    have f1 : fX12_goesDrain_l11 (a : Int) (((30 : Nat) : Int), m) = zb (fX12_isDrained m) (fun r2 => if w32 r2 = 0 then some (.inl (31, m)) else some (.inr (.inr (30, m)))) := by
      unfold fX12_goesDrain_l11 fX12_goesDrain_b11_41
      dsimp only
      rw [if_neg (by decide)]
      congr 1
    rw [b2, zb_some] at f1
    unfold tillC
    rw [zlp_out e1, zbr_inl, b1, zb_some]
    rcases b3 with rfl | rfl
    · rw [if_pos w32_0] at f1 ⊢
      have f2 : fX12_goesDrain_l11 (a : Int) (31, m) = some (.inr (.inl (31, m))) := by
        unfold fX12_goesDrain_l11
        dsimp only
        rw [if_pos (by decide)]
      rw [zlp_in f1, zlp_out f2, zbr_inl]
      exact ⟨-1, c, m, rfl, rfl, RS.rf (h.mo (by omega)), by decide, by decide⟩
    · rw [if_neg (show ¬ w32 1 = 0 by decide)] at f1 ⊢
      rw [zlp_out f1, zbr_inr]
      exact ⟨30, c, m, rfl, rfl, RS.rf (h.mo (by omega)), by decide, by decide⟩
  | succ r ih =>
    intro j N N' c m hj h ht hN hN'
    obtain ⟨n, rfl⟩ : ∃ n, N = n + 1 := ⟨N - 1, by omega⟩
    obtain ⟨n', rfl⟩ : ∃ n, N' = n + 1 := ⟨N' - 1, by omega⟩
    obtain ⟨b, b1, b2, b3⟩ := r_clear h
    have wj : w32 (j : Int) = j := w32_n (by omega)
    rcases b3 with rfl | rfl
    · have es : ishr (a : Int) (j : Int) = ((a / 2 ^ j : Nat) : Int) := ishr_nat (by omega) (by omega)
      obtain ⟨y, ey⟩ := nat_of (show 0 ≤ ((a / 2 ^ j : Nat) : Int) % 2 by omega)
      obtain ⟨c1, m1, k1, k2, k3⟩ := r_clean (a := (y : Int)) h (by omega) ht (by omega)
      obtain ⟨res, c2, m2, l1, l2, l3, l4⟩ := ih (j + 1) n n' c1 m1 (by omega) (k3.1.mo (by omega)) (ht.k k3.2.1 k3.2.2) (by omega) (by omega)
      have e1 : fX0_roundsTillClear_l19 L2 (a : Int) ((j : Int), c) = some (.inl (((j + 1 : Nat) : Int), c1)) := by
        unfold fX0_roundsTillClear_l19 fX0_roundsTillClear_b19_59
        dsimp only
        rw [if_neg (by rw [wj]; omega), b1, zb_some, if_pos w32_0, es, ey]
        by_cases y1 : y = 1
        · subst y1
          rw [if_pos (by decide)]
          have k1' : fX0_cleanRound 0 1 c = some c1 := k1
          rw [k1', zb_some]; rfl
        · have y0 : y = 0 := by omega
          subst y0
          rw [if_neg (by decide)]
          have k1' : fX0_cleanRound 0 0 c = some c1 := k1
          rw [k1', zb_some]; rfl
      have f1 : fX12_goesDrain_l11 (a : Int) ((j : Int), m) = some (.inl (((j + 1 : Nat) : Int), m1)) := by
        unfold fX12_goesDrain_l11 fX12_goesDrain_b11_41
        dsimp only
        rw [if_neg (by rw [wj]; omega), b2, zb_some, if_pos w32_0, if_neg (by rw [wj]; omega), es, ey, k2, zb_some]; rfl
      rw [zlp_in e1, zlp_in f1]
      exact ⟨res, c2, m2, l1, l2, k3.tr l3, l4⟩
    · have e1 : fX0_roundsTillClear_l19 L2 (a : Int) ((j : Int), c) = some (.inr (.inr ((j : Int), c))) := by
        unfold fX0_roundsTillClear_l19
        dsimp only
        rw [if_neg (by rw [wj]; omega), b1, zb_some, if_neg (by decide)]
      have f1 : fX12_goesDrain_l11 (a : Int) ((j : Int), m) = some (.inr (.inr ((j : Int), m))) := by
        unfold fX12_goesDrain_l11
        dsimp only
        rw [if_neg (by rw [wj]; omega), b2, zb_some, if_neg (by decide)]
      unfold tillC
      rw [zlp_out e1, zlp_out f1, zbr_inr, zbr_inr]
      exact ⟨j, c, m, rfl, rfl, RS.rf (h.mo (by omega)), by omega, by omega⟩
