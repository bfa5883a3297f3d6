/-! THE START, pure: the model's tables; then both, related -/
theorem b_codeM {I : zMem} : ∃ x, zlp fX12_init_l158 5000 (0, I) = some x ∧ (∀ q, q ≠ (54, 0, 0) → x.2 q = I q) ∧ iCodeM x.2 := by
  have hh := zlp_inv (body := fX12_init_l158) (fun j s => s.1 = (j : Int) ∧ (∀ q, q ≠ (54, 0, 0) → s.2 q = I q) ∧ ∀ w, w < j → s.2 (54, 0, 0) w = (pcode w : Int)) (fun x => (∀ q, q ≠ (54, 0, 0) → x.2 q = I q) ∧ iCodeM x.2) 2048 (N := 5000) (by decide) (s0 := (0, I)) ?_ ?_ ?_
  · exact hh
  · exact ⟨rfl, fun _ _ => rfl, fun w hw => absurd hw (Nat.not_lt_zero w)⟩
  · rintro j ⟨x, K⟩ hj ⟨e1, e2, e3⟩
    dsimp only at e1 e2 e3
    subst e1
    refine Or.inl ?_
    unfold fX12_init_l158
    dsimp only [zlet]
    rw [if_neg (by rw [w32_n (by omega)]; omega), s_codeOf hj, zb_some, if_pos (zin_nat hj (by decide)), ix_nat (by omega)]
    refine ⟨_, rfl, rfl, fun q hq => ?_, fun w hw => ?_⟩
    · dsimp only; rw [zst_nq hq]; exact e2 q hq
    · dsimp only
      by_cases hc : w = j
      · subst hc; exact zst_at
      · rw [zst_nk hc]; exact e3 w (by omega)
  · rintro ⟨x, K⟩ ⟨e1, e2, e3⟩
    dsimp only at e1 e2 e3
    subst e1
    exact ⟨(((2048 : Nat) : Int), K), by unfold fX12_init_l158; dsimp only; rw [if_pos (by rw [w32_n (by omega)]; omega)], e2, e3⟩
def prd (j : Nat) : Int := 4 * ((j % 4 : Nat) : Int) + ([0, 2, 1, 3] : List Int).getD (j / 4) 0
theorem prd_ok : (List.range 16).all (fun j => decide (fX12_readAt (j : Int) = some (prd j) ∧ 0 ≤ prd j ∧ prd j ≤ 15 ∧ (0 ≤ prd j - 3 → pplace j = prd j - 3 ∧ pplace (16 + 2 * j) = 13 + (prd j - 3) ∧ pplace (17 + 2 * j) = 26 + (prd j - 3)) ∧ (¬ 0 ≤ prd j - 3 → pplace j = -1 ∧ pplace (16 + 2 * j) = -1 ∧ pplace (17 + 2 * j) = -1))) = true := by decide +kernel
theorem b_ringM1 {K : zMem} {j : Nat} (hj : j < 16) : fX12_laysRing_l2 ((j : Int), K) = some (.inl ((j : Int) + 1, zst (zst (zst K (55, 0, 0) j (pplace j)) (55, 0, 0) (16 + 2 * j) (pplace (16 + 2 * j))) (55, 0, 0) (17 + 2 * j) (pplace (17 + 2 * j)))) := by
  obtain ⟨r1, r2, r3, r4, r5⟩ := zall prd_ok hj
  have z0 : zin (j : Int) 48 := zin_nat (by omega) (by decide)
  have x0 : ix (j : Int) = j := ix_nat (by omega)
  have z1 : zin ((16 : Int) + 2 * (j : Int)) 48 := zin_of (by omega) (by omega) (by decide)
  have x1 : ix ((16 : Int) + 2 * (j : Int)) = 16 + 2 * j := by rw [ix_of (by omega) (by omega)]; omega
  have z2 : zin ((17 : Int) + 2 * (j : Int)) 48 := zin_of (by omega) (by omega) (by decide)
  have x2 : ix ((17 : Int) + 2 * (j : Int)) = 17 + 2 * j := by rw [ix_of (by omega) (by omega)]; omega
  have hw : w32 (prd j - 3) = prd j - 3 := w32_id (by omega) (by omega)
  unfold fX12_laysRing_l2
  simp only [zlet_eq]
  rw [if_neg (by rw [w32_n (by omega)]; omega), r1, zb_some]
  by_cases hc : 0 ≤ prd j - 3
  · obtain ⟨a1, a2, a3⟩ := r4 hc
    have hc' : 0 ≤ w32 (prd j - 3) := by rw [hw]; exact hc
    rw [if_pos hc']
    unfold fX12_laysRing_b2_29
    simp only [zlet_eq]
    rw [if_pos z0, if_pos hc']
    unfold fX12_laysRing_b2_52
    simp only [zlet_eq]
    rw [if_pos z1, if_pos hc']
    unfold fX12_laysRing_b2_75
    simp only [zlet_eq]
    rw [if_pos z2, x0, x1, x2, a1, a2, a3]
  · obtain ⟨a1, a2, a3⟩ := r5 hc
    have hc' : ¬ 0 ≤ w32 (prd j - 3) := by rw [hw]; exact hc
    rw [if_neg hc']
    unfold fX12_laysRing_b2_29
    simp only [zlet_eq]
    rw [if_pos z0, if_neg hc']
    unfold fX12_laysRing_b2_52
    simp only [zlet_eq]
    rw [if_pos z1, if_neg hc']
    unfold fX12_laysRing_b2_75
    simp only [zlet_eq]
    rw [if_pos z2, x0, x1, x2, a1, a2, a3]
theorem b_ringM {I : zMem} : ∃ u, fX12_laysRing I = some u ∧ iRingM u ∧ ∀ q, q ≠ (55, 0, 0) → u q = I q := by
  have hh := zlp_inv (body := fX12_laysRing_l2) (fun j s => s.1 = (j : Int) ∧ (∀ q, q ≠ (55, 0, 0) → s.2 q = I q) ∧ ∀ a, (a < j ∨ 16 ≤ a ∧ a < 16 + 2 * j) → s.2 (55, 0, 0) a = pplace a) (fun r => (∀ q, q ≠ (55, 0, 0) → r.2 q = I q) ∧ iRingM r.2) 16 (N := 5000) (by decide) (s0 := (0, I)) ?_ ?_ ?_
  · obtain ⟨x, x1, x2, x3⟩ := hh
    exact ⟨x.2, by unfold fX12_laysRing; rw [x1, zb_some], x3, x2⟩
  · exact ⟨rfl, fun _ _ => rfl, fun a ha => by omega⟩
  · rintro j ⟨x, K⟩ hj ⟨e1, e2, e3⟩
    dsimp only at e1 e2 e3
    subst e1
    refine Or.inl ⟨_, b_ringM1 hj, rfl, fun q hq => ?_, fun a ha => ?_⟩
    · dsimp only; rw [zst_nq hq, zst_nq hq, zst_nq hq]; exact e2 q hq
    · dsimp only
      by_cases h2 : a = 17 + 2 * j
      · subst h2; exact zst_at
      · rw [zst_nk h2]
        by_cases h1 : a = 16 + 2 * j
        · subst h1; exact zst_at
        · rw [zst_nk h1]
          by_cases h0 : a = j
          · subst h0; exact zst_at
          · rw [zst_nk h0]; exact e3 a (by omega)
  · rintro ⟨x, K⟩ ⟨e1, e2, e3⟩
    dsimp only at e1 e2 e3
    subst e1
    exact ⟨_, by unfold fX12_laysRing_l2; dsimp only; rw [if_pos (by rw [w32_n (by omega)]; omega)], e2, fun a ha => e3 a (by omega)⟩
theorem b_X12 {I : zMem} : ∃ u, fX12_init I = some u ∧ iCodeM u ∧ iRingM u ∧ nwM (u (51, 0, 0)) 4 4 12 4 48 ∧ ∀ q, q ≠ (51, 0, 0) → q ≠ (54, 0, 0) → q ≠ (55, 0, 0) → u q = I q := by
  obtain ⟨x, x1, x2, x3⟩ := b_codeM (I := I)
  obtain ⟨y, y1, y2, y3⟩ := b_ringM (I := x.2)
  obtain ⟨M, m1, m2, m3, m4⟩ := m_begins (m := y) 4 4 12 4 48
  refine ⟨M, ?_, fun w hw => ?_, fun a ha => ?_, m4, fun q h1 h2 h3 => ?_⟩
  · unfold fX12_init; rw [x1, zb_some, y1, zb_some, m1, zb_some]
  · rw [m2 _ (by decide), y3 _ (by decide)]; exact x3 w hw
  · rw [m2 _ (by decide)]; exact y2 a ha
  · rw [m2 q h1, y3 q h3, x2 q h2]
theorem zzr_nq {I : zMem} {q q' : zPl} (h : q' ≠ q) : zzr I q q' = I q' := funext fun _ => if_neg h
theorem zzr_at {I : zMem} {q : zPl} {k : Nat} : zzr I q q k = 0 := if_pos rfl
/-- a new link's memory: other places stay -/
theorem g4_out {L : Nat} {I : zMem} {q : zPl} (h : ¬ lkP L q) : gX4_init L I q = I q := by
  have hn : ∀ r p, klb 0 r 0 = false → q ≠ (r, L, p) := fun r p hr e => h (by rw [e]; exact ⟨rfl, hr⟩)
  have b7 := hn 7 0 rfl
  have b8 := hn 8 0 rfl
  have b9 := hn 9 0 rfl
  have b32 := hn 32 0 rfl
  have b33 := hn 33 0 rfl
  have b34 := hn 34 0 rfl
  have b35 := hn 35 0 rfl
  have b36 := hn 36 0 rfl
  have b38 := hn 38 0 rfl
  have b39 := hn 39 0 rfl
  have b40 := hn 40 0 rfl
  have b10 : ∀ p, q ≠ (10, L, p) := fun p => hn 10 p rfl
  have b11 : ∀ p, q ≠ (11, L, p) := fun p => hn 11 p rfl
  have b37 : ∀ p, q ≠ (37, L, p) := fun p => hn 37 p rfl
  have b41 : ∀ p, q ≠ (41, L, p) := fun p => hn 41 p rfl
  have g8 : ∀ p J, gX8_init L p J q = J q := fun p J => by unfold gX8_init; rw [zzr_nq (b37 p), zst_nq (b10 p)]
  have g3 : ∀ p J, gX3_init L p J q = J q := fun p J => by unfold gX3_init; rw [zzr_nq (b41 p), zst_nq (b11 p)]
  unfold gX4_init gX5_init gX7_init
  rw [zmp_ne b39, g3, zzr_nq (b11 7), g3, zzr_nq (b11 6), g3, zzr_nq (b11 5), g3, zzr_nq (b11 4), g3, zzr_nq (b11 3), g3, zzr_nq (b11 2), g3, zzr_nq (b11 1), g3, zzr_nq (b11 0), zzr_nq b40, zzr_nq b39, zzr_nq b38, zzr_nq b9,
    g8, zzr_nq (b10 7), g8, zzr_nq (b10 6), g8, zzr_nq (b10 5), g8, zzr_nq (b10 4), g8, zzr_nq (b10 3), g8, zzr_nq (b10 2), g8, zzr_nq (b10 1), g8, zzr_nq (b10 0), zzr_nq b36, zzr_nq b35, zzr_nq b34, zzr_nq b33, zzr_nq b32, zzr_nq b8, zst_nq b7, zst_nq b7, zst_nq b7, zst_nq b7, zst_nq b7, zst_nq b7, zst_nq b7]
set_option maxHeartbeats 4000000 in
/-- a new link is new -/
theorem g4_new {L : Nat} {I : zMem} : nwC L (gX4_init L (zzr I (7, L, 0))) 4 4 12 4 48 := by
  refine ⟨?_, fun k _ _ => ?_, fun k _ _ => ?_, fun k hk => ?_, fun p hp => ?_, fun p hp => ?_⟩
  · simp [gX4_init, gX5_init, gX7_init, gX8_init, gX3_init, zzr, zst, zmp]
  · simp [gX4_init, gX5_init, gX7_init, gX8_init, gX3_init, zzr, zst, zmp]
  · simp [gX4_init, gX5_init, gX7_init, gX8_init, gX3_init, zzr, zst, zmp]
  · simp [gX4_init, gX5_init, gX7_init, gX8_init, gX3_init, zzr, zst, zmp, hk]
  · rcases (show p = 0 ∨ p = 1 ∨ p = 2 ∨ p = 3 ∨ p = 4 ∨ p = 5 ∨ p = 6 ∨ p = 7 by omega) with rfl | rfl | rfl | rfl | rfl | rfl | rfl | rfl <;> simp [gX4_init, gX5_init, gX7_init, gX8_init, gX3_init, zzr, zst, zmp]
  · rcases (show p = 0 ∨ p = 1 ∨ p = 2 ∨ p = 3 ∨ p = 4 ∨ p = 5 ∨ p = 6 ∨ p = 7 by omega) with rfl | rfl | rfl | rfl | rfl | rfl | rfl | rfl <;> simp [gX4_init, gX5_init, gX7_init, gX8_init, gX3_init, zzr, zst, zmp]
theorem nwC.cg {L : Nat} {c c' : zMem} {a0 a1 a2 a3 a4 : Int} (h : nwC L c a0 a1 a2 a3 a4) (hc : ∀ r p, c' (r, L, p) = c (r, L, p)) : nwC L c' a0 a1 a2 a3 a4 := by
  unfold nwC
  simp only [hc]
  exact h
theorem g11_keep {u : zMem} {q : zPl} (hq : q = (16, 0, 0) ∨ q = (17, 0, 0) ∨ q = (18, 0, 0) ∨ q = (19, 0, 0)) : gX11_init u q = u q := by
  rcases hq with rfl | rfl | rfl | rfl <;>
    (unfold gX11_init gX9_init gX0_init gX2_init gX10_init
     rw [zzr_nq (by decide), zzr_nq (by decide), zzr_nq (by decide), zzr_nq (by decide), g4_out (lk_no rfl), zzr_nq (by decide), zst_nq (by decide), zst_nq (by decide), zst_nq (by decide), zst_nq (by decide), zzr_nq (by decide)]
     simp only [imn]
     rw [zzr_nq (by decide), zzr_nq (by decide), zzr_nq (by decide), zzr_nq (by decide), zzr_nq (by decide), zzr_nq (by decide), g4_out (lk_no rfl), zzr_nq (by decide), zzr_nq (by decide), zzr_nq (by decide), zzr_nq (by decide), zzr_nq (by decide), zzr_nq (by decide), zzr_nq (by decide), zzr_nq (by decide), zzr_nq (by decide), zzr_nq (by decide), zzr_nq (by decide), zzr_nq (by decide)])
theorem g11_tray {u : zMem} {t : Nat} (ht : t < 4) : gX11_init u (31, 0, 0) t = -1 := by
  unfold gX11_init gX9_init
  rw [zzr_nq (by decide), zzr_nq (by decide), zzr_nq (by decide), zzr_nq (by decide), g4_out (lk_no rfl), zzr_nq (by decide)]
  rcases (show t = 0 ∨ t = 1 ∨ t = 2 ∨ t = 3 by omega) with rfl | rfl | rfl | rfl <;> simp [zst]
abbrev e01 : Nat → Prop := fun L => L = 0 ∨ L = 1
/-- at the start class and model are related -/
theorem b_start (I J : zMem) : ∃ u1 u6 u12, fX1_init (gX1_init (zzr I (1, 0, 0))) = some u1 ∧ fX6_init (gX6_init (zzr u1 (2, 0, 0))) = some u6 ∧ fX12_init (gX12_init J) = some u12 ∧ RW 0 e01 (gX11_init u6) u12 := by
  obtain ⟨u1, a1, a2, a3⟩ := b_X1 (I := gX1_init (zzr I (1, 0, 0))) (by unfold gX1_init; rw [zzr_nq (by decide)]; exact zzr_at)
  obtain ⟨u6, c1, c2, c3⟩ := b_X6 (I := gX6_init (zzr u1 (2, 0, 0)))
  obtain ⟨u12, d1, d2, d3, d4, d5⟩ := b_X12 (I := gX12_init J)
  have k : ∀ q, q = (16, 0, 0) ∨ q = (17, 0, 0) → gX11_init u6 q = u1 q := fun q hq => by
    rcases hq with rfl | rfl
    · rw [g11_keep (by simp), c3 _ (by decide) (by decide)]; unfold gX6_init; rw [zzr_nq (by decide), zzr_nq (by decide), zzr_nq (by decide), zzr_nq (by decide)]
    · rw [g11_keep (by simp), c3 _ (by decide) (by decide)]; unfold gX6_init; rw [zzr_nq (by decide), zzr_nq (by decide), zzr_nq (by decide), zzr_nq (by decide)]
  refine ⟨u1, u6, u12, a1, c1, d1, ⟨⟨fun w hw => ?_, fun n h1 h2 => ?_⟩, ⟨fun k hk => ?_, fun k hk => ?_⟩, d2, d3⟩, ?_, fun i hi => ?_, fun t ht => ?_⟩
  · rw [k _ (Or.inl rfl)]; exact a2.1 w hw
  · rw [k _ (Or.inr rfl)]; exact a2.2 n h1 h2
  · rw [g11_keep (by simp)]; exact c2.1 k hk
  · rw [g11_keep (by simp)]; exact c2.2 k hk
  · refine RK.new (Int.le_refl 0) (nwC.cg (c := gX4_init 1 (zzr (gX9_init (zzr (gX0_init (zzr (gX2_init (zzr (gX10_init (zzr u6 (3, 0, 0))) (4, 0, 0))) (5, 0, 0))) (6, 0, 0))) (7, 1, 0))) g4_new (fun r p => ?_)) d4 (by decide) (by decide) (by decide) (by decide) (by decide)
    unfold gX11_init
    rw [zzr_nq (by simp), zzr_nq (by simp), zzr_nq (by simp), zzr_nq (by simp)]
  · refine Or.inl ⟨?_, ?_⟩
    · rw [d5 _ (by decide) (by decide) (by decide)]
      unfold gX12_init
      simp [zzr, zst]
    · show ¬ (2 + i = 0 ∨ 2 + i = 1)
      omega
  · have e66 : u12 (66, 0, 0) t = -1 := by
      rw [d5 _ (by decide) (by decide) (by decide)]
      unfold gX12_init
      rcases (show t = 0 ∨ t = 1 ∨ t = 2 ∨ t = 3 by omega) with rfl | rfl | rfl | rfl <;> simp [zzr, zst]
    rw [g11_tray ht, e66]
    exact ⟨rfl, by omega, fun i hi => by omega⟩
