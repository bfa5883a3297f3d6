/-! TRAYS -/
theorem s_fillB (q : zPl) {n : Nat} (hn : n < 4000) (I : zMem) : fJ7_fill_031fb q n 0 I = some (zmp I q n (fun _ => 0)) := by
  unfold fJ7_fill_031fb
  simp only [zlet_eq]
  have h := zlp_0 (body := fJ7_fill_031fb_l5 q n 0 (n : Int)) (S := fun j => ((j : Int), zmp I q j (fun _ => 0))) (r := ((n : Int), zmp I q n (fun _ => 0))) n (N := 5000) (by omega) ?_ ?_
  · rw [show ((0 : Int), I) = (((0 : Nat) : Int), zmp I q 0 (fun _ => 0)) by rw [zmp_0]; rfl, h]
    rfl
  · intro j hj
    have w8 : w8 0 = 0 := by decide
    unfold fJ7_fill_031fb_l5
    simp only [zlet_eq, w8]
    rw [if_neg (by rw [w32_n (by omega), w32_n (by omega)]; omega), if_pos (zin_nat (by omega) (by omega)), ix_nat (by omega), zmp_s]
    rfl
  · unfold fJ7_fill_031fb_l5
    dsimp only
    rw [if_pos (Int.le_refl _)]
theorem c_missing {c : zMem} {t : Nat} (ht : t < 4) {z : Int} (hz : c (31, 0, 0) t = z) (hb : -1 ≤ z ∧ z ≤ 60) : fX9_isMissing (t : Int) c = some (if z = -1 then 1 else 0) := by
  unfold fX9_isMissing
  rw [if_pos (zin_nat ht (by decide)), ix_nat (by omega), hz, w32_id (by omega) (by omega)]
  by_cases h : z = -1
  · rw [if_pos h, if_pos h]
  · rw [if_neg h, if_neg h]
theorem m_trayL {m : zMem} {t k : Nat} (ht : t < 4) (hk : k ≤ 60) : ∃ i' K, zlp (fX12_tray_l44 (t : Int) (k : Int)) 5000 (0, m) = some (i', K) ∧ (∀ q, q ≠ (67, 0, 0) → K q = m q) ∧ (∀ j, j < 60 * t ∨ 60 * t + k ≤ j → K (67, 0, 0) j = m (67, 0, 0) j) ∧ ∀ j, j < k → K (67, 0, 0) (60 * t + j) = 0 := by
  have hh := zlp_inv (body := fX12_tray_l44 (t : Int) (k : Int)) (fun j st => st.1 = (j : Int) ∧ (∀ q, q ≠ (67, 0, 0) → st.2 q = m q) ∧ (∀ i, i < 60 * t ∨ 60 * t + k ≤ i → st.2 (67, 0, 0) i = m (67, 0, 0) i) ∧ ∀ i, i < j → st.2 (67, 0, 0) (60 * t + i) = 0) (fun st => (∀ q, q ≠ (67, 0, 0) → st.2 q = m q) ∧ (∀ i, i < 60 * t ∨ 60 * t + k ≤ i → st.2 (67, 0, 0) i = m (67, 0, 0) i) ∧ ∀ i, i < k → st.2 (67, 0, 0) (60 * t + i) = 0) k (N := 5000) (by omega) (s0 := (0, m)) ⟨rfl, fun _ _ => rfl, fun _ _ => rfl, fun k hk => absurd hk (Nat.not_lt_zero k)⟩ ?_ ?_
  · obtain ⟨⟨i', K⟩, hr, r1⟩ := hh
    exact ⟨i', K, hr, r1⟩
  · rintro j ⟨t1, K⟩ hj ⟨a1, a2, a4, a3⟩
    dsimp only at a1 a2 a3 a4
    subst a1
    have xj : ix (60 * (t : Int) + (j : Int)) = 60 * t + j := by rw [ix_of (by omega) (by omega)]; omega
    unfold fX12_tray_l44
    simp only [zlet_eq]
    rw [if_neg (by rw [w32_n (by omega), w32_n (by omega)]; omega), if_pos (zin_of (by omega) (by omega) (by decide)), xj]
    refine Or.inl ⟨_, rfl, by dsimp only; omega, fun q hq => by dsimp only; rw [zst_nq hq, a2 q hq], fun k hk => by dsimp only; rw [zst_nk (by omega)]; exact a4 k hk, fun k hk => ?_⟩
    dsimp only
    by_cases c0 : k = j
    · subst c0; rw [zst_at]
    · rw [zst_nk (by omega)]; exact a3 k (by omega)
  · rintro ⟨t1, K⟩ ⟨a1, a2, a4, a3⟩
    dsimp only at a1 a2 a3 a4
    subst a1
    unfold fX12_tray_l44
    dsimp only
    rw [if_pos (by omega)]
    exact ⟨_, rfl, a2, a4, a3⟩
section
variable {n : Int} {e : Nat → Prop} {c m : zMem}
/-- only trays changed -/
theorem RW.ty {n' : Int} {c' m' : zMem} (h : RW n e c m) (hn : n ≤ n') (hy : Ry c' m') (hc : ∀ q : zPl, q.1 ≠ 30 → q.1 ≠ 31 → kcb q.1 q.2.1 = true → c' q = c q) (hm : ∀ q : zPl, q.1 ≠ 66 → q.1 ≠ 67 → kmb q.1 = true → m' q = m q) : RW n' e c' m' := by
  obtain ⟨h1, h2, h3, h4⟩ := h
  have kr : ∀ L p r, L ≠ 0 → (r = 7 ∨ r = 8 ∨ r = 9 ∨ r = 10 ∨ r = 11 ∨ r = 33 ∨ r = 34 ∨ r = 35 ∨ r = 36 ∨ r = 37 ∨ r = 39 ∨ r = 40 ∨ r = 41) → c' (r, L, p) = c (r, L, p) := fun L p r hL hr => hc (r, L, p) (show r ≠ 30 by omega) (show r ≠ 31 by omega) (kc_1 (L := L) hr hL)
  have e51 : m' (51, 0, 0) = m (51, 0, 0) := hm (51, 0, 0) (by decide) (by decide) rfl
  refine ⟨h1.kp (hc (16, 0, 0) (by decide) (by decide) rfl) (hc (17, 0, 0) (by decide) (by decide) rfl) (hc (18, 0, 0) (by decide) (by decide) rfl) (hc (19, 0, 0) (by decide) (by decide) rfl) (hm (54, 0, 0) (by decide) (by decide) rfl) (hm (55, 0, 0) (by decide) (by decide) rfl), (h2.mo hn).ck (fun r p hr => kr 1 p r (by decide) hr) (fun k hk => by rw [e51]), fun i hi => ?_, hy⟩
  rw [hm (53, 0, 0) (by decide) (by decide) rfl, e51]
  rcases h3 i hi with ⟨f1, f2⟩ | ⟨f1, f2, f3⟩
  · exact Or.inl ⟨f1, f2⟩
  · exact Or.inr ⟨f1, f2, (f3.mo hn).ck (fun r p hr => kr (2 + i) p r (by omega) hr) (fun k hk => rfl)⟩
theorem Q_tray (h : RW n e c m) {a b : Int} (ha : i32 a) (hb : i32 b) : okC n e (fX11_tray a b c) (fX12_tray a b m) := by
  have h0 := h.th.mo (show n ≤ n + 60 by omega)
  have wa : w32 a = a := w32_id ha.1 ha.2
  have wb : w32 b = b := w32_id hb.1 hb.2
  unfold okC fX11_tray fX12_tray
  simp only [zlet_eq, wa, wb]
  generalize zst m (50, 0, 0) 0 0 = m0 at h0 ⊢
  rw [v_isTray ha, vz, v_within ha (by decide) (by decide), vz]
  by_cases c0 : 0 ≤ a ∧ a ≤ 3
  · rw [if_pos c0, if_pos c0, v_within hb (by decide) (by decide), vz]
    obtain ⟨t, rfl⟩ := nat_of c0.1
    have t4 : t < 4 := by omega
    by_cases c1 : 0 ≤ b ∧ b ≤ 60
    · obtain ⟨k, rfl⟩ := nat_of c1.1
      have xt : ix (t : Int) = t := ix_nat (by omega)
      obtain ⟨i', K, k1, k2, k3, k4⟩ := m_trayL (m := zst m0 (66, 0, 0) t (k : Int)) (t := t) (k := k) t4 (by omega)
      rw [if_neg (show ¬ (k : Int) < 0 by omega), if_pos c1.2, if_pos c1, if_pos (zin_nat t4 (by decide)), if_pos (zin_nat t4 (by decide)), xt, s_fillB _ (by decide), zb_some, k1, zb_some]
      dsimp only
      refine ⟨_, _, _, rfl, rfl, h0.ty (Int.le_refl _) (fun s hs => ?_) (fun q h1 h2 h3 => ?_) (fun q h1 h2 h3 => ?_)⟩
      · rw [zmp_ne (show ((31, 0, 0) : zPl) ≠ (30, 0, t) by simp), k2 (66, 0, 0) (by decide)]
        by_cases es : s = t
        · subst es
          rw [zst_at, zst_at]
          refine ⟨rfl, by omega, fun i hi => ?_⟩
          rw [zmp_in (by omega), k4 i (by omega)]; decide
        · rw [zst_nk es, zst_nk es, zmp_ne (show ((30, 0, s) : zPl) ≠ (30, 0, t) by simp [es]), zst_nq (by simp)]
          obtain ⟨f1, f2, f3⟩ := h0.2.2.2 s hs
          refine ⟨f1, f2, fun i hi => ?_⟩
          rw [k3 (60 * s + i) (by omega), zst_nq (by simp)]
          exact f3 i hi
      · rw [zmp_ne (fun e => h1 (by rw [e])), zst_nq (fun e => h2 (by rw [e]))]
      · rw [k2 q (fun e => h2 (by rw [e])), zst_nq (fun e => h1 (by rw [e]))]
    · rw [if_neg c1]
      by_cases c2 : b < 0
      · rw [if_pos c2]; exact ⟨_, _, _, rfl, rfl, h0⟩
      · rw [if_neg c2, if_neg (by omega)]; exact ⟨_, _, _, rfl, rfl, h0⟩
  · rw [if_neg c0, if_neg c0]; exact ⟨_, _, _, rfl, rfl, h0⟩
theorem w8_w8 (z : Int) : w8 (w8 z) = w8 z := w8_id (w8_rng z).1 (w8_rng z).2
theorem Q_write (h : RW n e c m) {a b v : Int} (ha : i32 a) (hb : i32 b) : okC n e (fX11_write a b v c) (fX12_write a b v m) := by
  have h0 := h.th.mo (show n ≤ n + 60 by omega)
  have wa : w32 a = a := w32_id ha.1 ha.2
  have wb : w32 b = b := w32_id hb.1 hb.2
  unfold okC fX11_write fX12_write fX12_noTray
  simp only [zlet_eq, wa, wb, w8_w8]
  generalize zst m (50, 0, 0) 0 0 = m0 at h0 ⊢
  rw [v_isTray ha, vz, v_within ha (by decide) (by decide), vz]
  by_cases c0 : 0 ≤ a ∧ a ≤ 3
  · rw [if_pos c0, if_pos c0]
    obtain ⟨t, rfl⟩ := nat_of c0.1
    have t4 : t < 4 := by omega
    have xt : ix (t : Int) = t := ix_nat (by omega)
    have zt : zin (t : Int) 4 := zin_nat t4 (by decide)
    obtain ⟨f1, f2, f3⟩ := h0.2.2.2 t t4
    have w66 : w32 (m0 (66, 0, 0) t) = m0 (66, 0, 0) t := w32_id (by omega) (by omega)
    have w66' : w32 (m0 (66, 0, 0) t - 1) = m0 (66, 0, 0) t - 1 := w32_id (by omega) (by omega)
    rw [c_missing t4 f1 f2, zb_some]
    simp only [xt, if_pos zt, w66, w66', f1]
    by_cases c1 : m0 (66, 0, 0) t = -1
    · rw [if_pos c1, if_pos c1, zb_some, if_neg (by decide), if_neg (by decide)]; exact ⟨_, _, _, rfl, rfl, h0⟩
    · rw [if_neg c1, if_neg c1, zb_some, if_pos w32_0, if_pos w32_0, v_within hb (by decide) (by omega), vz]
      by_cases c2 : 0 ≤ b ∧ b ≤ m0 (66, 0, 0) t - 1
      · obtain ⟨i, rfl⟩ := nat_of c2.1
        have xi : ix (i : Int) = i := ix_nat (by omega)
        have x60 : ix (60 * (t : Int) + (i : Int)) = 60 * t + i := by rw [ix_of (by omega) (by omega)]; omega
        rw [if_pos c2, if_neg (show ¬ (i : Int) < 0 by omega), if_pos (show (i : Int) < m0 (66, 0, 0) t by omega), if_pos (zin_nat (show i < 60 by omega) (by decide)), if_pos (zin_of (by omega) (by omega) (by decide)), xi, x60, zst_at, zst_at]
        refine ⟨_, _, _, rfl, rfl, h0.ty (Int.le_refl _) (fun s hs => ?_) (fun q h1 h2 h3 => zst_nq (fun e => h1 (by rw [e]))) (fun q h1 h2 h3 => zst_nq (fun e => h2 (by rw [e])))⟩
        obtain ⟨g1, g2, g3⟩ := h0.2.2.2 s hs
        rw [zst_nq (q := (30, 0, t)) (q' := (31, 0, 0)) (by simp), zst_nq (q := (67, 0, 0)) (q' := (66, 0, 0)) (by simp)]
        refine ⟨g1, g2, fun j hj => ?_⟩
        by_cases es : s = t
        · subst es
          by_cases ej : j = i
          · subst ej
            have := w8_rng v
            rw [zst_at, zst_at]; exact ⟨rfl, by omega, by omega⟩
          · rw [zst_nk ej, zst_nk (by omega)]; exact g3 j hj
        · rw [zst_nq (by simp [es]), zst_nk (by omega)]; exact g3 j hj
      · rw [if_neg c2]
        by_cases c3 : b < 0
        · rw [if_pos c3]; exact ⟨_, _, _, rfl, rfl, h0⟩
        · rw [if_neg c3, if_neg (by omega)]; exact ⟨_, _, _, rfl, rfl, h0⟩
  · rw [if_neg c0, if_neg c0, zb_some, if_neg (by decide)]; exact ⟨_, _, _, rfl, rfl, h0⟩
theorem c_listL {c : zMem} {t p k : Nat} (ht : t < 4) (hp : p < 8) (hk : k ≤ 39) (hf : pbd (c (41, 1, p))) : ∃ i' K, zlp (fX11_lists_l69 (t : Int) (p : Int) (k : Int)) 5000 (0, c) = some (i', K) ∧ (∀ q, q ≠ (30, 0, t) → K q = c q) ∧ (∀ j, k ≤ j → K (30, 0, t) j = c (30, 0, t) j) ∧ ∀ j, j < k → K (30, 0, t) j = pcl (c (41, 1, p) j) 127 := by
  have hh := zlp_inv (body := fX11_lists_l69 (t : Int) (p : Int) (k : Int)) (fun j st => st.1 = (j : Int) ∧ (∀ q, q ≠ (30, 0, t) → st.2 q = c q) ∧ (∀ i, k ≤ i → st.2 (30, 0, t) i = c (30, 0, t) i) ∧ ∀ i, i < j → st.2 (30, 0, t) i = pcl (c (41, 1, p) i) 127) (fun st => (∀ q, q ≠ (30, 0, t) → st.2 q = c q) ∧ (∀ i, k ≤ i → st.2 (30, 0, t) i = c (30, 0, t) i) ∧ ∀ i, i < k → st.2 (30, 0, t) i = pcl (c (41, 1, p) i) 127) k (N := 5000) (by omega) (s0 := (0, c)) ⟨rfl, fun _ _ => rfl, fun _ _ => rfl, fun k hk => absurd hk (Nat.not_lt_zero k)⟩ ?_ ?_
  · obtain ⟨⟨i', K⟩, hr, r1⟩ := hh
    exact ⟨i', K, hr, r1⟩
  · rintro j ⟨t1, K⟩ hj ⟨a1, a2, a4, a3⟩
    dsimp only at a1 a2 a3 a4
    subst a1
    have xj : ix (j : Int) = j := ix_nat (by omega)
    have xt : ix (t : Int) = t := ix_nat (by omega)
    have xp : ix (p : Int) = p := ix_nat (by omega)
    have e41 : K (41, 1, p) j = c (41, 1, p) j := by rw [a2 _ (by simp)]
    have hb := hf j (by omega)
    have hr := pcl_rng (v := c (41, 1, p) j) (l := 127) (by decide)
    have e8 : w8 (pcl (c (41, 1, p) j) 127) = pcl (c (41, 1, p) j) 127 := w8_id (by omega) (by omega)
    unfold fX11_lists_l69
    simp only [zlet_eq, xj, xt, xp, e41]
    rw [if_neg (by rw [w32_n (by omega), w32_n (by omega)]; omega), if_pos (zin_nat ht (by decide)), if_pos (zin_nat hp (by decide)), if_pos (zin_nat (show j < 39 by omega) (by decide)), c_within (by omega) (by decide), zb_some, if_pos (zin_nat (show j < 60 by omega) (by decide)), e8, e8]
    refine Or.inl ⟨_, rfl, by dsimp only; omega, fun q hq => by dsimp only; rw [zst_nq hq, a2 q hq], fun k hk => by dsimp only; rw [zst_nk (by omega)]; exact a4 k hk, fun k hk => ?_⟩
    dsimp only
    by_cases c0 : k = j
    · subst c0; rw [zst_at]
    · rw [zst_nk (by omega)]; exact a3 k (by omega)
  · rintro ⟨t1, K⟩ ⟨a1, a2, a4, a3⟩
    dsimp only at a1 a2 a3 a4
    subst a1
    unfold fX11_lists_l69
    dsimp only
    rw [if_pos (by omega)]
    exact ⟨_, rfl, a2, a4, a3⟩
theorem m_listL {m : zMem} {t k : Nat} {f : Nat → Int} (b : Int) (ht : t < 4) (hk : k ≤ 39) (hf : pbd f) (hS : ∀ j, j < 39 → m (58, 0, 0) j = f j) : ∃ i' K, zlp (fX12_lists_l75 (t : Int) b (k : Int)) 5000 (0, m) = some (i', K) ∧ (∀ q, q ≠ (67, 0, 0) → K q = m q) ∧ (∀ j, j < 60 * t ∨ 60 * t + k ≤ j → K (67, 0, 0) j = m (67, 0, 0) j) ∧ ∀ j, j < k → K (67, 0, 0) (60 * t + j) = pcl (f j) 127 := by
  have hh := zlp_inv (body := fX12_lists_l75 (t : Int) b (k : Int)) (fun j st => st.1 = (j : Int) ∧ (∀ q, q ≠ (67, 0, 0) → st.2 q = m q) ∧ (∀ i, i < 60 * t ∨ 60 * t + k ≤ i → st.2 (67, 0, 0) i = m (67, 0, 0) i) ∧ ∀ i, i < j → st.2 (67, 0, 0) (60 * t + i) = pcl (f i) 127) (fun st => (∀ q, q ≠ (67, 0, 0) → st.2 q = m q) ∧ (∀ i, i < 60 * t ∨ 60 * t + k ≤ i → st.2 (67, 0, 0) i = m (67, 0, 0) i) ∧ ∀ i, i < k → st.2 (67, 0, 0) (60 * t + i) = pcl (f i) 127) k (N := 5000) (by omega) (s0 := (0, m)) ⟨rfl, fun _ _ => rfl, fun _ _ => rfl, fun k hk => absurd hk (Nat.not_lt_zero k)⟩ ?_ ?_
  · obtain ⟨⟨i', K⟩, hr, r1⟩ := hh
    exact ⟨i', K, hr, r1⟩
  · rintro j ⟨t1, K⟩ hj ⟨a1, a2, a4, a3⟩
    dsimp only at a1 a2 a3 a4
    subst a1
    have xj : ix (j : Int) = j := ix_nat (by omega)
    have x60 : ix (60 * (t : Int) + (j : Int)) = 60 * t + j := by rw [ix_of (by omega) (by omega)]; omega
    have e58 : K (58, 0, 0) j = f j := by rw [a2 _ (by simp), hS j (by omega)]
    have hb := hf j (by omega)
    unfold fX12_lists_l75
    simp only [zlet_eq, xj, x60, e58]
    rw [if_neg (by rw [w32_n (by omega), w32_n (by omega)]; omega), if_pos (zin_nat (show j < 39 by omega) (by decide)), m_held (by omega) (by decide), zb_some, if_pos (zin_of (by omega) (by omega) (by decide))]
    refine Or.inl ⟨_, rfl, by dsimp only; omega, fun q hq => by dsimp only; rw [zst_nq hq, a2 q hq], fun k hk => by dsimp only; rw [zst_nk (by omega)]; exact a4 k hk, fun k hk => ?_⟩
    dsimp only
    by_cases c0 : k = j
    · subst c0; rw [zst_at]
    · rw [zst_nk (by omega)]; exact a3 k (by omega)
  · rintro ⟨t1, K⟩ ⟨a1, a2, a4, a3⟩
    dsimp only at a1 a2 a3 a4
    subst a1
    unfold fX12_lists_l75
    dsimp only
    rw [if_pos (by omega)]
    exact ⟨_, rfl, a2, a4, a3⟩
theorem Q_lists (h : RW n e c m) {a b : Int} (ha : i32 a) (hb : i32 b) : okC n e (fX11_lists a b c) (fX12_lists a b m) := by
  have h0 := h.th.mo (show n ≤ n + 60 by omega)
  have hE := h.E
  have wa : w32 a = a := w32_id ha.1 ha.2
  unfold okC fX11_lists fX12_lists
  simp only [zlet_eq, wa]
  rw [v_isTray ha, vz, v_within ha (by decide) (by decide), vz]
  by_cases c0 : 0 ≤ a ∧ a ≤ 3
  · rw [if_pos c0, if_pos c0]
    obtain ⟨t, rfl⟩ := nat_of c0.1
    have t4 : t < 4 := by omega
    have xt : ix (t : Int) = t := ix_nat (by omega)
    have zt : zin (t : Int) 4 := zin_nat t4 (by decide)
    obtain ⟨pn, n1, n2, n3, n4⟩ := h0.pn
    obtain ⟨f1, f2, f3⟩ := h0.2.2.2 t t4
    rw [v_isProcess n2 n3 hb, vz, m_isProcess n2 n4 hb, vz]
    by_cases c1 : 0 ≤ b ∧ b < (pn : Int)
    · rw [if_pos c1, if_pos (show 0 ≤ b ∧ b ≤ (pn : Int) - 1 by omega), c_missing t4 f1 f2, zb_some]
      have w66 : w32 (zst m (50, 0, 0) 0 0 (66, 0, 0) t) = zst m (50, 0, 0) 0 0 (66, 0, 0) t := w32_id (by omega) (by omega)
      simp only [xt, if_pos zt, w66, f1]
      by_cases c2 : zst m (50, 0, 0) 0 0 (66, 0, 0) t = -1
      · rw [if_pos c2, if_neg (by decide), if_pos c2]; exact ⟨_, _, _, rfl, rfl, h0⟩
      · obtain ⟨p, rfl⟩ := nat_of c1.1
        have p8 : p < 8 := by omega
        rw [if_neg c2, if_pos w32_0, if_neg c2, if_pos (zin_nat p8 (by decide)), ix_nat (by omega)]
        rcases P_refuse hE hb with ⟨r, r1, r2, r3⟩ | ⟨p', ep, p1, r2, hf, J, r3, r4, r5⟩
        · rw [r3, zb_some]
          dsimp only
          rw [if_neg r1]
          have hs : w32 (c (11, 1, p) 0) = -1 := by
            unfold fX11_refuseEar fX11_refuseEarAnd at r2
            rw [v_isProcess n2 n3 hb, vz, if_pos c1, if_neg (by decide), if_pos (zin_nat p8 (by decide)), ix_nat (by omega)] at r2
            refine Classical.byContradiction fun hc => ?_
            rw [if_neg hc, zb_some] at r2
            cases r2
            exact r1 (by decide)
          rw [if_pos hs]; exact ⟨_, _, _, rfl, rfl, h0⟩
        · have ep' : p' = p := by omega
          subst ep'
          have hs : ¬ w32 (c (11, 1, p') 0) = -1 := fun hc => by
            unfold fX11_refuseEar fX11_refuseEarAnd at r2
            rw [v_isProcess n2 n3 hb, vz, if_pos c1, if_neg (by decide), if_pos (zin_nat p8 (by decide)), ix_nat (by omega)] at r2
            rw [if_pos hc, zb_some] at r2
            cases r2
          rw [r3, zb_some]
          dsimp only
          rw [if_pos w32_0, if_neg hs]
          have e66 : J (66, 0, 0) = zst m (50, 0, 0) 0 0 (66, 0, 0) := by rw [r4 _ rfl, zst_nq (by simp)]
          obtain ⟨k, ek⟩ := nat_of (show 0 ≤ (if 39 ≤ zst m (50, 0, 0) 0 0 (66, 0, 0) t then 39 else zst m (50, 0, 0) 0 0 (66, 0, 0) t) by split <;> omega)
          have k39 : k ≤ 39 ∧ (k : Int) ≤ zst m (50, 0, 0) 0 0 (66, 0, 0) t := by
            by_cases cc : 39 ≤ zst m (50, 0, 0) 0 0 (66, 0, 0) t
            · rw [if_pos cc] at ek; omega
            · rw [if_neg cc] at ek; omega
          have ez : zmin 39 (zst m (50, 0, 0) 0 0 (66, 0, 0) t) = k := by
            unfold zmin
            rw [w66, show w32 39 = 39 by decide, ← ek]
            by_cases cc : 39 ≤ zst m (50, 0, 0) 0 0 (66, 0, 0) t
            · rw [if_pos cc, if_neg (by omega)]
            · rw [if_neg cc, if_pos (by omega)]
          obtain ⟨i1, K, k1, k2, k3, k4⟩ := c_listL (c := c) (t := t) (p := p') (k := k) t4 p8 k39.1 hf
          obtain ⟨i2, M, l1, l2, l3, l4⟩ := m_listL (m := J) (t := t) (k := k) (f := c (41, 1, p')) (p' : Int) t4 k39.1 hf r5
          have em : (if 39 ≤ w32 (J (66, 0, 0) t) then fX12_lists_b71 (t : Int) (p' : Int) 39 J else fX12_lists_b71 (t : Int) (p' : Int) (J (66, 0, 0) t) J) = fX12_lists_b71 (t : Int) (p' : Int) (k : Int) J := by
            rw [e66, w66]
            by_cases cc : 39 ≤ zst m (50, 0, 0) 0 0 (66, 0, 0) t
            · rw [if_pos cc] at ek ⊢; rw [ek]
            · rw [if_neg cc] at ek ⊢; rw [ek]
          rw [ez, em, k1, zb_some]
          unfold fX12_lists_b71
          rw [l1, zb_some]
          have hJ := h.kp (show n ≤ n + 60 by omega) (sC.rf c) r4
          refine ⟨_, _, _, rfl, rfl, hJ.ty (Int.le_refl _) (fun s hs' => ?_) (fun q h1 h2 h3 => k2 q (fun e => h1 (by rw [e]))) (fun q h1 h2 h3 => l2 q (fun e => h2 (by rw [e])))⟩
          obtain ⟨g1, g2, g3⟩ := hJ.2.2.2 s hs'
          dsimp only
          rw [k2 (31, 0, 0) (by simp), l2 (66, 0, 0) (by decide)]
          refine ⟨g1, g2, fun j hj => ?_⟩
          by_cases es : s = t
          · subst es
            by_cases cj : j < k
            · have := pcl_rng (v := c (41, 1, p') j) (l := 127) (by decide)
              rw [k4 j cj, l4 j cj]; exact ⟨rfl, by omega, by omega⟩
            · rw [k3 j (by omega), l3 (60 * s + j) (by omega)]; exact g3 j hj
          · rw [k2 _ (by simp [es]), l3 (60 * s + j) (by omega)]; exact g3 j hj
    · rw [if_neg c1, if_neg (show ¬ (0 ≤ b ∧ b ≤ (pn : Int) - 1) by omega)]; exact ⟨_, _, _, rfl, rfl, h0⟩
  · rw [if_neg c0, if_neg c0]; exact ⟨_, _, _, rfl, rfl, h0⟩
end
