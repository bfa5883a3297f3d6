/-! DRAINS -/
theorem m_stores (m : zMem) : ∃ K, fX12_stores m = some K ∧ (∀ q, q ≠ (52, 0, 0) → K q = m q) ∧ ∀ k, k < 1033 → K (52, 0, 0) k = m (51, 0, 0) k := by
  have hh := zlp_inv (body := fX12_stores_l2) (fun j st => st.1 = (j : Int) ∧ (∀ q, q ≠ (52, 0, 0) → st.2 q = m q) ∧ ∀ i, i < j → st.2 (52, 0, 0) i = m (51, 0, 0) i) (fun st => (∀ q, q ≠ (52, 0, 0) → st.2 q = m q) ∧ ∀ i, i < 1033 → st.2 (52, 0, 0) i = m (51, 0, 0) i) 1033 (N := 5000) (by decide) (s0 := (0, m)) ⟨rfl, fun _ _ => rfl, fun k hk => absurd hk (Nat.not_lt_zero k)⟩ ?_ ?_
  · obtain ⟨⟨i', K⟩, hr, r1⟩ := hh
    unfold fX12_stores
    rw [hr, zb_some]
    exact ⟨K, rfl, r1⟩
  · rintro j ⟨t1, K⟩ hj ⟨a1, a2, a3⟩
    dsimp only at a1 a2 a3
    subst a1
    have xj : ix (j : Int) = j := ix_nat (by omega)
    have e51 : K (51, 0, 0) j = m (51, 0, 0) j := by rw [a2 _ (by simp)]
    unfold fX12_stores_l2
    simp only [zlet_eq, xj, e51]
    rw [if_neg (by rw [w32_n (by omega)]; omega), if_pos (zin_of (by omega) (by omega) (by decide)), if_pos (zin_of (by omega) (by omega) (by decide))]
    refine Or.inl ⟨_, rfl, by dsimp only; omega, fun q hq => by dsimp only; rw [zst_nq hq, a2 q hq], fun i hi => ?_⟩
    dsimp only
    by_cases c0 : i = j
    · subst c0; rw [zst_at]
    · rw [zst_nk c0]; exact a3 i (by omega)
  · rintro ⟨t1, K⟩ ⟨a1, a2, a3⟩
    dsimp only at a1 a2 a3
    subst a1
    unfold fX12_stores_l2
    dsimp only
    rw [if_pos (by decide)]
    exact ⟨_, rfl, a2, a3⟩
theorem m_isAgain (m : zMem) : ∃ K, fX12_isAgain m = some K ∧ (∀ q, q ≠ (51, 0, 0) → K q = m q) ∧ (∀ k, 1033 ≤ k → K (51, 0, 0) k = m (51, 0, 0) k) ∧ ∀ k, k < 1033 → K (51, 0, 0) k = m (52, 0, 0) k := by
  have hh := zlp_inv (body := fX12_isAgain_l2) (fun j st => st.1 = (j : Int) ∧ (∀ q, q ≠ (51, 0, 0) → st.2 q = m q) ∧ (∀ k, 1033 ≤ k → st.2 (51, 0, 0) k = m (51, 0, 0) k) ∧ ∀ i, i < j → st.2 (51, 0, 0) i = m (52, 0, 0) i) (fun st => (∀ q, q ≠ (51, 0, 0) → st.2 q = m q) ∧ (∀ k, 1033 ≤ k → st.2 (51, 0, 0) k = m (51, 0, 0) k) ∧ ∀ i, i < 1033 → st.2 (51, 0, 0) i = m (52, 0, 0) i) 1033 (N := 5000) (by decide) (s0 := (0, m)) ⟨rfl, fun _ _ => rfl, fun _ _ => rfl, fun k hk => absurd hk (Nat.not_lt_zero k)⟩ ?_ ?_
  · obtain ⟨⟨i', K⟩, hr, r1⟩ := hh
    unfold fX12_isAgain
    rw [hr, zb_some]
    exact ⟨K, rfl, r1⟩
  · rintro j ⟨t1, K⟩ hj ⟨a1, a2, a4, a3⟩
    dsimp only at a1 a2 a3 a4
    subst a1
    have xj : ix (j : Int) = j := ix_nat (by omega)
    have e52 : K (52, 0, 0) j = m (52, 0, 0) j := by rw [a2 _ (by simp)]
    unfold fX12_isAgain_l2
    simp only [zlet_eq, xj, e52]
    rw [if_neg (by rw [w32_n (by omega)]; omega), if_pos (zin_of (by omega) (by omega) (by decide)), if_pos (zin_of (by omega) (by omega) (by decide))]
    refine Or.inl ⟨_, rfl, by dsimp only; omega, fun q hq => by dsimp only; rw [zst_nq hq, a2 q hq], fun k hk => by dsimp only; rw [zst_nk (by omega)]; exact a4 k hk, fun i hi => ?_⟩
    dsimp only
    by_cases c0 : i = j
    · subst c0; rw [zst_at]
    · rw [zst_nk c0]; exact a3 i (by omega)
  · rintro ⟨t1, K⟩ ⟨a1, a2, a4, a3⟩
    dsimp only at a1 a2 a3 a4
    subst a1
    unfold fX12_isAgain_l2
    dsimp only
    rw [if_pos (by decide)]
    exact ⟨_, rfl, a2, a4, a3⟩
theorem r_till {B : Int} {a : Nat} {c m : zMem} (h : RK 1 B c (m (51, 0, 0))) (ht : RT c m) (ha : a < 8) (hB : B + 240 ≤ 1000000000) : ∃ res C M, fX0_roundsTillClear 1 (a : Int) c = some (res, C) ∧ fX12_goesDrain (a : Int) m = some (res, M) ∧ RK 0 (B + 240) C (M (51, 0, 0)) ∧ sL 0 c C ∧ sN m M ∧ -1 ≤ res ∧ res ≤ 30 := by
  obtain ⟨C1, k1, k2, k3, k4⟩ := r_copy (L := 0) (L2 := 1) (by decide) h
  have hF := RK.fad k2 (a := 20) (by decide)
  have s1 : sL 0 c (zst C1 (7, 0, 0) 6 20) := fun q hq => by rw [zst_nq (kl_ne hq rfl), k3 q (kl_ka hq).2]
  have n1 : sN m (zst m (51, 0, 0) 6 20) := sN_51 m 20 (by decide)
  obtain ⟨res, C, M, l1, l2, l3, l4, l5⟩ := r_drainL (a := a) (L2 := 1) hB ha 30 0 5000 5000 (zst C1 (7, 0, 0) 6 20) (zst m (51, 0, 0) 6 20) (by decide) (hF.mo (by omega)) (ht.z s1 n1) (by decide) (by decide)
  refine ⟨res, C, M, ?_, ?_, l3.1, s1.tr (l3.2.1.L (fun q hq => hq)), n1.tr (l3.2.2.N (fun k hk => hk.2)), l4, l5⟩
  · unfold fX0_roundsTillClear
    rw [k1, zb_some]
    simp only [zlet_eq]
    exact l1
  · unfold fX12_goesDrain
    simp only [zlet_eq]
    exact l2
theorem sL.C {c c' : zMem} (h : sL 0 c c') : sC c c' := fun q hq => h q (by
  unfold kcb at hq
  unfold klb
  split at hq <;> simp_all)
/-- the model's places as they were -/
def sO (m m' : zMem) : Prop := m' (51, 0, 0) = m (51, 0, 0) ∧ m' (53, 0, 0) = m (53, 0, 0) ∧ m' (54, 0, 0) = m (54, 0, 0) ∧ m' (55, 0, 0) = m (55, 0, 0) ∧ m' (66, 0, 0) = m (66, 0, 0) ∧ m' (67, 0, 0) = m (67, 0, 0)
theorem RW.ko {n n' : Int} {e : Nat → Prop} {c m c' m' : zMem} (h : RW n e c m) (hn : n ≤ n') (hc : sC c c') (hm : sO m m') : RW n' e c' m' := by
  obtain ⟨m51, m53, m54, m55, m66, m67⟩ := hm
  obtain ⟨h1, h2, h3, h4⟩ := h
  refine ⟨h1.kp (hc _ rfl) (hc _ rfl) (hc _ rfl) (hc _ rfl) m54 m55, (h2.mo hn).ck (fun r p hr => hc (r, 1, p) (kc_1 (L := 1) hr (by decide))) (fun k hk => by rw [m51]), fun i hi => ?_, fun t ht => ?_⟩
  · rw [m53]
    rcases h3 i hi with ⟨f1, f2⟩ | ⟨f1, f2, f3⟩
    · exact Or.inl ⟨f1, f2⟩
    · exact Or.inr ⟨f1, f2, (f3.mo hn).ck (fun r p hr => hc (r, 2 + i, p) (kc_1 (L := 2 + i) hr (by omega))) (fun k hk => by rw [m51])⟩
  · rw [hc (31, 0, 0) rfl, hc (30, 0, t) rfl, m66, m67]
    exact h4 t ht
/-- there and back: all is as it was -/
theorem r_back {m m1 M m3 : zMem} (h1 : ∀ q, q ≠ (52, 0, 0) → m1 q = m q) (h2 : ∀ k, k < 1033 → m1 (52, 0, 0) k = m (51, 0, 0) k) (hM : sN m1 M) (h3 : ∀ q, q ≠ (51, 0, 0) → m3 q = M q) (h4 : ∀ k, 1033 ≤ k → m3 (51, 0, 0) k = M (51, 0, 0) k) (h5 : ∀ k, k < 1033 → m3 (51, 0, 0) k = M (52, 0, 0) k) : sO m m3 ∧ m3 (52, 0, 0) = m1 (52, 0, 0) := by
  have ho : ∀ r, kob r = true → r ≠ 52 → m3 (r, 0, 0) = m (r, 0, 0) := fun r hr h52 => by
    rw [h3 _ (fun e => by cases e; cases hr), hM.1 _ hr, h1 _ (by simp [h52])]
  refine ⟨⟨?_, ho 53 rfl (by decide), ho 54 rfl (by decide), ho 55 rfl (by decide), ho 66 rfl (by decide), ho 67 rfl (by decide)⟩, by rw [h3 _ (by simp), hM.1 _ rfl]⟩
  funext k
  by_cases c0 : k < 1033
  · rw [h5 k c0, hM.1 (52, 0, 0) rfl, h2 k c0]
  · rw [h4 k (by omega), hM.2 k (by omega), h1 _ (by simp)]
theorem RT.ko {c m c' m' : zMem} (h : RT c m) (hc : sC c c') (hm : sO m m') : RT c' m' := h.kp (hc _ rfl) (hc _ rfl) (hc _ rfl) (hc _ rfl) hm.2.2.1 hm.2.2.2.1
section
variable {n : Int} {e : Nat → Prop} {c m : zMem}
theorem Q_drain (h : RW n e c m) (hn : n ≤ 100000000) : okC n e (fX11_drain c) (fX12_drain m) := by
  have h0 := h.th
  unfold okC fX11_drain fX12_drain
  simp only [zlet_eq]
  generalize zst m (50, 0, 0) 0 0 = m0 at h0 ⊢
  obtain ⟨m1, k1, k2, k3⟩ := m_stores m0
  have e51 : m1 (51, 0, 0) = m0 (51, 0, 0) := k2 _ (by simp)
  obtain ⟨res, C, M, l1, l2, l3, l4, l5, l6⟩ := r_till (B := n) (a := 0) (c := c) (m := m1) (by rw [e51]; exact h0.2.1) (h0.1.kp rfl rfl rfl rfl (k2 _ (by simp)) (k2 _ (by simp))) (by decide) (by omega)
  obtain ⟨m3, j1, j2, j3, j4⟩ := m_isAgain M
  have l1' : fX0_roundsTillClear 1 0 c = some (res, C) := l1
  have l2' : fX12_goesDrain 0 m1 = some (res, M) := l2
  rw [l1', zb_some, k1, zb_some, l2', zb_some]
  dsimp only
  rw [j1, zb_some]
  exact ⟨_, _, _, rfl, rfl, h0.ko (by omega) l4.C (r_back k2 k3 l5 j2 j3 j4).1⟩
theorem RK.tight {L : Nat} {B : Int} {c : zMem} {g : Nat → Int} (h : RK L B c g) : RK L (g 66 + psr g) c g := by
  obtain ⟨h1, h2, ⟨⟨a1, a2, a3, a4, a5, a6, a7⟩, hq⟩, h4⟩ := h
  exact ⟨h1, h2, ⟨⟨a1, a2, a3, a4, a5, Int.le_refl _, a7⟩, hq⟩, h4⟩
theorem Q_drained (h : RW n e c m) (hn : n ≤ 100000000) {a : Int} (ha : i32 a) : okC n e (fX11_drained a c) (fX12_drained a m) := by
  have h0 := h.th
  have wa : w32 a = a := w32_id ha.1 ha.2
  unfold okC fX11_drained fX12_drained fX12_drained_b62 fX5_givenAgo
  simp only [zlet_eq, wa]
  generalize zst m (50, 0, 0) 0 0 = m0 at h0 ⊢
  have hf := h0.mo (show n ≤ n + 60 by omega)
  by_cases c0 : 0 ≤ a
  · obtain ⟨m1, k1, k2, k3⟩ := m_stores m0
    have e51 : m1 (51, 0, 0) = m0 (51, 0, 0) := k2 _ (by simp)
    have hp0 := psr_rng (m0 (51, 0, 0))
    have hv := h0.2.1.2.2.1.1
    have b6 := hv.2.2.2.2.2.1
    have b5 := hv.2.2.2.2.1
    obtain ⟨res, C, M, l1, l2, l3, l4, l5, l6⟩ := r_till (B := m0 (51, 0, 0) 66 + psr (m0 (51, 0, 0))) (a := 0) (c := c) (m := m1) (by rw [e51]; exact h0.2.1.tight) (h0.1.kp rfl rfl rfl rfl (k2 _ (by simp)) (k2 _ (by simp))) (by decide) (by omega)
    obtain ⟨m3, j1, j2, j3, j4⟩ := m_isAgain M
    have l1' : fX0_roundsTillClear 1 0 c = some (res, C) := l1
    have l2' : fX12_goesDrain 0 m1 = some (res, M) := l2
    have hW := h0.ko (show n ≤ n + 60 by omega) l4.C (r_back k2 k3 l5 j2 j3 j4).1
    have hp1 := psr_rng (M (51, 0, 0))
    obtain ⟨⟨-, -, -, v4, v5, v6, -, -, -, -, v11⟩, -⟩ := l3.2.2.1
    have c9 : C (9, 1, 0) 6 = m0 (51, 0, 0) 66 := by rw [l4 (9, 1, 0) rfl, hv.2.2.2.1]
    rw [if_pos c0, if_pos c0, l1', zb_some, k1, zb_some, l2', zb_some]
    dsimp only
    rw [j1, zb_some, zb_some]
    have wd : w32 (M (51, 0, 0) 66 - m0 (51, 0, 0) 66) = M (51, 0, 0) 66 - m0 (51, 0, 0) 66 := w32_id (by omega) (by omega)
    simp only [e51, v4, c9, wd]
    by_cases c1 : M (51, 0, 0) 66 - m0 (51, 0, 0) 66 ≤ a
    · rw [if_pos c1, if_pos c1]; exact ⟨_, _, _, rfl, rfl, hW⟩
    · have we : w32 (M (51, 0, 0) 66 - m0 (51, 0, 0) 66 - 1 - a) = M (51, 0, 0) 66 - m0 (51, 0, 0) 66 - 1 - a := w32_id (by omega) (by omega)
      have wm : w32 (M (51, 0, 0) 66) = M (51, 0, 0) 66 := w32_id (by omega) (by omega)
      obtain ⟨j, ej⟩ := nat_of (show 0 ≤ (m0 (51, 0, 0) 66 + a) % 256 by omega)
      have er : irem (m0 (51, 0, 0) 66 + a) 256 = (j : Int) := by rw [irem_of (by omega) (by omega) (by decide) (by decide), ej]
      have ei : (M (51, 0, 0) 66 - 1 - (M (51, 0, 0) 66 - m0 (51, 0, 0) 66 - 1 - a)) % 256 = (j : Int) := by rw [show M (51, 0, 0) 66 - 1 - (M (51, 0, 0) 66 - m0 (51, 0, 0) 66 - 1 - a) = m0 (51, 0, 0) 66 + a by omega, ej]
      have x1 : ix (73 + (j : Int)) = 73 + j := by rw [ix_of (by omega) (by omega)]; omega
      simp only [we, wm, er, ei]
      rw [if_neg c1, if_neg c1, if_neg (by omega), if_neg (by omega), if_pos (by omega), if_pos (zin_nat (show j < 256 by omega) (by decide)), if_pos (zin_of (by omega) (by omega) (by decide)), ix_nat (by omega), x1, zb_some, v11 j (by omega) (by omega)]
      exact ⟨_, _, _, rfl, rfl, hW⟩
  · rw [if_neg c0, if_neg c0]; exact ⟨_, _, _, rfl, rfl, hf⟩
theorem r_worstL {k : Nat} (hk : k ≤ 8) {B : Int} (hB : B + 240 ≤ 1000000000) (g : Nat → Int) {a : Int} (hsh : w32 (ishl 1 a) = (k : Int)) (b : Int) : ∀ (r j N N' : Nat) (c m : zMem) (mo ch mo' : Int), j + r = k → RK 1 B c (m (51, 0, 0)) → RT c m → (∀ i, i < 1033 → m (52, 0, 0) i = m (51, 0, 0) i) → (j = 0 → mo = 0 ∧ mo' = -1) → (0 < j → mo = mo') → 0 ≤ mo ∧ mo ≤ 31 → (j = 0 → ch = 0) → r < N → r < N' → ∃ mo2 mo2' ch2 i1 i2 c' m', zlp (fX11_worst_l32 a b) N (mo, ch, (j : Int), c) = some (mo2, ch2, i1, c') ∧ zlp (fX12_worst_l45 a b) N' (mo', ch, (j : Int), m) = some (mo2', ch2, i2, m') ∧ (0 < k → mo2 = mo2') ∧ 0 ≤ mo2 ∧ mo2 ≤ 31 ∧ sC c c' ∧ sO m m' := by
  intro r
  induction r with
  | zero =>
    intro j N N' c m mo ch mo' hj h ht hs h0 h1 hb hc hN hN'
    have ej : j = k := by omega
    subst ej
    refine ⟨mo, mo', ch, j, j, c, m, zlp_ex (by omega) ?_, zlp_ex (by omega) ?_, h1, hb.1, hb.2, sC.rf c, ⟨rfl, rfl, rfl, rfl, rfl, rfl⟩⟩
    · unfold fX11_worst_l32
      dsimp only
      rw [if_pos (by rw [hsh, w32_n (by omega)]; exact Int.le_refl _)]
    · unfold fX12_worst_l45
      dsimp only
      rw [if_pos (by rw [hsh, w32_n (by omega)]; exact Int.le_refl _)]
  | succ r ih =>
    intro j N N' c m mo ch mo' hj h ht hs h0 h1 hb hc hN hN'
    obtain ⟨x, rfl⟩ : ∃ n, N = n + 1 := ⟨N - 1, by omega⟩
    obtain ⟨x', rfl⟩ : ∃ n, N' = n + 1 := ⟨N' - 1, by omega⟩
    obtain ⟨res, C, M, l1, l2, l3, l4, l5, l6, l7⟩ := r_till (a := j) h ht (by omega) hB
    obtain ⟨m3, j1, j2, j3, j4⟩ := m_isAgain M
    obtain ⟨b1, b2⟩ := r_back (m := m) (m1 := m) (fun _ _ => rfl) hs l5 j2 j3 j4
    have wr : w32 res = res := w32_id (by omega) (by omega)
    -- the length of this choice
    have hlen : ∃ ln : Int, 0 ≤ ln ∧ ln ≤ 31 ∧ fX11_worst_l32 a b (mo, ch, (j : Int), c) = fX11_worst_b32_68 a b mo ch (j : Int) ln C ∧ fX12_worst_l45 a b (mo', ch, (j : Int), m) = fX12_worst_b45_75 a b mo' ch (j : Int) ln m3 := by
      by_cases c1 : res = -1
      · refine ⟨31, by decide, by decide, ?_, ?_⟩
        · unfold fX11_worst_l32
          dsimp only
          rw [if_neg (by rw [hsh, w32_n (by omega)]; omega), l1, zb_some]
          dsimp only
          rw [wr, if_pos c1]
        · unfold fX12_worst_l45
          dsimp only
          rw [if_neg (by rw [hsh, w32_n (by omega)]; omega), l2, zb_some]
          dsimp only
          rw [j1, zb_some, wr, if_pos c1]
      · refine ⟨res, by omega, by omega, ?_, ?_⟩
        · unfold fX11_worst_l32
          dsimp only
          rw [if_neg (by rw [hsh, w32_n (by omega)]; omega), l1, zb_some]
          dsimp only
          rw [wr, if_neg c1]
        · unfold fX12_worst_l45
          dsimp only
          rw [if_neg (by rw [hsh, w32_n (by omega)]; omega), l2, zb_some]
          dsimp only
          rw [j1, zb_some, wr, if_neg c1]
    obtain ⟨ln, n1, n2, n3, n4⟩ := hlen
    have wl : w32 ln = ln := w32_id (by omega) (by omega)
    have wm : w32 mo = mo := w32_id (by omega) (by omega)
    have hs3 : ∀ i, i < 1033 → m3 (52, 0, 0) i = m3 (51, 0, 0) i := fun i hi => by rw [b2, b1.1, hs i hi]
    have hK3 : RK 1 B C (m3 (51, 0, 0)) := by
      rw [b1.1]
      exact h.ck (fun r p hr => l4 (r, 1, p) (kl_other (L := 0) (L2 := 1) (by decide) hr)) (fun k hk => rfl)
    have go : ∀ mo2 ch2 : Int, 0 ≤ mo2 ∧ mo2 ≤ 31 → fX11_worst_b32_68 a b mo ch (j : Int) ln C = some (.inl (mo2, ch2, (j : Int) + 1, C)) → fX12_worst_b45_75 a b mo' ch (j : Int) ln m3 = some (.inl (mo2, ch2, (j : Int) + 1, m3)) → ∃ mo2 mo2' ch2 i1 i2 c' m', zlp (fX11_worst_l32 a b) (x + 1) (mo, ch, (j : Int), c) = some (mo2, ch2, i1, c') ∧ zlp (fX12_worst_l45 a b) (x' + 1) (mo', ch, (j : Int), m) = some (mo2', ch2, i2, m') ∧ (0 < k → mo2 = mo2') ∧ 0 ≤ mo2 ∧ mo2 ≤ 31 ∧ sC c c' ∧ sO m m' := fun mo2 ch2 hb2 g1 g2 => by
      rw [zlp_in (n3.trans g1), zlp_in (n4.trans g2), show (j : Int) + 1 = ((j + 1 : Nat) : Int) by omega]
      obtain ⟨q1, q2, q3, q4, q5, q6, q7, f1, f2, f3, f4, f5, f6, f7⟩ := ih (j + 1) x x' C m3 mo2 ch2 mo2 (by omega) hK3 (ht.ko l4.C b1) hs3 (fun e => by omega) (fun _ => rfl) hb2 (fun e => by omega) (by omega) (by omega)
      exact ⟨q1, q2, q3, q4, q5, q6, q7, f1, f2, f3, f4, f5, l4.C.tr f6, ⟨f7.1.trans b1.1, f7.2.1.trans b1.2.1, f7.2.2.1.trans b1.2.2.1, f7.2.2.2.1.trans b1.2.2.2.1, f7.2.2.2.2.1.trans b1.2.2.2.2.1, f7.2.2.2.2.2.trans b1.2.2.2.2.2⟩⟩
    by_cases cj : j = 0
    · subst cj
      obtain ⟨d1, d2⟩ := h0 rfl
      have d3 := hc rfl
      subst d1 d2 d3
      refine go ln 0 ⟨n1, n2⟩ ?_ ?_
      · unfold fX11_worst_b32_68 fX11_worst_b32_83
        rw [wl, wm]
        by_cases c2 : ln ≤ 0
        · rw [if_pos c2, show ln = 0 by omega]
        · rw [if_neg c2]; rfl
      · unfold fX12_worst_b45_75 fX12_worst_b45_91
        rw [wl, if_pos (by rw [show w32 (-1) = -1 by decide]; omega)]; rfl
    · have d1 := h1 (by omega)
      subst d1
      by_cases c2 : ln ≤ mo
      · refine go mo ch hb ?_ ?_
        · unfold fX11_worst_b32_68 fX11_worst_b32_83
          rw [wl, wm, if_pos c2]
        · unfold fX12_worst_b45_75 fX12_worst_b45_91
          rw [wl, wm, if_neg (by omega)]
      · refine go ln j ⟨n1, n2⟩ ?_ ?_
        · unfold fX11_worst_b32_68 fX11_worst_b32_83
          rw [wl, wm, if_neg c2]
        · unfold fX12_worst_b45_75 fX12_worst_b45_91
          rw [wl, wm, if_pos (by omega)]
theorem Q_worst (h : RW n e c m) (hn : n ≤ 100000000) {a b : Int} (ha : i32 a) (hb : i32 b) : okC n e (fX11_worst a b c) (fX12_worst a b m) := by
  have h0 := h.th
  have wa : w32 a = a := w32_id ha.1 ha.2
  have wb : w32 b = b := w32_id hb.1 hb.2
  unfold okC fX11_worst fX12_worst
  simp only [zlet_eq, wa, wb]
  generalize zst m (50, 0, 0) 0 0 = m0 at h0 ⊢
  have hf := h0.mo (show n ≤ n + 60 by omega)
  rw [v_within hb (by decide) (by decide), vz]
  by_cases c0 : 0 ≤ b ∧ b ≤ 1
  · rw [if_neg (show ¬ b < 0 by omega), if_pos c0.2, if_pos c0, v_within ha (by decide) (by decide), vz]
    by_cases c1 : 0 ≤ a ∧ a ≤ 3
    · obtain ⟨s, rfl⟩ := nat_of c1.1
      obtain ⟨m1, k1, k2, k3⟩ := m_stores m0
      have e51 : m1 (51, 0, 0) = m0 (51, 0, 0) := k2 _ (by simp)
      have hpow : 2 ^ s ≤ 8 ∧ 0 < 2 ^ s := by
        rcases (show s = 0 ∨ s = 1 ∨ s = 2 ∨ s = 3 by omega) with rfl | rfl | rfl | rfl <;> decide
      have hsh : w32 (ishl 1 (s : Int)) = ((2 ^ s : Nat) : Int) := by
        rw [show (1 : Int) = ((1 : Nat) : Int) from rfl, ishl_nat (by omega), Nat.one_mul]
        exact w32_n (by omega)
      obtain ⟨mo, mo', ch, i1, i2, C, M, l1, l2, l3, l4, l5, l6, l7⟩ := r_worstL (k := 2 ^ s) hpow.1 (B := n) (by omega) (m1 (51, 0, 0)) hsh b (2 ^ s) 0 5000 5000 c m1 0 0 (-1) (by omega) (by rw [e51]; exact h0.2.1) (h0.1.kp rfl rfl rfl rfl (k2 _ (by simp)) (k2 _ (by simp))) (fun i hi => by rw [k3 i hi, e51]) (fun _ => ⟨rfl, rfl⟩) (fun hh => by omega) (by decide) (fun _ => rfl) (by omega) (by omega)
      have l1' : zlp (fX11_worst_l32 (s : Int) b) 5000 (0, 0, 0, c) = some (mo, ch, i1, C) := l1
      have l2' : zlp (fX12_worst_l45 (s : Int) b) 5000 (-1, 0, 0, m1) = some (mo', ch, i2, M) := l2
      have em := l3 hpow.2
      subst em
      have hO : sO m0 M := ⟨l7.1.trans e51, l7.2.1.trans (k2 _ (by simp)), l7.2.2.1.trans (k2 _ (by simp)), l7.2.2.2.1.trans (k2 _ (by simp)), l7.2.2.2.2.1.trans (k2 _ (by simp)), l7.2.2.2.2.2.trans (k2 _ (by simp))⟩
      have hW := h0.ko (show n ≤ n + 60 by omega) l6 hO
      rw [if_neg (show ¬ (s : Int) < 0 by omega), if_pos c1.2, if_pos c1, l1', zb_some, k1, zb_some, l2', zb_some]
      dsimp only
      by_cases c2 : b = 1
      · rw [if_pos c2, if_pos c2]; exact ⟨_, _, _, rfl, rfl, hW⟩
      · rw [if_neg c2, if_neg c2]
        by_cases c3 : w32 mo ≤ 30
        · rw [if_pos c3, if_pos c3]; exact ⟨_, _, _, rfl, rfl, hW⟩
        · rw [if_neg c3, if_neg c3]; exact ⟨_, _, _, rfl, rfl, hW⟩
    · rw [if_neg c1]
      by_cases c2 : a < 0
      · rw [if_pos c2]; exact ⟨_, _, _, rfl, rfl, hf⟩
      · rw [if_neg c2, if_neg (by omega)]; exact ⟨_, _, _, rfl, rfl, hf⟩
  · rw [if_neg c0]
    by_cases c1 : b < 0
    · rw [if_pos c1]; exact ⟨_, _, _, rfl, rfl, hf⟩
    · rw [if_neg c1, if_neg (by omega)]; exact ⟨_, _, _, rfl, rfl, hf⟩
end
