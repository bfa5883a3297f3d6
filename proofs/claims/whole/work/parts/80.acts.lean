/-! ACTS on the link -/
theorem RK.prm {L : Nat} {B : Int} {c c' : zMem} {g g' : Nat → Int} (h : RK L B c g) (hp : Rp L c' g') (hc : ∀ q, q ≠ (7, L, 0) → c' q = c q) (hg : ∀ k, 7 ≤ k ∨ k = 0 ∨ k = 3 → g' k = g k) : RK L B c' g' := by
  obtain ⟨g1, g2, g3, g4, g5, g6⟩ := h
  have e : ∀ r p, r ≠ 7 → c' (r, L, p) = c (r, L, p) := fun r p a => hc _ (by simp [a])
  exact ⟨hp, g2.cg (e 8 0 (by decide)) (e 33 0 (by decide)) (e 34 0 (by decide)) (e 35 0 (by decide)) (e 36 0 (by decide)) (fun k hk _ => hg k (by omega)), g3.cg (fun k _ _ => by rw [e 9 0 (by decide)]) (e 39 0 (by decide)) (e 40 0 (by decide)) (fun k hk _ _ _ _ _ => hg k (by omega)), g4.cg (by rw [e 9 0 (by decide)]) (by rw [e 9 0 (by decide)]) (hg _ (by omega)) (hg _ (by omega)) (hg _ (by omega)), fun p' hp' => (g5 p' hp').cg (e 10 p' (by decide)) (e 37 p' (by decide)) (hg _ (by omega)) (hg _ (by omega)) (fun k hk _ _ => hg k (by omega)) (fun k hk _ => hg k (by omega)), fun p' hp' => (g6 p' hp').cg (e 11 p' (by decide)) (e 41 p' (by decide)) (fun k hk _ => hg k (by omega))⟩
theorem RK.lim {L : Nat} {B a : Int} {c m : zMem} (h : RK L B c (m (51, 0, 0))) (ha : 1 ≤ a ∧ a ≤ 9999) : RK L B (zst c (7, L, 0) 5 a) (zst m (51, 0, 0) 5 a (51, 0, 0)) := by
  obtain ⟨p0, p1, p2, p3, p4, p5, p6, p7⟩ := h.1
  refine h.prm ⟨fun k hk => ?_, by rw [zst_nk (by decide)]; exact p1, by rw [zst_nk (by decide)]; exact p2, by rw [zst_nk (by decide)]; exact p3, by rw [zst_nk (by decide)]; exact p4, by rw [zst_nk (by decide)]; exact p5, by rw [zst_at]; exact ha, by rw [zst_nk (by decide)]; exact p7⟩ (fun q hq => zst_nq hq) (fun k hk => zst_nk (by omega))
  by_cases e : k = 5
  · subst e; rw [zst_at, zst_at]
  · rw [zst_nk e, zst_nk e]; exact p0 k hk
theorem RK.fad {L : Nat} {B a : Int} {c m : zMem} (h : RK L B c (m (51, 0, 0))) (ha : 0 ≤ a ∧ a ≤ 60) : RK L B (zst c (7, L, 0) 6 a) (zst m (51, 0, 0) 6 a (51, 0, 0)) := by
  obtain ⟨p0, p1, p2, p3, p4, p5, p6, p7⟩ := h.1
  refine h.prm ⟨fun k hk => ?_, by rw [zst_nk (by decide)]; exact p1, by rw [zst_nk (by decide)]; exact p2, by rw [zst_nk (by decide)]; exact p3, by rw [zst_nk (by decide)]; exact p4, by rw [zst_nk (by decide)]; exact p5, by rw [zst_nk (by decide)]; exact p6, by rw [zst_at]; exact ha⟩ (fun q hq => zst_nq hq) (fun k hk => zst_nk (by omega))
  by_cases e : k = 6
  · subst e; rw [zst_at, zst_at]
  · rw [zst_nk e, zst_nk e]; exact p0 k hk
theorem sN_51 (m : zMem) {k : Nat} (z : Int) (hk : k < 1033) : sN m (zst m (51, 0, 0) k z) := ⟨fun q hq => zst_nq (ko_ne hq rfl), fun j hj => zst_nk (by omega)⟩
theorem sL_1 (c : zMem) {q : zPl} (k : Nat) (z : Int) (hq : klb 1 q.1 q.2.1 = false) : sL 1 c (zst c q k z) := fun q' hq' => zst_nq (kl_ne hq' hq)
section
variable {n : Int} {e : Nat → Prop} {c m : zMem}
theorem Q_limit (h : RW n e c m) {a : Int} (ha : i32 a) : okC n e (fX11_limit a c) (fX12_limit a m) := by
  have h0 := h.th.mo (show n ≤ n + 60 by omega)
  have wa : w32 a = a := w32_id ha.1 ha.2
  unfold okC fX11_limit fX12_limit
  simp only [zlet_eq, wa]
  generalize zst m (50, 0, 0) 0 0 = m0 at h0 ⊢
  rw [v_within ha (by decide) (by decide), vz]
  by_cases c0 : 1 ≤ a ∧ a ≤ 9999
  · rw [if_neg (show ¬ a < 1 by omega), if_pos c0.2, if_pos c0, h0.2.1.1.1 5 (by decide)]
    exact ⟨_, _, _, rfl, rfl, h0.st (Int.le_refl _) (h0.2.1.lim c0) (sL_1 c 5 a rfl) (sN_51 m0 a (by decide))⟩
  · rw [if_neg c0]
    by_cases c1 : a < 1
    · rw [if_pos c1]; exact ⟨_, _, _, rfl, rfl, h0⟩
    · rw [if_neg c1, if_neg (by omega)]; exact ⟨_, _, _, rfl, rfl, h0⟩
theorem Q_fade (h : RW n e c m) {a : Int} (ha : i32 a) : okC n e (fX11_fade a c) (fX12_fade a m) := by
  have h0 := h.th.mo (show n ≤ n + 60 by omega)
  have wa : w32 a = a := w32_id ha.1 ha.2
  unfold okC fX11_fade fX12_fade
  simp only [zlet_eq, wa]
  generalize zst m (50, 0, 0) 0 0 = m0 at h0 ⊢
  rw [v_within ha (by decide) (by decide), vz]
  by_cases c0 : 0 ≤ a ∧ a ≤ 60
  · rw [if_neg (show ¬ a < 0 by omega), if_pos c0.2, if_pos c0, h0.2.1.1.1 6 (by decide)]
    exact ⟨_, _, _, rfl, rfl, h0.st (Int.le_refl _) (h0.2.1.fad c0) (sL_1 c 6 a rfl) (sN_51 m0 a (by decide))⟩
  · rw [if_neg c0]
    by_cases c1 : a < 0
    · rw [if_pos c1]; exact ⟨_, _, _, rfl, rfl, h0⟩
    · rw [if_neg c1, if_neg (by omega)]; exact ⟨_, _, _, rfl, rfl, h0⟩
theorem Q_offer (h : RW n e c m) {a : Int} (ha : i32 a) : okC n e (fX11_offer a c) (fX12_offer a m) := by
  have h0 := h.th.mo (show n ≤ n + 60 by omega)
  have wa : w32 a = a := w32_id ha.1 ha.2
  unfold okC fX11_offer fX12_offer
  simp only [zlet_eq, wa]
  generalize zst m (50, 0, 0) 0 0 = m0 at h0 ⊢
  obtain ⟨⟨s1, s2, s3⟩, s4, s5, s8, s9, s12, s15, s16, s17⟩ := h0.2.1.2.1
  rw [v_within ha (by decide) (by decide), vz]
  by_cases c0 : 0 ≤ a ∧ a ≤ 31
  · obtain ⟨k, ek⟩ := nat_of s2
    have xk : ix (k : Int) = k := ix_nat (by omega)
    have x8 : ix (8 + (k : Int)) = 8 + k := by rw [ix_of (by omega) (by omega)]; omega
    have wk : w32 (k : Int) = k := w32_n (by omega)
    rw [if_neg (show ¬ a < 0 by omega), if_pos c0.2, if_pos c0]
    simp only [s1, ek, wk, xk, x8]
    by_cases c1 : (k : Int) < 20
    · have r1 : zst c (33, 1, 0) k a (8, 1, 0) 5 = k := by rw [zst_nq (by simp), s1, ek]
      have r2 : zst m0 (51, 0, 0) (8 + k) a (51, 0, 0) 7 = k := by rw [zst_nk (by omega), ek]
      rw [if_pos c1, if_neg (show ¬ (k : Int) = 20 by omega), if_pos (zin_nat (show k < 20 by omega) (by decide)), if_pos (zin_of (by omega) (by omega) (by decide))]
      simp only [r1, r2, zst_at]
      refine ⟨_, _, _, rfl, rfl, h0.st (Int.le_refl _) ?_ ((sL_1 c k a rfl).tr (sL_1 _ 5 _ rfl)) ((sN_51 m0 a (by omega)).tr (sN_51 _ _ (by decide)))⟩
      have g : ∀ j, j ≠ 7 → j ≠ 8 + k → zst (zst m0 (51, 0, 0) (8 + k) a) (51, 0, 0) 7 ((k : Int) + 1) (51, 0, 0) j = m0 (51, 0, 0) j := fun j a1 a2 => by rw [zst_nk a1, zst_nk a2]
      have q8 : ∀ j, j ≠ 5 → zst (zst c (33, 1, 0) k a) (8, 1, 0) 5 ((k : Int) + 1) (8, 1, 0) j = c (8, 1, 0) j := fun j hj => by rw [zst_nk hj, zst_nq (by simp)]
      have qq : ∀ r p, r ≠ 8 → r ≠ 33 → zst (zst c (33, 1, 0) k a) (8, 1, 0) 5 ((k : Int) + 1) (r, 1, p) = c (r, 1, p) := fun r p a1 a2 => by rw [zst_nq (by simp [a1]), zst_nq (by simp [a2])]
      refine h0.2.1.snd2 ⟨by rw [zst_at, zst_at]; omega, fun i hi => ?_, by rw [q8 6 (by decide), g 30 (by decide) (by omega)]; exact s5, fun i hi => ?_, by rw [q8 7 (by decide), g 28 (by decide) (by omega)]; exact s9, by rw [q8 8 (by decide), g 29 (by decide) (by omega)]; exact s12, fun s hs => ?_, by rw [q8 9 (by decide), g 70 (by decide) (by omega)]; exact s16, by rw [q8 10 (by decide), g 71 (by decide) (by omega)]; exact s17⟩ (fun r p a1 a2 a3 a4 a5 => qq r p a1 a2) (fun j hj => g j (by omega) (by omega))
      · rw [zst_at] at hi
        rw [zst_nq (q' := (33, 1, 0)) (by simp), zst_nk (k := 7) (j := 8 + i) (by omega)]
        by_cases ei : i = k
        · subst ei; rw [zst_at, zst_at]; exact ⟨rfl, c0⟩
        · rw [zst_nk ei, zst_nk (by omega)]; exact s4 i (by omega)
      · rw [g 30 (by decide) (by omega)] at hi
        rw [pky_cg (g _ (by decide) (by omega)) (g _ (by decide) (by omega)), g (31 + i) (by omega) (by omega), qq 36 0 (by decide) (by decide)]; exact s8 i hi
      · rw [pky_cg (g _ (by decide) (by omega)) (g _ (by decide) (by omega)), g (39 + s) (by omega) (by omega), g (47 + s) (by omega) (by omega), qq 34 0 (by decide) (by decide), qq 35 0 (by decide) (by decide)]; exact s15 s hs
    · rw [if_neg c1, if_pos (show (k : Int) = 20 by omega)]; exact ⟨_, _, _, rfl, rfl, h0⟩
  · rw [if_neg c0]
    by_cases c1 : a < 0
    · rw [if_pos c1]; exact ⟨_, _, _, rfl, rfl, h0⟩
    · rw [if_neg c1, if_neg (by omega)]; exact ⟨_, _, _, rfl, rfl, h0⟩
theorem RW.S {n' : Int} {c' m' : zMem} (h : RW n e c m) (hn : n ≤ n') (hs : RS 1 n' c m c' m') : RW n' e c' m' := h.st hn hs.1 (hs.2.1.L (fun q hq => hq)) (hs.2.2.N (fun k hk => hk.2))
theorem Q_answer (h : RW n e c m) {a b : Int} (ha : i32 a) (hb : i32 b) : okC n e (fX11_answer a b c) (fX12_answer a b m) := by
  have h0 := h.th.mo (show n ≤ n + 60 by omega)
  have wb : w32 b = b := w32_id hb.1 hb.2
  unfold okC fX11_answer fX12_answer
  simp only [zlet_eq, wb]
  generalize zst m (50, 0, 0) 0 0 = m0 at h0 ⊢
  obtain ⟨pn, n1, n2, n3, n4⟩ := h0.pn
  rw [v_isProcess n2 n3 ha, vz, m_isProcess n2 n4 ha, vz]
  by_cases c0 : 0 ≤ a ∧ a < (pn : Int)
  · rw [if_pos c0, if_pos (show 0 ≤ a ∧ a ≤ (pn : Int) - 1 by omega), v_within hb (by decide) (by decide), vz]
    obtain ⟨p, rfl⟩ := nat_of c0.1
    by_cases c1 : 0 ≤ b ∧ b ≤ 2
    · obtain ⟨-, -, -, ⟨a10, a11, a12⟩, -⟩ := h0.2.1.2.2.2.2.1 p (by omega)
      generalize ho : 329 + 88 * p = o at *
      have x4 : ix ((o : Int) + 4) = o + 4 := io o 4 (by omega)
      have z4 : zin ((o : Int) + 4) 3099 := zo o 4 (by omega)
      have w4 : w32 (m0 (51, 0, 0) (o + 4)) = m0 (51, 0, 0) (o + 4) := w32_id (by omega) (by omega)
      rw [if_neg (show ¬ b < 0 by omega), if_pos c1.2, if_pos c1, if_pos (zin_nat (show p < 8 by omega) (by decide)), ix_nat (by omega)]
      simp only [m_own ho.symm, zb_some, x4, if_pos z4, a10, w4]
      by_cases c2 : m0 (51, 0, 0) (o + 4) = 0
      · rw [if_pos c2, if_neg (show ¬ m0 (51, 0, 0) (o + 4) = 1 by omega)]; exact ⟨_, _, _, rfl, rfl, h0⟩
      · obtain ⟨w, c', m', k1, k2, k3, k4⟩ := r_readsS (p := p) (show p < 8 by omega) ho.symm h0.2.1 (by omega) c1
        rw [if_neg c2, if_pos (show m0 (51, 0, 0) (o + 4) = 1 by omega), k1, zb_some, k2, zb_some]
        exact ⟨_, _, _, rfl, rfl, h0.S (Int.le_refl _) k3⟩
    · rw [if_neg c1]
      by_cases c2 : b < 0
      · rw [if_pos c2]; exact ⟨_, _, _, rfl, rfl, h0⟩
      · rw [if_neg c2, if_neg (by omega)]; exact ⟨_, _, _, rfl, rfl, h0⟩
  · rw [if_neg c0, if_neg (show ¬ (0 ≤ a ∧ a ≤ (pn : Int) - 1) by omega)]; exact ⟨_, _, _, rfl, rfl, h0⟩
theorem r_tickL {k : Nat} (hk : k ≤ 60) {B : Int} (hB : B ≤ 1000000000) (w w' : Int) : ∀ (r j N N' : Nat) (c m : zMem), j + r = k → RK 1 B c (m (51, 0, 0)) → r < N → r < N' → ∃ i1 i2 c' m', zlp (fX11_tick_l27 (k : Int) w) N ((j : Int), c) = some (i1, c') ∧ zlp (fX12_tick_l30 (k : Int) w') N' ((j : Int), m) = some (i2, m') ∧ RS 1 B c m c' m' := by
  intro r
  induction r with
  | zero =>
    intro j N N' c m hj h hN hN'
    obtain ⟨x, rfl⟩ : ∃ n, N = n + 1 := ⟨N - 1, by omega⟩
    obtain ⟨x', rfl⟩ : ∃ n, N' = n + 1 := ⟨N' - 1, by omega⟩
    have ej : j = k := by omega
    subst ej
    refine ⟨j, j, c, m, zlp_out ?_, zlp_out ?_, RS.rf h⟩
    · unfold fX11_tick_l27
      dsimp only
      rw [if_pos (Int.le_refl _)]
    · unfold fX12_tick_l30
      dsimp only
      rw [if_pos (Int.le_refl _)]
  | succ r ih =>
    intro j N N' c m hj h hN hN'
    obtain ⟨x, rfl⟩ : ∃ n, N = n + 1 := ⟨N - 1, by omega⟩
    obtain ⟨x', rfl⟩ : ∃ n, N' = n + 1 := ⟨N' - 1, by omega⟩
    obtain ⟨c1, m1, k1, k2, k3⟩ := r_tickS h hB
    obtain ⟨i1, i2, c2, m2, l1, l2, l3⟩ := ih (j + 1) x x' c1 m1 (by omega) k3.1 (by omega) (by omega)
    refine ⟨i1, i2, c2, m2, ?_, ?_, k3.tr l3⟩
    · rw [← l1]
      apply zlp_in
      unfold fX11_tick_l27
      dsimp only
      rw [if_neg (by rw [w32_n (by omega), w32_n (by omega)]; omega), k1, zb_some]; rfl
    · rw [← l2]
      apply zlp_in
      unfold fX12_tick_l30
      dsimp only
      rw [if_neg (by rw [w32_n (by omega), w32_n (by omega)]; omega), k2, zb_some]; rfl
theorem Q_tick (h : RW n e c m) (hn : n ≤ 100000000) {a : Int} (ha : i32 a) : okC n e (fX11_tick a c) (fX12_tick a m) := by
  have h0 := h.th.mo (show n ≤ n + 60 by omega)
  have wa : w32 a = a := w32_id ha.1 ha.2
  unfold okC fX11_tick fX12_tick
  simp only [zlet_eq, wa]
  generalize zst m (50, 0, 0) 0 0 = m0 at h0 ⊢
  rw [v_within ha (by decide) (by decide), vz]
  by_cases c0 : 1 ≤ a ∧ a ≤ 60
  · obtain ⟨k, rfl⟩ := nat_of (show 0 ≤ a by omega)
    obtain ⟨i1, i2, c', m', k1, k2, k3⟩ := r_tickL (k := k) (by omega) (show n + 60 ≤ 1000000000 by omega) (c (9, 1, 0) 6) (m0 (51, 0, 0) 66) k 0 5000 5000 c m0 (by omega) h0.2.1 (by omega) (by omega)
    have e1 := h0.2.1.2.2.1.1.2.2.2.1
    have e2 := k3.1.2.2.1.1.2.2.2.1
    rw [if_neg (show ¬ (k : Int) < 1 by omega), if_pos c0.2, if_pos c0, show ((0 : Int), c) = (((0 : Nat) : Int), c) from rfl, show ((0 : Int), m0) = (((0 : Nat) : Int), m0) from rfl, k1, zb_some, k2, zb_some]
    dsimp only
    rw [e1, e2]
    exact ⟨_, _, _, rfl, rfl, h0.S (Int.le_refl _) k3⟩
  · rw [if_neg c0]
    by_cases c1 : a < 1
    · rw [if_pos c1]; exact ⟨_, _, _, rfl, rfl, h0⟩
    · rw [if_neg c1, if_neg (by omega)]; exact ⟨_, _, _, rfl, rfl, h0⟩
theorem Q_report (h : RW n e c m) : okC n e (fX11_report c) (fX12_report m) := by
  have h0 := h.th.mo (show n ≤ n + 60 by omega)
  unfold okC fX11_report fX12_report
  simp only [zlet_eq]
  generalize zst m (50, 0, 0) 0 0 = m0 at h0 ⊢
  obtain ⟨c', m', k1, k2, k3⟩ := r_learnS h0.2.1
  rw [k1, zb_some, k2, zb_some, k3.1.2.1.2.2.1.1]
  exact ⟨_, _, _, rfl, rfl, h0.S (Int.le_refl _) k3⟩
theorem r_runL {k len : Nat} {nz : Int} (hk : k ≤ 60) (hlen : len ≤ 60) (hnz : 0 ≤ nz ∧ nz ≤ 127) {B : Int} (hB : B + 60 ≤ 1000000000) (s w w' : Int) : ∀ (r j N N' : Nat) (c m : zMem), j + r = k → RK 1 (B + j) c (m (51, 0, 0)) → RT c m → c (5, 0, 0) 5 = m (50, 0, 0) 14 → r < N → r < N' → ∃ i1 i2 c' m', zlp (fX11_run_l56 s (k : Int) (len : Int) nz w) N ((j : Int), c) = some (i1, c') ∧ zlp (fX12_run_l57 s (k : Int) (len : Int) nz w') N' ((j : Int), m) = some (i2, m') ∧ RZ (B + k) c m c' m' := by
  intro r
  induction r with
  | zero =>
    intro j N N' c m hj h ht hx hN hN'
    obtain ⟨x, rfl⟩ : ∃ n, N = n + 1 := ⟨N - 1, by omega⟩
    obtain ⟨x', rfl⟩ : ∃ n, N' = n + 1 := ⟨N' - 1, by omega⟩
    have ej : j = k := by omega
    subst ej
    refine ⟨j, j, c, m, zlp_out ?_, zlp_out ?_, (RS.rf h).Z hx⟩
    · unfold fX11_run_l56
      dsimp only
      rw [if_pos (Int.le_refl _)]
    · unfold fX12_run_l57
      dsimp only
      rw [if_pos (Int.le_refl _)]
  | succ r ih =>
    intro j N N' c m hj h ht hx hN hN'
    obtain ⟨x, rfl⟩ : ∃ n, N = n + 1 := ⟨N - 1, by omega⟩
    obtain ⟨x', rfl⟩ : ∃ n, N' = n + 1 := ⟨N' - 1, by omega⟩
    obtain ⟨-, ⟨p1a, p1b⟩, -⟩ := h.1
    obtain ⟨c1, m1, m2, k1, k2, k3, k4⟩ := r_round (len := len) (k := j) (n := nz) h (by omega) ht hlen (by omega) hnz hx
    obtain ⟨i1, i2, c3, m3, l1, l2, l3⟩ := ih (j + 1) x x' c1 m2 (by omega) (k4.1.mo (by omega)) (ht.z k4.2.1 k4.2.2.1) k4.2.2.2.1 (by omega) (by omega)
    refine ⟨i1, i2, c3, m3, ?_, ?_, k4.tr l3⟩
    · rw [← l1]
      apply zlp_in
      unfold fX11_run_l56
      dsimp only
      rw [if_neg (by rw [w32_n (by omega), w32_n (by omega)]; omega), k1, zb_some]; rfl
    · rw [← l2]
      apply zlp_in
      have e8 : irem (j : Int) 8 = ((j % 8 : Nat) : Int) := by rw [irem_of (by omega) (by omega) (by decide) (by decide)]; omega
      unfold fX12_run_l57 fX12_run_b57_93
      dsimp only
      rw [if_neg (by rw [w32_n (by omega), w32_n (by omega)]; omega), if_pos (by rw [w32_id (by omega) (by omega)]; omega), k2, zb_some, e8, w32_n (by omega)]
      by_cases c7 : j % 8 = 7
      · rw [if_pos c7] at k3
        rw [if_pos (by omega), k3, zb_some]; rfl
      · rw [if_neg c7] at k3
        rw [if_neg (by omega), k3]; rfl
theorem Q_run (h : RW n e c m) (hn : n ≤ 100000000) {s a l z : Int} (ha : i32 a) (hl : i32 l) (hz : i32 z) : okC n e (fX11_run s a l z c) (fX12_run s a l z m) := by
  have h0 := h.th
  have wa : w32 a = a := w32_id ha.1 ha.2
  have wl : w32 l = l := w32_id hl.1 hl.2
  have wz : w32 z = z := w32_id hz.1 hz.2
  unfold okC fX11_run fX12_run
  simp only [zlet_eq, wa, wz]
  generalize zst m (50, 0, 0) 0 0 = m0 at h0 ⊢
  have hf := h0.mo (show n ≤ n + 60 by omega)
  rw [v_within ha (by decide) (by decide), vz]
  by_cases c0 : 1 ≤ a ∧ a ≤ 60
  · rw [if_neg (show ¬ a < 1 by omega), if_neg (show ¬ 60 < a by omega), if_pos c0, v_isLength hl, vz, m_isLength hl, vz]
    by_cases c1 : 1 ≤ l ∧ l ≤ 60
    · rw [if_pos c1, if_pos c1, v_within hz (by decide) (by decide), vz]
      by_cases c2 : 0 ≤ z ∧ z ≤ 127
      · rw [if_neg (show ¬ z < 0 by omega), if_pos c2.2, if_pos c2]
        obtain ⟨k, rfl⟩ := nat_of (show 0 ≤ a by omega)
        obtain ⟨len, rfl⟩ := nat_of (show 0 ≤ l by omega)
        have e51 : zst m0 (50, 0, 0) 14 s (51, 0, 0) = m0 (51, 0, 0) := zst_nq (by simp)
        obtain ⟨i1, i2, c', m', k1, k2, k3⟩ := r_runL (k := k) (len := len) (nz := z) (B := n) (by omega) (by omega) c2 (by omega) s (c (9, 1, 0) 6) (m0 (51, 0, 0) 66) k 0 5000 5000 (zst c (5, 0, 0) 5 s) (zst m0 (50, 0, 0) 14 s) (by omega) (by rw [e51]; exact (h0.2.1.cc (fun r p a1 a2 a3 => zst_nq (by simp [a1]))).mo (by omega)) (h0.1.kp (zst_nq (by simp)) (zst_nq (by simp)) (zst_nq (by simp)) (zst_nq (by simp)) (zst_nq (by simp)) (zst_nq (by simp))) (by rw [zst_at, zst_at]) (by omega) (by omega)
        have e1 := h0.2.1.2.2.1.1.2.2.2.1
        have e2 := k3.1.2.2.1.1.2.2.2.1
        rw [show ((0 : Int), zst c (5, 0, 0) 5 s) = (((0 : Nat) : Int), zst c (5, 0, 0) 5 s) from rfl, show ((0 : Int), zst m0 (50, 0, 0) 14 s) = (((0 : Nat) : Int), zst m0 (50, 0, 0) 14 s) from rfl, k1, zb_some, e51, k2, zb_some]
        dsimp only
        rw [e1, e2]
        refine ⟨_, _, _, rfl, rfl, h0.st (by omega) (k3.1.mo (by omega)) ((sL_1 c 5 s rfl).tr k3.2.1) (sN.tr ⟨fun q hq => zst_nq (ko_ne hq rfl), fun k hk => by rw [e51]⟩ k3.2.2.1)⟩
      · rw [if_neg c2]
        by_cases c3 : z < 0
        · rw [if_pos c3]; exact ⟨_, _, _, rfl, rfl, hf⟩
        · rw [if_neg c3, if_neg (by omega)]; exact ⟨_, _, _, rfl, rfl, hf⟩
    · rw [if_neg c1, if_neg c1]; exact ⟨_, _, _, rfl, rfl, hf⟩
  · rw [if_neg c0]
    by_cases c1 : a < 1
    · rw [if_pos c1]; exact ⟨_, _, _, rfl, rfl, hf⟩
    · rw [if_neg c1, if_pos (by omega)]; exact ⟨_, _, _, rfl, rfl, hf⟩
end
