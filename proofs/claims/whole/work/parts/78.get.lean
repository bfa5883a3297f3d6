/-! WHAT IS SHOWN of the link -/
section
variable {n : Int} {e : Nat → Prop} {c m : zMem}
theorem Q_again (h : RW n e c m) {a : Int} (ha : i32 a) : okR n e c (fX11_again a c) (fX12_again a m) := by
  have h0 := h.th.mo (show n ≤ n + 60 by omega)
  have wa : w32 a = a := w32_id ha.1 ha.2
  unfold okR fX11_again fX12_again
  simp only [zlet_eq, wa]
  generalize zst m (50, 0, 0) 0 0 = m0 at h0 ⊢
  obtain ⟨-, -, ⟨s4, s5, s6⟩, s8, -⟩ := h0.2.1.2.1
  have w30 : w32 (m0 (51, 0, 0) 30) = m0 (51, 0, 0) 30 := w32_id (by omega) (by omega)
  simp only [s4, w30]
  by_cases c0 : 0 ≤ a
  · rw [if_pos c0, if_pos c0]
    obtain ⟨i, rfl⟩ := nat_of c0
    by_cases c1 : m0 (51, 0, 0) 30 ≤ (i : Int)
    · rw [if_pos c1, if_pos c1]; exact ⟨_, _, rfl, rfl, h0⟩
    · have x1 : ix (31 + (i : Int)) = 31 + i := by rw [ix_of (by omega) (by omega)]; omega
      rw [if_neg c1, if_neg c1, if_pos (zin_nat (show i < 8 by omega) (by decide)), if_pos (zin_of (by omega) (by omega) (by decide)), ix_nat (by omega), x1, (s8 i (by omega)).1]
      exact ⟨_, _, rfl, rfl, h0⟩
  · rw [if_neg c0, if_neg c0]; exact ⟨_, _, rfl, rfl, h0⟩
theorem Q_waiting (h : RW n e c m) {a : Int} (ha : i32 a) : okR n e c (fX11_waiting a c) (fX12_waiting a m) := by
  have h0 := h.th.mo (show n ≤ n + 60 by omega)
  have wa : w32 a = a := w32_id ha.1 ha.2
  unfold okR fX11_waiting fX12_waiting
  simp only [zlet_eq, wa]
  generalize zst m (50, 0, 0) 0 0 = m0 at h0 ⊢
  obtain ⟨⟨s1, s2, s3⟩, s4, -⟩ := h0.2.1.2.1
  have w7 : w32 (m0 (51, 0, 0) 7) = m0 (51, 0, 0) 7 := w32_id (by omega) (by omega)
  simp only [s1, w7]
  by_cases c0 : 0 ≤ a
  · rw [if_pos c0, if_pos c0]
    obtain ⟨i, rfl⟩ := nat_of c0
    by_cases c1 : m0 (51, 0, 0) 7 ≤ (i : Int)
    · rw [if_pos c1, if_pos c1]; exact ⟨_, _, rfl, rfl, h0⟩
    · have x1 : ix (8 + (i : Int)) = 8 + i := by rw [ix_of (by omega) (by omega)]; omega
      rw [if_neg c1, if_neg c1, if_pos (zin_nat (show i < 20 by omega) (by decide)), if_pos (zin_of (by omega) (by omega) (by decide)), ix_nat (by omega), x1, (s4 i (by omega)).1]
      exact ⟨_, _, rfl, rfl, h0⟩
  · rw [if_neg c0, if_neg c0]; exact ⟨_, _, rfl, rfl, h0⟩
theorem Q_stored (h : RW n e c m) {a : Int} (ha : i32 a) : okR n e c (fX11_stored a c) (fX12_stored a m) := by
  have h0 := h.th.mo (show n ≤ n + 60 by omega)
  have wa : w32 a = a := w32_id ha.1 ha.2
  unfold okR fX11_stored fX12_stored
  simp only [zlet_eq, wa]
  generalize zst m (50, 0, 0) 0 0 = m0 at h0 ⊢
  rw [v_isSn ha, vz, v_within ha (by decide) (by decide), vz]
  by_cases c0 : 0 ≤ a ∧ a ≤ 7
  · rw [if_pos c0, if_pos c0]
    obtain ⟨i, rfl⟩ := nat_of c0.1
    have hs := h0.2.1.2.2.1.1.2.2.1 i (by omega)
    have x1 : ix (56 + (i : Int)) = 56 + i := by rw [ix_of (by omega) (by omega)]; omega
    have w1 : w32 (m0 (51, 0, 0) (56 + i)) = m0 (51, 0, 0) (56 + i) := w32_id (by omega) (by omega)
    rw [if_pos (zin_nat (show i < 8 by omega) (by decide)), if_pos (zin_of (by omega) (by omega) (by decide)), ix_nat (by omega), x1, hs.1, w1]
    by_cases c1 : m0 (51, 0, 0) (56 + i) = -1
    · rw [if_pos c1, if_pos c1]; exact ⟨_, _, rfl, rfl, h0⟩
    · rw [if_neg c1, if_neg c1]; exact ⟨_, _, rfl, rfl, h0⟩
  · rw [if_neg c0, if_neg c0]; exact ⟨_, _, rfl, rfl, h0⟩
theorem Q_kept (h : RW n e c m) {a b : Int} (ha : i32 a) (hb : i32 b) : okR n e c (fX11_kept a b c) (fX12_kept a b m) := by
  have h0 := h.th.mo (show n ≤ n + 60 by omega)
  have wa : w32 a = a := w32_id ha.1 ha.2
  have wb : w32 b = b := w32_id hb.1 hb.2
  unfold okR fX11_kept fX12_kept
  simp only [zlet_eq, wa, wb]
  generalize zst m (50, 0, 0) 0 0 = m0 at h0 ⊢
  obtain ⟨-, -, -, -, ⟨s9, s10, s11⟩, ⟨s12, s13, s14⟩, s15, -⟩ := h0.2.1.2.1
  rw [v_isSn ha, vz, v_within ha (by decide) (by decide), vz]
  by_cases c0 : 0 ≤ a ∧ a ≤ 7
  · rw [if_pos c0, if_pos c0, v_within hb (by decide) (by decide), vz]
    obtain ⟨i, rfl⟩ := nat_of c0.1
    have i8 : i < 8 := by omega
    by_cases c1 : 0 ≤ b ∧ b ≤ 1
    · have x39 : ix (39 + (i : Int)) = 39 + i := by rw [ix_of (by omega) (by omega)]; omega
      have x47 : ix (47 + (i : Int)) = 47 + i := by rw [ix_of (by omega) (by omega)]; omega
      have xi : ix (i : Int) = i := ix_nat (by omega)
      have z39 : zin (39 + (i : Int)) 3099 := zin_of (by omega) (by omega) (by decide)
      have z47 : zin (47 + (i : Int)) 3099 := zin_of (by omega) (by omega) (by decide)
      have zi : zin (i : Int) 8 := zin_nat i8 (by decide)
      rw [if_neg (show ¬ b < 0 by omega), if_pos c1.2, if_pos c1, c_isKept s9 s12, zb_some]
      simp only [x39, x47, xi, if_pos z39, if_pos z47, if_pos zi]
      by_cases hk : pky (m0 (51, 0, 0)) i
      · obtain ⟨f1, f2, f3⟩ := (s15 i i8).1 hk
        unfold pky at hk
        rw [if_pos hk, if_neg (show ¬ w32 1 = 0 by decide), if_neg (show ¬ w32 (m0 (51, 0, 0) (39 + i)) = -1 by rw [w32_id (by omega) (by omega)]; omega), f1, f3]
        by_cases c2 : b = 0
        · rw [if_pos c2, if_pos c2]; exact ⟨_, _, rfl, rfl, h0⟩
        · rw [if_neg c2, if_neg c2]; exact ⟨_, _, rfl, rfl, h0⟩
      · have f1 := (s15 i i8).2 hk
        unfold pky at hk
        rw [if_neg hk, if_pos w32_0, f1, if_pos (show w32 (-1) = -1 by decide)]; exact ⟨_, _, rfl, rfl, h0⟩
    · rw [if_neg c1]
      by_cases c2 : b < 0
      · rw [if_pos c2]; exact ⟨_, _, rfl, rfl, h0⟩
      · rw [if_neg c2, if_neg (by omega)]; exact ⟨_, _, rfl, rfl, h0⟩
  · rw [if_neg c0, if_neg c0]; exact ⟨_, _, rfl, rfl, h0⟩
theorem RW.pn (h : RW n e c m) : ∃ pn : Nat, 1 ≤ pn ∧ pn ≤ 8 ∧ c (7, 1, 0) 0 = (pn : Int) ∧ m (51, 0, 0) 0 = (pn : Int) := by
  obtain ⟨p0, ⟨p1a, p1b⟩, -⟩ := h.2.1.1
  obtain ⟨pn, epn⟩ := nat_of (show 0 ≤ m (51, 0, 0) 0 by omega)
  exact ⟨pn, by omega, by omega, by rw [p0 0 (by decide), epn], epn⟩
theorem Q_heard (h : RW n e c m) {a b : Int} (ha : i32 a) (hb : i32 b) : okR n e c (fX11_heard a b c) (fX12_heard a b m) := by
  have h0 := h.th.mo (show n ≤ n + 60 by omega)
  have wb : w32 b = b := w32_id hb.1 hb.2
  unfold okR fX11_heard fX12_heard
  simp only [zlet_eq, wb]
  generalize zst m (50, 0, 0) 0 0 = m0 at h0 ⊢
  obtain ⟨pn, n1, n2, n3, n4⟩ := h0.pn
  rw [v_isProcess n2 n3 ha, vz, m_isProcess n2 n4 ha, vz]
  by_cases c0 : 0 ≤ a ∧ a < (pn : Int)
  · rw [if_pos c0, if_pos (show 0 ≤ a ∧ a ≤ (pn : Int) - 1 by omega), v_within hb (by decide) (by decide), vz]
    obtain ⟨p, rfl⟩ := nat_of c0.1
    obtain ⟨⟨a1, a2, a3⟩, a4, ⟨a5, a6, a7⟩, -⟩ := h0.2.1.2.2.2.2.2 p (by omega)
    generalize ho : 329 + 88 * p = o at *
    have o1 : 329 ≤ o ∧ o ≤ 945 := by omega
    rw [if_pos (zin_nat (show p < 8 by omega) (by decide)), ix_nat (by omega)]
    rw [m_own ho.symm, zb_some, a1, a4, a5]
    by_cases c1 : 0 ≤ b ∧ b ≤ 2
    · rw [if_pos c1, if_pos (zin_of (by omega) (by omega) (by decide))]
      have x : ix ((o : Int) + 6 + b) = o + 6 + b.toNat := by rw [ix_of (by omega) (by omega)]; omega
      rw [x]
      rcases (show b = 0 ∨ b = 1 ∨ b = 2 by omega) with rfl | rfl | rfl
      · rw [if_pos rfl]; exact ⟨_, _, rfl, rfl, h0⟩
      · rw [if_neg (by decide), if_pos rfl]; exact ⟨_, _, rfl, rfl, h0⟩
      · rw [if_neg (by decide), if_neg (by decide), if_pos rfl]
        have w8 : w32 (m0 (51, 0, 0) (o + 8)) = m0 (51, 0, 0) (o + 8) := w32_id (by omega) (by omega)
        rw [w8]
        by_cases c2 : m0 (51, 0, 0) (o + 8) = 0
        · rw [if_pos c2]; exact ⟨_, _, rfl, by rw [show o + 6 + (2 : Int).toNat = o + 8 from rfl, c2], h0⟩
        · rw [if_neg c2]; exact ⟨_, _, rfl, by rw [show o + 6 + (2 : Int).toNat = o + 8 from rfl, show m0 (51, 0, 0) (o + 8) = 1 by omega], h0⟩
    · rw [if_neg c1, if_neg (by omega), if_neg (by omega), if_neg (by omega)]; exact ⟨_, _, rfl, rfl, h0⟩
  · rw [if_neg c0, if_neg (show ¬ (0 ≤ a ∧ a ≤ (pn : Int) - 1) by omega)]; exact ⟨_, _, rfl, rfl, h0⟩
theorem Q_process (h : RW n e c m) {a b : Int} (ha : i32 a) (hb : i32 b) : okR n e c (fX11_process a b c) (fX12_process a b m) := by
  have h0 := h.th.mo (show n ≤ n + 60 by omega)
  have wb : w32 b = b := w32_id hb.1 hb.2
  unfold okR fX11_process fX12_process fX11_process_b37
  simp only [zlet_eq, wb]
  generalize zst m (50, 0, 0) 0 0 = m0 at h0 ⊢
  obtain ⟨pn, n1, n2, n3, n4⟩ := h0.pn
  rw [v_isProcess n2 n3 ha, vz, m_isProcess n2 n4 ha, vz]
  by_cases c0 : 0 ≤ a ∧ a < (pn : Int)
  · rw [if_pos c0, if_pos (show 0 ≤ a ∧ a ≤ (pn : Int) - 1 by omega), v_within hb (by decide) (by decide), vz]
    obtain ⟨p, rfl⟩ := nat_of c0.1
    have hl := h0.2.1.2.2.2.2.1 p (by omega)
    have hs15 := h0.2.1.2.1.2.2.2.2.2.2.1
    generalize ho : 329 + 88 * p = o at *
    obtain ⟨⟨a1, a2, a3⟩, ⟨a4, a5, a6⟩, ⟨a7, a8, a9⟩, ⟨a10, a11, a12⟩, -, b6, b7, -⟩ := hl
    have x0 : ix ((o : Int) + 0) = o := io o 0 (by omega)
    have z0 : zin ((o : Int) + 0) 3099 := zo o 0 (by omega)
    have x1 : ix ((o : Int) + 1) = o + 1 := io o 1 (by omega)
    have z1 : zin ((o : Int) + 1) 3099 := zo o 1 (by omega)
    have x2 : ix ((o : Int) + 2) = o + 2 := io o 2 (by omega)
    have z2 : zin ((o : Int) + 2) 3099 := zo o 2 (by omega)
    have x3 : ix ((o : Int) + 3) = o + 3 := io o 3 (by omega)
    have z3 : zin ((o : Int) + 3) 3099 := zo o 3 (by omega)
    have x4 : ix ((o : Int) + 4) = o + 4 := io o 4 (by omega)
    have z4 : zin ((o : Int) + 4) 3099 := zo o 4 (by omega)
    have xp : ix (p : Int) = p := ix_nat (by omega)
    have zp : zin (p : Int) 8 := zin_nat (show p < 8 by omega) (by decide)
    have w0 : w32 (m0 (51, 0, 0) o) = m0 (51, 0, 0) o := w32_id (by omega) (by omega)
    have w4 : w32 (m0 (51, 0, 0) (o + 4)) = m0 (51, 0, 0) (o + 4) := w32_id (by omega) (by omega)
    have w00 : w32 0 = 0 := by decide
    have w11 : w32 1 = 1 := by decide
    obtain ⟨t, et⟩ := nat_of a8
    have t3 : (t : Int) % 4 = ((t % 4 : Nat) : Int) := by omega
    have xt : ix ((t % 4 : Nat) : Int) = t % 4 := ix_nat (by omega)
    have zt : zin ((t % 4 : Nat) : Int) 4 := zin_nat (show t % 4 < 4 by omega) (by decide)
    have i10 : ¬ (1 : Int) = 0 := by decide
    simp only [m_own ho.symm, zb_some, x0, x1, x2, x3, x4, xp, if_pos zp, if_pos z0, if_pos z1, if_pos z2, if_pos z3, if_pos z4, a1, a4, a7, a10, w0, w4, w00, w11, if_neg i10, et, t3, xt, if_pos zt, zver_p, m_versionOf (show t < 1000 by omega), if_true]
    by_cases c1 : 0 ≤ b ∧ b ≤ 5
    · rw [if_pos c1]
      by_cases ci : m0 (51, 0, 0) o = -1
      · simp only [if_pos ci]
        have e3 := (b6 ci).1
        rcases (show b = 0 ∨ b = 1 ∨ b = 2 ∨ b = 3 ∨ b = 4 ∨ b = 5 by omega) with rfl | rfl | rfl | rfl | rfl | rfl
        · exact ⟨_, _, rfl, rfl, h0⟩
        · exact ⟨_, _, rfl, rfl, h0⟩
        · exact ⟨_, _, rfl, rfl, h0⟩
        · refine ⟨_, _, rfl, ?_, h0⟩
          have : (t : Int) = 0 := by omega
          rw [this]; rfl
        · have e4 := (b6 ci).2
          simp only [if_pos e4]
          exact ⟨_, _, rfl, by rw [e4]; rfl, h0⟩
        · exact ⟨_, _, rfl, rfl, h0⟩
      · simp only [if_neg ci]
        obtain ⟨d1, d2, -⟩ := b7 ci
        obtain ⟨s, es⟩ := nat_of (show 0 ≤ m0 (51, 0, 0) o by omega)
        have s8 : s < 8 := by omega
        have xs : ix (s : Int) = s := ix_nat (by omega)
        have zs : zin (s : Int) 8 := zin_nat s8 (by decide)
        have f := ((hs15 s s8).1 (by rw [← es]; exact d1)).1
        rw [es] at d2
        have d2' : m0 (51, 0, 0) (o + 1) = m0 (51, 0, 0) (39 + s) := d2
        simp only [es, xs, if_pos zs, f, d2']
        rcases (show b = 0 ∨ b = 1 ∨ b = 2 ∨ b = 3 ∨ b = 4 ∨ b = 5 by omega) with rfl | rfl | rfl | rfl | rfl | rfl
        · exact ⟨_, _, rfl, rfl, h0⟩
        · exact ⟨_, _, rfl, rfl, h0⟩
        · exact ⟨_, _, rfl, rfl, h0⟩
        · exact ⟨_, _, rfl, rfl, h0⟩
        · by_cases c2 : m0 (51, 0, 0) (o + 4) = 0
          · simp only [if_pos c2]; exact ⟨_, _, rfl, by rw [c2]; rfl, h0⟩
          · simp only [if_neg c2]; exact ⟨_, _, rfl, by rw [show m0 (51, 0, 0) (o + 4) = 1 by omega]; rfl, h0⟩
        · exact ⟨_, _, rfl, rfl, h0⟩
    · have g : ∀ k : Int, 0 ≤ k ∧ k ≤ 5 → ¬ b = k := fun k hk hh => c1 (by omega)
      rw [if_neg c1]
      simp only [if_neg (g 0 (by decide)), if_neg (g 1 (by decide)), if_neg (g 2 (by decide)), if_neg (g 3 (by decide)), if_neg (g 4 (by decide)), if_neg (g 5 (by decide)), ite_self]
      exact ⟨_, _, rfl, rfl, h0⟩
  · rw [if_neg c0, if_neg (show ¬ (0 ≤ a ∧ a ≤ (pn : Int) - 1) by omega)]; exact ⟨_, _, rfl, rfl, h0⟩
theorem Q_given (h : RW n e c m) (hn : n ≤ 1000000000) {a : Int} (ha : i32 a) : okR n e c (fX11_given a c) (fX12_given a m) := by
  have h0 := h.th
  have wa : w32 a = a := w32_id ha.1 ha.2
  unfold okR fX11_given fX12_given fX5_givenAgo fX12_given_b56
  simp only [zlet_eq, wa]
  generalize zst m (50, 0, 0) 0 0 = m0 at h0 ⊢
  have hf := h0.mo (show n ≤ n + 60 by omega)
  obtain ⟨⟨-, -, -, v4, v5, v6, -, -, -, -, v11⟩, -⟩ := h0.2.1.2.2.1
  have hp := psr_rng (m0 (51, 0, 0))
  have w66 : w32 (m0 (51, 0, 0) 66) = m0 (51, 0, 0) 66 := w32_id (by omega) (by omega)
  simp only [v4, w66]
  by_cases c0 : 0 ≤ a
  · rw [if_pos c0, if_pos c0, if_neg (show ¬ a < 0 by omega)]
    by_cases c1 : m0 (51, 0, 0) 66 ≤ a
    · rw [if_pos c1, if_pos c1]; exact ⟨_, _, rfl, rfl, hf⟩
    · rw [if_neg c1, if_neg c1]
      by_cases c2 : a < 256
      · obtain ⟨j, ej⟩ := nat_of (show 0 ≤ (m0 (51, 0, 0) 66 - 1 - a) % 256 by omega)
        have er : irem (m0 (51, 0, 0) 66 - 1 - a) 256 = (j : Int) := by rw [irem_of (by omega) (by omega) (by decide) (by decide), ej]
        have x1 : ix (73 + (j : Int)) = 73 + j := by rw [ix_of (by omega) (by omega)]; omega
        rw [if_pos c2, if_neg (show ¬ 256 ≤ a by omega), ej, er, if_pos (zin_nat (show j < 256 by omega) (by decide)), if_pos (zin_of (by omega) (by omega) (by decide)), ix_nat (by omega), x1, v11 j (by omega) (by omega)]
        exact ⟨_, _, rfl, rfl, hf⟩
      · rw [if_neg c2, if_pos (show 256 ≤ a by omega)]; exact ⟨_, _, rfl, rfl, hf⟩
  · rw [if_neg c0, if_neg c0]; exact ⟨_, _, rfl, rfl, hf⟩
end
