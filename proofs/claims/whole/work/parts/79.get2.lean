/-! WHAT IS SHOWN of the receiver -/
theorem c_many {L : Nat} {c : zMem} {g : Nat → Int} (hs : ∀ k, k < 8 → c (39, L, 0) k = g (56 + k) ∧ -1 ≤ g (56 + k) ∧ g (56 + k) ≤ 31) : fX5_howManyStored L c = some (psr g) := by
  unfold fX5_howManyStored
  have hh := zlp_0 (body := fX5_howManyStored_l4 L c) (S := fun j => (zsm (fun k => if g (56 + k) = -1 then 0 else 1) j, (j : Int))) (r := (psr g, 8)) 8 (N := 5000) (by decide) ?_ ?_
  · have h0 : ((0 : Int), (0 : Int)) = (zsm (fun k => if g (56 + k) = -1 then 0 else 1) 0, ((0 : Nat) : Int)) := rfl
    rw [h0, hh]; rfl
  · intro j hj
    have hk := hs j hj
    have wl : w32 (g (56 + j)) = g (56 + j) := w32_id (by omega) (by omega)
    unfold fX5_howManyStored_l4 fX5_howManyStored_b4_23
    dsimp only
    rw [if_neg (by rw [w32_n (by omega)]; omega), if_pos (zin_nat hj (by decide)), ix_nat (by omega), hk.1, wl]
    show _ = some (Sum.inl (zsm (fun k => if g (56 + k) = -1 then 0 else 1) (j + 1), ((j + 1 : Nat) : Int)))
    rw [zsm]
    by_cases c0 : g (56 + j) = -1
    · rw [if_pos c0, if_pos c0, Int.add_zero]; rfl
    · rw [if_neg c0, if_neg c0]; rfl
  · unfold fX5_howManyStored_l4
    dsimp only
    rw [if_pos (by decide)]; rfl
theorem m_many {m : zMem} (hs : ∀ k, k < 8 → -1 ≤ m (51, 0, 0) (56 + k) ∧ m (51, 0, 0) (56 + k) ≤ 31) : fX12_manyStored m = some (psr (m (51, 0, 0))) := by
  unfold fX12_manyStored
  have hh := zlp_0 (body := fX12_manyStored_l4 m) (S := fun j => (zsm (fun k => if m (51, 0, 0) (56 + k) = -1 then 0 else 1) j, (j : Int))) (r := (psr (m (51, 0, 0)), 8)) 8 (N := 5000) (by decide) ?_ ?_
  · have h0 : ((0 : Int), (0 : Int)) = (zsm (fun k => if m (51, 0, 0) (56 + k) = -1 then 0 else 1) 0, ((0 : Nat) : Int)) := rfl
    rw [h0, hh]; rfl
  · intro j hj
    have hk := hs j hj
    have wl : w32 (m (51, 0, 0) (56 + j)) = m (51, 0, 0) (56 + j) := w32_id (by omega) (by omega)
    have x1 : ix (56 + (j : Int)) = 56 + j := by rw [ix_of (by omega) (by omega)]; omega
    unfold fX12_manyStored_l4 fX12_manyStored_b4_29
    simp only [zlet_eq]
    rw [if_neg (by rw [w32_n (by omega)]; omega), if_pos (zin_of (by omega) (by omega) (by decide)), x1, wl]
    show _ = some (Sum.inl (zsm (fun k => if m (51, 0, 0) (56 + k) = -1 then 0 else 1) (j + 1), ((j + 1 : Nat) : Int)))
    rw [zsm]
    by_cases c0 : m (51, 0, 0) (56 + j) = -1
    · rw [if_pos c0, if_pos c0]; rfl
    · rw [if_neg c0, if_neg c0]; rfl
  · unfold fX12_manyStored_l4
    dsimp only
    rw [if_pos (by decide)]; rfl
/-- the first stored one of n from e on, as an SN -/
def pfs (g : Nat → Int) (e : Nat) : Nat → Int
  | 0 => -1
  | n + 1 => if pfs g e n = -1 then (if g (56 + (e + n) % 8) = -1 then -1 else (((e + n) % 8 : Nat) : Int)) else pfs g e n
theorem pfs_s (g : Nat → Int) (e n : Nat) : pfs g e (n + 1) = if pfs g e n = -1 then (if g (56 + (e + n) % 8) = -1 then -1 else (((e + n) % 8 : Nat) : Int)) else pfs g e n := rfl
theorem pfs_rng (g : Nat → Int) (e : Nat) : ∀ n, -1 ≤ pfs g e n ∧ pfs g e n ≤ 7
  | 0 => by unfold pfs; decide
  | n + 1 => by
    have h := pfs_rng g e n
    rw [pfs_s]
    by_cases c0 : pfs g e n = -1
    · rw [if_pos c0]
      by_cases c1 : g (56 + (e + n) % 8) = -1
      · rw [if_pos c1]; decide
      · rw [if_neg c1]; omega
    · rw [if_neg c0]; exact h
theorem pfs_no {g : Nat → Int} {e : Nat} : ∀ {n : Nat}, (∀ j, j < n → g (56 + (e + j) % 8) = -1) → pfs g e n = -1
  | 0, _ => rfl
  | n + 1, h => by rw [pfs_s, if_pos (pfs_no (fun j hj => h j (by omega))), if_pos (h n (by omega))]
theorem pfs_at {g : Nat → Int} {e j : Nat} (h1 : ∀ i, i < j → g (56 + (e + i) % 8) = -1) (h2 : ¬ g (56 + (e + j) % 8) = -1) : ∀ d, pfs g e (j + 1 + d) = (((e + j) % 8 : Nat) : Int)
  | 0 => by rw [Nat.add_zero, pfs_s, if_pos (pfs_no h1), if_neg h2]
  | d + 1 => by rw [← Nat.add_assoc, pfs_s, pfs_at h1 h2 d, if_neg (by omega)]
theorem c_first {L : Nat} {c : zMem} {g : Nat → Int} {e : Nat} (he : c (9, L, 0) 3 = e) (e8 : e < 8) (hs : ∀ k, k < 8 → c (39, L, 0) k = g (56 + k) ∧ -1 ≤ g (56 + k) ∧ g (56 + k) ≤ 31) : fX5_firstStored L c = some (pfs g e 8) := by
  have hh := zlp_inv (body := fX5_firstStored_l2 L c) (fun j st => st = (j : Int) ∧ ∀ i, i < j → g (56 + (e + i) % 8) = -1) (fun r => (∃ x, r = .inl x ∧ ∀ i, i < 8 → g (56 + (e + i) % 8) = -1) ∨ (∃ j, j < 8 ∧ r = .inr ((((e + j) % 8 : Nat) : Int)) ∧ (∀ i, i < j → g (56 + (e + i) % 8) = -1) ∧ ¬ g (56 + (e + j) % 8) = -1)) 8 (N := 5000) (by decide) (s0 := 0) ⟨rfl, fun k hk => absurd hk (Nat.not_lt_zero k)⟩ ?_ ?_
  · obtain ⟨r, h1, h2⟩ := hh
    unfold fX5_firstStored
    rw [h1]
    rcases h2 with ⟨x, rfl, h3⟩ | ⟨j, j8, rfl, h3, h4⟩
    · rw [zbr_inl, pfs_no h3]
    · rw [zbr_inr]
      have := pfs_at h3 h4 (7 - j)
      rw [show j + 1 + (7 - j) = 8 by omega] at this
      rw [this]
  · rintro j st hj ⟨a1, a2⟩
    subst a1
    have zn : ((e : Int) + (j : Int)) % 8 = (((e + j) % 8 : Nat) : Int) := by omega
    have hk := hs ((e + j) % 8) (by omega)
    have wl : w32 (g (56 + (e + j) % 8)) = g (56 + (e + j) % 8) := w32_id (by omega) (by omega)
    unfold fX5_firstStored_l2
    simp only [zlet_eq, he, zn, ix_nat (show (e + j) % 8 < 2147483648 by omega), hk.1, wl]
    rw [if_neg (by rw [w32_n (by omega)]; omega), if_pos (zin_nat (show (e + j) % 8 < 8 by omega) (by decide))]
    by_cases c0 : g (56 + (e + j) % 8) = -1
    · rw [if_pos c0]
      refine Or.inl ⟨_, rfl, by omega, fun i hi => ?_⟩
      rcases (show i = j ∨ i < j by omega) with e | e
      · subst e; exact c0
      · exact a2 i e
    · rw [if_neg c0]
      exact Or.inr ⟨_, rfl, Or.inr ⟨j, hj, rfl, a2, c0⟩⟩
  · rintro st ⟨a1, a2⟩
    subst a1
    unfold fX5_firstStored_l2
    rw [if_pos (by decide)]
    exact ⟨_, rfl, Or.inl ⟨_, rfl, a2⟩⟩
/-- how many of the first n from e on are stored -/
def pmy (g : Nat → Int) (e : Nat) (n : Nat) : Int := zsm (fun d => if g (56 + (e + d) % 8) = -1 then 0 else 1) n
theorem pmy_8 (g : Nat → Int) {e : Nat} (e8 : e < 8) : pmy g e 8 = psr g := by
  unfold pmy psr
  rcases (show e = 0 ∨ e = 1 ∨ e = 2 ∨ e = 3 ∨ e = 4 ∨ e = 5 ∨ e = 6 ∨ e = 7 by omega) with rfl | rfl | rfl | rfl | rfl | rfl | rfl | rfl <;> simp only [zsm, Nat.reduceAdd, Nat.reduceMod] <;> omega
theorem m_gaps {m : zMem} {e : Nat} (he : m (51, 0, 0) 55 = e) (e8 : e < 8) (hs : ∀ k, k < 8 → -1 ≤ m (51, 0, 0) (56 + k) ∧ m (51, 0, 0) (56 + k) ≤ 31) (a : Int) : zlp (fX12_gaps_l30 a m) 5000 (-1, -1, 0, 0) = some (pfs (m (51, 0, 0)) e 8, pfr (m (51, 0, 0)) e 8, pmy (m (51, 0, 0)) e 8, 8) := by
  have hh := zlp_0 (body := fX12_gaps_l30 a m) (S := fun j => (pfs (m (51, 0, 0)) e j, pfr (m (51, 0, 0)) e j, pmy (m (51, 0, 0)) e j, (j : Int))) (r := (pfs (m (51, 0, 0)) e 8, pfr (m (51, 0, 0)) e 8, pmy (m (51, 0, 0)) e 8, 8)) 8 (N := 5000) (by decide) ?_ ?_
  · exact hh
  · intro j hj
    have zn : ((e : Int) + (j : Int)) % 8 = (((e + j) % 8 : Nat) : Int) := by omega
    have hk := hs ((e + j) % 8) (by omega)
    have wl : w32 (m (51, 0, 0) (56 + (e + j) % 8)) = m (51, 0, 0) (56 + (e + j) % 8) := w32_id (by omega) (by omega)
    have x1 : ix (56 + (((e + j) % 8 : Nat) : Int)) = 56 + (e + j) % 8 := by rw [ix_of (by omega) (by omega)]; omega
    have hf := pfs_rng (m (51, 0, 0)) e j
    have wf : w32 (pfs (m (51, 0, 0)) e j) = pfs (m (51, 0, 0)) e j := w32_id (by omega) (by omega)
    unfold fX12_gaps_l30 fX12_gaps_b30_80 fX12_gaps_b30_87
    simp only [zlet_eq, he, zn, x1, wl, wf]
    rw [if_neg (by rw [w32_n (by omega)]; omega), if_pos (zin_of (by omega) (by omega) (by decide))]
    show _ = some (Sum.inl (pfs (m (51, 0, 0)) e (j + 1), pfr (m (51, 0, 0)) e (j + 1), pmy (m (51, 0, 0)) e j + (if m (51, 0, 0) (56 + (e + j) % 8) = -1 then 0 else 1), ((j + 1 : Nat) : Int)))
    rw [pfs_s, pfr_s]
    by_cases c0 : m (51, 0, 0) (56 + (e + j) % 8) = -1
    · rw [if_pos c0, if_pos c0, if_pos c0, if_pos c0, Int.add_zero]
      by_cases c1 : pfs (m (51, 0, 0)) e j = -1
      · rw [if_pos c1, c1]; rfl
      · rw [if_neg c1]; rfl
    · rw [if_neg c0, if_neg c0, if_neg c0, if_neg c0]
      by_cases c1 : pfs (m (51, 0, 0)) e j = -1
      · rw [if_pos c1, if_pos c1]; rfl
      · rw [if_neg c1, if_neg c1]; rfl
  · unfold fX12_gaps_l30
    dsimp only
    rw [if_pos (by decide)]; rfl
theorem pfr_no {g : Nat → Int} {e : Nat} : ∀ {n : Nat}, pfr g e n = -1 → pmy g e n = 0
  | 0, _ => rfl
  | n + 1, h => by
    rw [pfr_s] at h
    by_cases c0 : g (56 + (e + n) % 8) = -1
    · rw [if_pos c0] at h
      have := pfr_no h
      unfold pmy at this ⊢
      rw [zsm, this, if_pos c0]; rfl
    · rw [if_neg c0] at h; omega
section
variable {n : Int} {e : Nat → Prop} {c m : zMem}
theorem Q_gaps (h : RW n e c m) {a : Int} (ha : i32 a) : okR n e c (fX11_gaps a c) (fX12_gaps a m) := by
  have h0 := h.th.mo (show n ≤ n + 60 by omega)
  have wa : w32 a = a := w32_id ha.1 ha.2
  unfold okR fX11_gaps fX12_gaps
  simp only [zlet_eq, wa]
  generalize zst m (50, 0, 0) 0 0 = m0 at h0 ⊢
  obtain ⟨⟨⟨v1, v1'⟩, v2, v3, -⟩, -⟩ := h0.2.1.2.2.1
  obtain ⟨x, ex⟩ := nat_of v1
  have x8 : x < 8 := by omega
  have hr := pfr_rng (m0 (51, 0, 0)) x 8
  have wf : w32 (pfr (m0 (51, 0, 0)) x 8) = pfr (m0 (51, 0, 0)) x 8 := w32_id (by omega) (by omega)
  have c3 : c (9, 1, 0) 3 = x := by rw [v2, ex]
  rw [c_far c3 x8 v3, zb_some, c_many v3, zb_some, c_first c3 x8 v3, zb_some, v_within ha (by decide) (by decide), vz, m_gaps ex x8 (fun k hk => (v3 k hk).2), zb_some, wf]
  dsimp only
  rw [pmy_8 _ x8]
  by_cases c0 : 0 ≤ a ∧ a ≤ 2
  · rw [if_pos c0]
    rcases (show a = 0 ∨ a = 1 ∨ a = 2 by omega) with rfl | rfl | rfl
    · simp only [if_true, if_neg (show ¬ (0 : Int) = 1 by decide), if_neg (show ¬ (0 : Int) = 2 by decide)]
      by_cases c1 : pfr (m0 (51, 0, 0)) x 8 = -1
      · have := pfr_no c1
        rw [pmy_8 _ x8] at this
        rw [if_pos c1, c1, this]; exact ⟨_, _, rfl, rfl, h0⟩
      · rw [if_neg c1]; exact ⟨_, _, rfl, rfl, h0⟩
    · exact ⟨_, _, rfl, rfl, h0⟩
    · exact ⟨_, _, rfl, rfl, h0⟩
  · rw [if_neg c0, if_neg (by omega), if_neg (by omega), if_neg (by omega)]; exact ⟨_, _, rfl, rfl, h0⟩
theorem Q_count (h : RW n e c m) {a : Int} (ha : i32 a) : okR n e c (fX11_count a c) (fX12_count a m) := by
  have h0 := h.th.mo (show n ≤ n + 60 by omega)
  have wa : w32 a = a := w32_id ha.1 ha.2
  unfold okR fX11_count fX12_count fX11_count_b174 fX5_tell
  simp only [zlet_eq, wa]
  generalize zst m (50, 0, 0) 0 0 = m0 at h0 ⊢
  obtain ⟨⟨⟨v1, v1'⟩, v2, v3, v4, -, -, v7, v8, v9, v10, -⟩, -⟩ := h0.2.1.2.2.1
  obtain ⟨⟨s1, s2, s3⟩, -, ⟨s5, s6, s7⟩, -, ⟨s9, s10, s11⟩, ⟨s12, s13, s14⟩, -, s16, s17⟩ := h0.2.1.2.1
  have p0 := h0.2.1.1.1
  have q0 := p0 0 (by decide)
  have q1 := p0 1 (by decide)
  have q4 := p0 4 (by decide)
  have q5 := p0 5 (by decide)
  have q6 := p0 6 (by decide)
  rw [c_many v3, zb_some, m_many (fun k hk => (v3 k hk).2), zb_some]
  simp only [v2, v4, v7, v8, v9, v10, s1, s5, s9, s12, s16, s17, q0, q1, q4, q5, q6]
  by_cases k0 : 0 ≤ a ∧ a ≤ 19
  · rcases h0.2.1.2.2.2.1 with ⟨t1, t2, t3, t4, t5⟩ | ⟨t1, t2, t3, t4, t5, t6⟩
    · have e4 : w32 (c (9, 1, 0) 4) ≤ 0 := by rw [t1]; decide
      simp only [if_pos e4, t2, t3]
      rcases (show a = 0 ∨ a = 1 ∨ a = 2 ∨ a = 3 ∨ a = 4 ∨ a = 5 ∨ a = 6 ∨ a = 7 ∨ a = 8 ∨ a = 9 ∨ a = 10 ∨ a = 11 ∨ a = 12 ∨ a = 13 ∨ a = 14 ∨ a = 15 ∨ a = 16 ∨ a = 17 ∨ a = 18 ∨ a = 19 by omega) with rfl | rfl | rfl | rfl | rfl | rfl | rfl | rfl | rfl | rfl | rfl | rfl | rfl | rfl | rfl | rfl | rfl | rfl | rfl | rfl <;> exact ⟨_, _, rfl, rfl, h0⟩
    · have e4 : ¬ w32 (c (9, 1, 0) 4) ≤ 0 := by rw [w32_id (by omega) (by omega)]; omega
      simp only [if_neg e4, t3, t6]
      rcases (show a = 0 ∨ a = 1 ∨ a = 2 ∨ a = 3 ∨ a = 4 ∨ a = 5 ∨ a = 6 ∨ a = 7 ∨ a = 8 ∨ a = 9 ∨ a = 10 ∨ a = 11 ∨ a = 12 ∨ a = 13 ∨ a = 14 ∨ a = 15 ∨ a = 16 ∨ a = 17 ∨ a = 18 ∨ a = 19 by omega) with rfl | rfl | rfl | rfl | rfl | rfl | rfl | rfl | rfl | rfl | rfl | rfl | rfl | rfl | rfl | rfl | rfl | rfl | rfl | rfl <;> exact ⟨_, _, rfl, rfl, h0⟩
  · have g : ∀ k : Int, 0 ≤ k ∧ k ≤ 19 → ¬ a = k := fun k hk hh => k0 (by omega)
    simp only [if_neg (g 0 (by decide)), if_neg (g 1 (by decide)), if_neg (g 2 (by decide)), if_neg (g 3 (by decide)), if_neg (g 4 (by decide)), if_neg (g 5 (by decide)), if_neg (g 6 (by decide)), if_neg (g 7 (by decide)), if_neg (g 8 (by decide)), if_neg (g 9 (by decide)), if_neg (g 10 (by decide)), if_neg (g 11 (by decide)), if_neg (g 12 (by decide)), if_neg (g 13 (by decide)), if_neg (g 14 (by decide)), if_neg (g 15 (by decide)), if_neg (g 16 (by decide)), if_neg (g 17 (by decide)), if_neg (g 18 (by decide)), if_neg (g 19 (by decide)), zb_some]
    exact ⟨_, _, rfl, rfl, h0⟩
/-- how many stored ones follow s without a gap, at most d -/
theorem r_ready {c m : zMem} {g : Nat → Int} {x : Nat} (hg : m (51, 0, 0) = g) (x8 : x < 8) (c3 : c (9, 1, 0) 3 = x) (hs : ∀ k, k < 8 → c (39, 1, 0) k = g (56 + k) ∧ -1 ≤ g (56 + k) ∧ g (56 + k) ≤ 31) (b : Int) : ∀ (r d N N' : Nat), d + r = 7 → r < N → r < N' → ∃ z : Int, zlp (fX5_readyBehindExpected_l2 1 c) N (d : Int) = some z ∧ zlp (fX12_would_l103 (x : Int) b m) N' (1 + (d : Int)) = some (1 + z) := by
  intro r
  induction r with
  | zero =>
    intro d N N' hd hN hN'
    obtain ⟨k, rfl⟩ : ∃ k, N = k + 1 := ⟨N - 1, by omega⟩
    obtain ⟨k', rfl⟩ : ∃ k, N' = k + 1 := ⟨N' - 1, by omega⟩
    refine ⟨d, zlp_out ?_, zlp_out ?_⟩
    · unfold fX5_readyBehindExpected_l2
      rw [if_pos (by rw [w32_n (by omega)]; omega)]
    · unfold fX12_would_l103
      rw [if_pos (by rw [w32_id (by omega) (by omega)]; omega)]
  | succ r ih =>
    intro d N N' hd hN hN'
    obtain ⟨k, rfl⟩ : ∃ k, N = k + 1 := ⟨N - 1, by omega⟩
    obtain ⟨k', rfl⟩ : ∃ k, N' = k + 1 := ⟨N' - 1, by omega⟩
    have z1 : ((x : Int) + 1 + (d : Int)) % 8 = (((x + 1 + d) % 8 : Nat) : Int) := by omega
    have z2 : ((x : Int) + (1 + (d : Int))) % 8 = (((x + 1 + d) % 8 : Nat) : Int) := by omega
    have hk := hs ((x + 1 + d) % 8) (by omega)
    have wl : w32 (g (56 + (x + 1 + d) % 8)) = g (56 + (x + 1 + d) % 8) := w32_id (by omega) (by omega)
    have x1 : ix (56 + (((x + 1 + d) % 8 : Nat) : Int)) = 56 + (x + 1 + d) % 8 := by rw [ix_of (by omega) (by omega)]; omega
    have f1 : fX5_readyBehindExpected_l2 1 c (d : Int) = if g (56 + (x + 1 + d) % 8) = -1 then some (.inr (d : Int)) else some (.inl ((d : Int) + 1)) := by
      unfold fX5_readyBehindExpected_l2
      simp only [c3, z1, ix_nat (show (x + 1 + d) % 8 < 2147483648 by omega), hk.1, wl]
      rw [if_neg (by rw [w32_n (by omega)]; omega), if_pos (zin_nat (show (x + 1 + d) % 8 < 8 by omega) (by decide))]
    have f2 : fX12_would_l103 (x : Int) b m (1 + (d : Int)) = if g (56 + (x + 1 + d) % 8) = -1 then some (.inr (1 + (d : Int))) else some (.inl (1 + (d : Int) + 1)) := by
      unfold fX12_would_l103
      simp only [hg, z2, x1, wl]
      rw [if_neg (by rw [w32_id (by omega) (by omega)]; omega), if_pos (zin_of (by omega) (by omega) (by decide))]
    by_cases c0 : g (56 + (x + 1 + d) % 8) = -1
    · rw [if_pos c0] at f1 f2
      exact ⟨d, zlp_out f1, zlp_out f2⟩
    · rw [if_neg c0] at f1 f2
      obtain ⟨z, i1, i2⟩ := ih (d + 1) k k' (by omega) (by omega) (by omega)
      refine ⟨z, ?_, ?_⟩
      · rw [zlp_in f1]; exact i1
      · rw [zlp_in f2, show 1 + (d : Int) + 1 = 1 + ((d + 1 : Nat) : Int) by omega]; exact i2
theorem Q_would (h : RW n e c m) {a b : Int} (ha : i32 a) (hb : i32 b) : okR n e c (fX11_would a b c) (fX12_would a b m) := by
  have h0 := h.th.mo (show n ≤ n + 60 by omega)
  have wa : w32 a = a := w32_id ha.1 ha.2
  have wb : w32 b = b := w32_id hb.1 hb.2
  unfold okR fX11_would fX12_would fX12_would_b50 fX12_past fX5_fateOf fX5_readyBehindExpected
  simp only [zlet_eq, wa, wb]
  generalize zst m (50, 0, 0) 0 0 = m0 at h0 ⊢
  obtain ⟨⟨⟨v1, v1'⟩, v2, v3, -⟩, vq⟩ := h0.2.1.2.2.1
  obtain ⟨p0, -, ⟨p2a, p2b⟩, -⟩ := h0.2.1.1
  obtain ⟨x, ex⟩ := nat_of v1
  have x8 : x < 8 := by omega
  have c3 : c (9, 1, 0) 3 = x := by rw [v2, ex]
  have c71 := p0 1 (by decide)
  have w1 : w32 (m0 (51, 0, 0) 1) = m0 (51, 0, 0) 1 := w32_id (by omega) (by omega)
  have wd : w32 ((a - (x : Int)) % 8) = (a - (x : Int)) % 8 := w32_emod _ _ (by decide)
  rw [v_isSn ha, vz, v_within ha (by decide) (by decide), vz]
  simp only [c3, c71, ex, w1, wd, zb_some]
  by_cases c0 : 0 ≤ a ∧ a ≤ 7
  · rw [if_pos c0, if_pos c0, v_within hb (by decide) (by decide), vz]
    obtain ⟨i, rfl⟩ := nat_of c0.1
    have i8 : i < 8 := by omega
    by_cases c1 : 0 ≤ b ∧ b ≤ 1
    · rw [if_neg (show ¬ b < 0 by omega), if_pos c1.2, if_pos c1]
      have hk := v3 i i8
      have xi : ix (i : Int) = i := ix_nat (by omega)
      have zi : zin (i : Int) 8 := zin_nat i8 (by decide)
      have x56 : ix (56 + (i : Int)) = 56 + i := by rw [ix_of (by omega) (by omega)]; omega
      have z56 : zin (56 + (i : Int)) 3099 := zin_of (by omega) (by omega) (by decide)
      have wl : w32 (m0 (51, 0, 0) (56 + i)) = m0 (51, 0, 0) (56 + i) := w32_id (by omega) (by omega)
      simp only [xi, if_pos zi, x56, if_pos z56, hk.1, wl]
      rcases (show b = 0 ∨ b = 1 by omega) with rfl | rfl
      · simp only [if_true, if_neg (show ¬ (0 : Int) = 1 by decide), ite_self]
        by_cases d1 : ((i : Int) - x) % 8 < m0 (51, 0, 0) 1
        · simp only [if_pos d1]
          by_cases d2 : m0 (51, 0, 0) (56 + i) = -1
          · simp only [if_pos d2]
            by_cases d3 : ((i : Int) - x) % 8 = 0
            · rw [if_pos d3, if_pos (by omega), zb_some]; exact ⟨_, _, rfl, rfl, h0⟩
            · rw [if_neg d3, if_neg (by omega), zb_some]; exact ⟨_, _, rfl, rfl, h0⟩
          · simp only [if_neg d2]; exact ⟨_, _, rfl, rfl, h0⟩
        · simp only [if_neg d1]; exact ⟨_, _, rfl, rfl, h0⟩
      · simp only [if_true, if_neg (show ¬ (1 : Int) = 0 by decide)]
        by_cases d0 : ((i : Int) - x) % 8 = 0
        · have eix : i = x := by omega
          subst eix
          have hq : m0 (51, 0, 0) (56 + i) = -1 := by unfold Rq at vq; rw [ex] at vq; exact vq
          obtain ⟨z, y1, y2⟩ := r_ready (c := c) (m := m0) rfl i8 c3 v3 1 7 0 5000 5000 (by omega) (by omega) (by omega)
          have y1' : zlp (fX5_readyBehindExpected_l2 1 c) 5000 0 = some z := y1
          have y2' : zlp (fX12_would_l103 (i : Int) 1 m0) 5000 1 = some (1 + z) := y2
          rw [if_pos (show ((i : Int) - i) % 8 < m0 (51, 0, 0) 1 by omega), if_pos hq, if_pos d0, zb_some, if_pos w32_0, y1', zb_some, zb_some, if_neg (show ¬ 0 < ((i : Int) - i) % 8 by omega), y2', zb_some]
          exact ⟨_, _, rfl, rfl, h0⟩
        · rw [if_pos (show 0 < ((i : Int) - x) % 8 by omega)]
          have hne : ∃ f, (if ((i : Int) - x) % 8 < m0 (51, 0, 0) 1 then (if m0 (51, 0, 0) (56 + i) = -1 then (if ((i : Int) - x) % 8 = 0 then some 0 else some 1) else some 2) else some 3) = some f ∧ ¬ w32 f = (0 : Int) := by
            by_cases d1 : ((i : Int) - x) % 8 < m0 (51, 0, 0) 1
            · rw [if_pos d1]
              by_cases d2 : m0 (51, 0, 0) (56 + i) = -1
              · rw [if_pos d2, if_neg d0]; exact ⟨1, rfl, by decide⟩
              · rw [if_neg d2]; exact ⟨2, rfl, by decide⟩
            · rw [if_neg d1]; exact ⟨3, rfl, by decide⟩
          obtain ⟨f, f1, f2⟩ := hne
          rw [f1, zb_some, if_neg f2]
          exact ⟨_, _, rfl, rfl, h0⟩
    · rw [if_neg c1]
      by_cases c2 : b < 0
      · rw [if_pos c2]; exact ⟨_, _, rfl, rfl, h0⟩
      · rw [if_neg c2, if_neg (by omega)]; exact ⟨_, _, rfl, rfl, h0⟩
  · rw [if_neg c0, if_neg c0]; exact ⟨_, _, rfl, rfl, h0⟩
end
