/-! WEAK -/
noncomputable def psp (f : Nat → Int) (w : Nat) : Int := @ite _ (pbest f (w : Int)) (Classical.propDecidable _) 0 1
theorem psp_of {f : Nat → Int} {w : Nat} {r : Int} (h : pbest f r) : psp f w = if r = (w : Int) then 0 else 1 := by
  unfold psp
  by_cases c : r = (w : Int)
  · rw [if_pos c]
    exact if_pos (by rw [← c]; exact h)
  · rw [if_neg c]
    exact if_neg (fun hc => c (pbest_one h hc))
theorem zsm_0 : ∀ n, zsm (fun _ => 0) n = 0
  | 0 => rfl
  | n + 1 => by rw [zsm, zsm_0 n]; rfl
theorem psum {sq s : Nat → Int} : ∀ n, (∀ i, i < n → 0 ≤ sq i ∧ sq i ≤ 38) → zsm (fun i => s (sq i).toNat) n = zsm (fun c => pct sq n c * s c) 39
  | 0, _ => by
    have h1 : zsm (fun c => pct sq 0 c * s c) 39 = zsm (fun _ => 0) 39 := zsm_cong (fun k _ => by rw [pct, Int.zero_mul])
    rw [h1, zsm_0]; rfl
  | n + 1, h => by
    have hn := h n (by omega)
    have h1 := zsm_one (f := fun c => pct sq n c * s c) (f' := fun c => pct sq (n + 1) c * s c) (e := (sq n).toNat) (n := 39) (by omega) (fun k hk hne => by rw [pct, if_neg hne, Int.add_zero])
    rw [zsm, psum n (fun i hi => h i (by omega)), h1]
    rw [pct, if_pos rfl, Int.add_mul, Int.one_mul]
    omega
/-- one value turned -/
def ptn (f : Nat → Int) (w c : Nat) (k : Nat) : Int := if k = c then f c - 2 * psg (pcb w c) 1 else f k
theorem ptn_bd {f : Nat → Int} {w c : Nat} (hf : ∀ k, k < 39 → -100 ≤ f k ∧ f k ≤ 100) : pbd (ptn f w c) := fun k hk => by
  have h1 := hf k hk
  have h2 := psg_bd (x := 1) (c := 1) (pcb w c) (by decide)
  unfold ptn
  by_cases e : k = c
  · rw [if_pos e, ← e]; rw [e] at h1 ⊢; omega
  · rw [if_neg e]; omega
theorem pof_one {room len c v : Nat} (hv : v < 4) : pof room (2 ^ v) len c = pct (psq room v) len c := by
  rw [pof_4]
  unfold pof1
  rcases (show v = 0 ∨ v = 1 ∨ v = 2 ∨ v = 3 by omega) with rfl | rfl | rfl | rfl <;> simp
theorem c_weak1 {c : zMem} {w : Nat} {cnt : Nat → Int} (hc : ∀ k, k < 39 → c (13, 0, 0) k = cnt k) (a b d : Int) : ∃ i' K, zlp (fX11_weak_l49 a b d (pcode w : Int)) 5000 (0, c) = some (i', K) ∧ (∀ q, q ≠ (14, 0, 0) → K q = c q) ∧ ∀ k, k < 39 → K (14, 0, 0) k = psg (pcb w k) (cnt k) := by
  have hh := zlp_inv (body := fX11_weak_l49 a b d (pcode w : Int)) (fun j st => st.1 = (j : Int) ∧ (∀ q, q ≠ (14, 0, 0) → st.2 q = c q) ∧ ∀ k, k < j → st.2 (14, 0, 0) k = psg (pcb w k) (cnt k)) (fun st => (∀ q, q ≠ (14, 0, 0) → st.2 q = c q) ∧ ∀ k, k < 39 → st.2 (14, 0, 0) k = psg (pcb w k) (cnt k)) 39 (N := 5000) (by decide) (s0 := (0, c)) ⟨rfl, fun _ _ => rfl, fun k hk => absurd hk (Nat.not_lt_zero k)⟩ ?_ ?_
  · obtain ⟨⟨i', K⟩, hr, r1⟩ := hh
    exact ⟨i', K, hr, r1⟩
  · rintro j ⟨t1, K⟩ hj ⟨a1, a2, a3⟩
    dsimp only at a1 a2 a3
    subst a1
    have xj : ix (j : Int) = j := ix_nat (by omega)
    have zj : zin (j : Int) 39 := zin_nat hj (by decide)
    have e13 : K (13, 0, 0) j = cnt j := by rw [a2 _ (by simp), hc j hj]
    have fin : ∀ z, z = psg (pcb w j) (cnt j) → (∀ q, q ≠ (14, 0, 0) → zst K (14, 0, 0) j z q = c q) ∧ ∀ k, k < j + 1 → zst K (14, 0, 0) j z (14, 0, 0) k = psg (pcb w k) (cnt k) := fun z hz => ⟨fun q hq => by rw [zst_nq hq, a2 q hq], fun k hk => by
      by_cases c0 : k = j
      · subst c0; rw [zst_at, hz]
      · rw [zst_nk c0]; exact a3 k (by omega)⟩
    unfold fX11_weak_l49 fX11_weak_b49_90
    simp only [zlet_eq, xj, e13, if_pos zj]
    rw [if_neg (by rw [w32_n (by omega)]; omega), s_isOne (pcode_lt w) hj, zb_some, pcode_bit hj]
    by_cases cb : pcb w j = 1
    · rw [if_pos cb, if_neg (by decide)]
      exact Or.inl ⟨_, rfl, by dsimp only; omega, fin _ (by rw [cb]; rfl)⟩
    · rw [if_neg cb, if_pos (by decide)]
      exact Or.inl ⟨_, rfl, by dsimp only; omega, fin _ (by unfold psg; rw [if_neg cb])⟩
  · rintro ⟨t1, K⟩ ⟨a1, a2, a3⟩
    dsimp only at a1 a2 a3
    subst a1
    unfold fX11_weak_l49
    dsimp only
    rw [if_pos (by decide)]
    exact ⟨_, rfl, a2, a3⟩
theorem c_turn {c : zMem} {w j : Nat} {f cnt : Nat → Int} (w1 : w < 2048) (hj : j < 39) (hb : ∀ k, k < 39 → -100 ≤ f k ∧ f k ≤ 100) (hf : ∀ k, k < 39 → c (14, 0, 0) k = f k) (hfj : f j = psg (pcb w j) (cnt j)) (hc : 0 < cnt j) : ∃ K, fX11_turnSpoils (w : Int) (j : Int) c = some (psp (ptn f w j) w, K) ∧ (∀ q, q ≠ (14, 0, 0) → q ≠ (22, 0, 0) → q ≠ (24, 0, 0) → q ≠ (25, 0, 0) → q ≠ (26, 0, 0) → q ≠ (27, 0, 0) → K q = c q) ∧ ∀ k, k < 39 → K (14, 0, 0) k = f k := by
  have xj : ix (j : Int) = j := ix_nat (by omega)
  have zj : zin (j : Int) 39 := zin_nat hj (by decide)
  have bj := hb j hj
  have wj : w32 (f j) = f j := w32_id (by omega) (by omega)
  have key : ∀ z, z = ptn f w j j → fX11_turnSpoils_b25 (w : Int) (j : Int) (f j) z (j : Int) c = fX11_turnSpoils_b25 (w : Int) (j : Int) (f j) (ptn f w j j) (j : Int) c := fun z hz => by rw [hz]
  have main : ∃ K, fX11_turnSpoils_b25 (w : Int) (j : Int) (f j) (ptn f w j j) (j : Int) c = some (psp (ptn f w j) w, K) ∧ (∀ q, q ≠ (14, 0, 0) → q ≠ (22, 0, 0) → q ≠ (24, 0, 0) → q ≠ (25, 0, 0) → q ≠ (26, 0, 0) → q ≠ (27, 0, 0) → K q = c q) ∧ ∀ k, k < 39 → K (14, 0, 0) k = f k := by
    obtain ⟨r, C2, b1, b2, b3⟩ := s_bestWord (ptn_bd (w := w) (c := j) hb) (q := (14, 0, 0)) (by decide) (I := zst c (14, 0, 0) j (ptn f w j j)) (fun k hk => by
      by_cases e : k = j
      · subst e; rw [zst_at]
      · rw [zst_nk e, hf k hk]; unfold ptn; rw [if_neg e])
    have hp := psp_of (w := w) b2
    obtain ⟨x, rfl, x1, -⟩ := b2
    have fin : (∀ q, q ≠ (14, 0, 0) → q ≠ (22, 0, 0) → q ≠ (24, 0, 0) → q ≠ (25, 0, 0) → q ≠ (26, 0, 0) → q ≠ (27, 0, 0) → zst C2 (14, 0, 0) j (f j) q = c q) ∧ ∀ k, k < 39 → zst C2 (14, 0, 0) j (f j) (14, 0, 0) k = f k := ⟨fun q q1 q2 q3 q4 q5 q6 => by rw [zst_nq q1, b3 q q2 q3 q4 q5 q6, zst_nq q1], fun k hk => by
      by_cases e : k = j
      · subst e; rw [zst_at]
      · rw [zst_nk e, b3 _ (by decide) (by decide) (by decide) (by decide) (by decide), zst_nk e, hf k hk]⟩
    unfold fX11_turnSpoils_b25 fX11_turnSpoils_b46
    simp only [zlet_eq, xj, if_pos zj]
    rw [b1, zb_some]
    dsimp only
    rw [w32_n (show x < 2147483648 by omega), w32_n (show w < 2147483648 by omega)]
    by_cases cx : (x : Int) = (w : Int)
    · rw [if_pos cx] at hp ⊢
      rw [if_pos (Or.inl rfl), hp]
      exact ⟨_, rfl, fin⟩
    · rw [if_neg cx] at hp ⊢
      rw [if_pos (Or.inr rfl), hp]
      exact ⟨_, rfl, fin⟩
  unfold fX11_turnSpoils
  simp only [zlet_eq, xj, if_pos zj, hf j hj, wj]
  have ht : ptn f w j j = f j - 2 * psg (pcb w j) 1 := if_pos rfl
  by_cases cb : pcb w j = 1
  · rw [if_neg (by rw [hfj, cb]; unfold psg; rw [if_pos rfl]; omega), key _ (by rw [ht, cb]; unfold psg; rw [if_pos rfl]; omega)]
    exact main
  · rw [if_pos (by rw [hfj]; unfold psg; rw [if_neg cb]; omega), key _ (by rw [ht]; unfold psg; rw [if_neg cb]; omega)]
    exact main
theorem c_weak2 {c : zMem} {w : Nat} {f cnt : Nat → Int} (w1 : w < 2048) (hb : ∀ k, k < 39 → 0 ≤ cnt k ∧ cnt k ≤ 60) (hf : ∀ k, k < 39 → c (14, 0, 0) k = f k) (hfj : ∀ k, k < 39 → f k = psg (pcb w k) (cnt k)) (h13 : ∀ k, k < 39 → c (13, 0, 0) k = cnt k) (b d : Int) : ∃ i' K, zlp (fX11_weak_l103 (w : Int) b d) 5000 (0, 0, c) = some (zsm (fun k => cnt k * psp (ptn f w k) w) 39, i', K) ∧ ∀ q, q ≠ (14, 0, 0) → q ≠ (22, 0, 0) → q ≠ (24, 0, 0) → q ≠ (25, 0, 0) → q ≠ (26, 0, 0) → q ≠ (27, 0, 0) → K q = c q := by
  have hbf : ∀ k, k < 39 → -100 ≤ f k ∧ f k ≤ 100 := fun k hk => by
    have h1 := hb k hk
    have h2 := psg_bd (x := cnt k) (c := 60) (pcb w k) (by omega)
    rw [hfj k hk]; omega
  have hh := zlp_inv (body := fX11_weak_l103 (w : Int) b d) (fun j st => st.1 = zsm (fun k => cnt k * psp (ptn f w k) w) j ∧ st.2.1 = (j : Int) ∧ (∀ q, q ≠ (14, 0, 0) → q ≠ (22, 0, 0) → q ≠ (24, 0, 0) → q ≠ (25, 0, 0) → q ≠ (26, 0, 0) → q ≠ (27, 0, 0) → st.2.2 q = c q) ∧ ∀ k, k < 39 → st.2.2 (14, 0, 0) k = f k) (fun st => st.1 = zsm (fun k => cnt k * psp (ptn f w k) w) 39 ∧ ∀ q, q ≠ (14, 0, 0) → q ≠ (22, 0, 0) → q ≠ (24, 0, 0) → q ≠ (25, 0, 0) → q ≠ (26, 0, 0) → q ≠ (27, 0, 0) → st.2.2 q = c q) 39 (N := 5000) (by decide) (s0 := (0, 0, c)) ⟨rfl, rfl, fun _ _ _ _ _ _ _ => rfl, hf⟩ ?_ ?_
  · obtain ⟨⟨x, i', K⟩, hr, r1, r2⟩ := hh
    dsimp only at r1
    subst r1
    exact ⟨i', K, hr, r2⟩
  · rintro j ⟨t0, t1, K⟩ hj ⟨a0, a1, a2, a3⟩
    dsimp only at a0 a1 a2 a3
    subst a0 a1
    have xj : ix (j : Int) = j := ix_nat (by omega)
    have zj : zin (j : Int) 39 := zin_nat hj (by decide)
    have bj := hb j hj
    have e13 : K (13, 0, 0) j = cnt j := by rw [a2 _ (by decide) (by decide) (by decide) (by decide) (by decide) (by decide), h13 j hj]
    have wc : w32 (cnt j) = cnt j := w32_id (by omega) (by omega)
    unfold fX11_weak_l103 fX11_weak_b103_142
    simp only [zlet_eq, xj, e13, wc, if_pos zj]
    rw [if_neg (by rw [w32_n (by omega)]; omega)]
    have es : zsm (fun k => cnt k * psp (ptn f w k) w) (j + 1) = zsm (fun k => cnt k * psp (ptn f w k) w) j + cnt j * psp (ptn f w j) w := rfl
    by_cases c0 : cnt j ≤ 0
    · rw [if_pos c0]
      refine Or.inl ⟨_, rfl, ?_, by dsimp only; omega, a2, a3⟩
      dsimp only
      rw [es, show cnt j = 0 by omega, Int.zero_mul, Int.add_zero]
    · obtain ⟨K', k1, k2, k3⟩ := c_turn (c := K) (w := w) (j := j) (f := f) (cnt := cnt) w1 hj hbf a3 (hfj j hj) (by omega)
      have e13' : K' (13, 0, 0) j = cnt j := by rw [k2 _ (by decide) (by decide) (by decide) (by decide) (by decide) (by decide), e13]
      have fr : ∀ q, q ≠ (14, 0, 0) → q ≠ (22, 0, 0) → q ≠ (24, 0, 0) → q ≠ (25, 0, 0) → q ≠ (26, 0, 0) → q ≠ (27, 0, 0) → K' q = c q := fun q q1 q2 q3 q4 q5 q6 => by rw [k2 q q1 q2 q3 q4 q5 q6, a2 q q1 q2 q3 q4 q5 q6]
      rw [if_neg c0, k1, zb_some]
      dsimp only
      rw [e13']
      have hsp : psp (ptn f w j) w = 0 ∨ psp (ptn f w j) w = 1 := by
        unfold psp
        by_cases hq : pbest (ptn f w j) (w : Int)
        · exact Or.inl (if_pos hq)
        · exact Or.inr (if_neg hq)
      rcases hsp with e | e
      · rw [e, if_pos w32_0]
        refine Or.inl ⟨_, rfl, ?_, by dsimp only; omega, fr, k3⟩
        dsimp only
        rw [es, e, Int.mul_zero, Int.add_zero]
      · rw [e, if_neg (by decide)]
        refine Or.inl ⟨_, rfl, ?_, by dsimp only; omega, fr, k3⟩
        dsimp only
        rw [es, e, Int.mul_one]
  · rintro ⟨t0, t1, K⟩ ⟨a0, a1, a2, a3⟩
    dsimp only at a0 a1 a2 a3
    subst a1
    unfold fX11_weak_l103
    dsimp only
    rw [if_pos (by decide)]
    exact ⟨_, rfl, a0, a2⟩
theorem m_weak0 {m : zMem} (a b d : Int) : ∃ i' K, zlp (fX12_weak_l46 a b d) 5000 (0, m) = some (i', K) ∧ (∀ q, q ≠ (58, 0, 0) → K q = m q) ∧ ∀ k, k < 39 → K (58, 0, 0) k = 0 := by
  have hh := zlp_inv (body := fX12_weak_l46 a b d) (fun j st => st.1 = (j : Int) ∧ (∀ q, q ≠ (58, 0, 0) → st.2 q = m q) ∧ ∀ k, k < j → st.2 (58, 0, 0) k = 0) (fun st => (∀ q, q ≠ (58, 0, 0) → st.2 q = m q) ∧ ∀ k, k < 39 → st.2 (58, 0, 0) k = 0) 39 (N := 5000) (by decide) (s0 := (0, m)) ⟨rfl, fun _ _ => rfl, fun k hk => absurd hk (Nat.not_lt_zero k)⟩ ?_ ?_
  · obtain ⟨⟨i', K⟩, hr, r1⟩ := hh
    exact ⟨i', K, hr, r1⟩
  · rintro j ⟨t1, K⟩ hj ⟨a1, a2, a3⟩
    dsimp only at a1 a2 a3
    subst a1
    have xj : ix (j : Int) = j := ix_nat (by omega)
    unfold fX12_weak_l46
    simp only [zlet_eq, xj]
    rw [if_neg (by rw [w32_n (by omega)]; omega), if_pos (zin_nat hj (by decide))]
    refine Or.inl ⟨_, rfl, by dsimp only; omega, fun q hq => by dsimp only; rw [zst_nq hq, a2 q hq], fun k hk => ?_⟩
    dsimp only
    by_cases c0 : k = j
    · subst c0; rw [zst_at]
    · rw [zst_nk c0]; exact a3 k (by omega)
  · rintro ⟨t1, K⟩ ⟨a1, a2, a3⟩
    dsimp only at a1 a2 a3
    subst a1
    unfold fX12_weak_l46
    dsimp only
    rw [if_pos (by decide)]
    exact ⟨_, rfl, a2, a3⟩
theorem psg_add (b : Nat) (x y : Int) : psg b (x + y) = psg b x + psg b y := by
  unfold psg
  by_cases h : b = 1
  · rw [if_pos h, if_pos h, if_pos h]
  · rw [if_neg h, if_neg h, if_neg h]; omega
theorem psg_0 (b : Nat) : psg b 0 = 0 := by unfold psg; split <;> rfl
theorem m_weak1 {m : zMem} {w len : Nat} {sq : Nat → Int} (w1 : w < 2048) (hlen : len ≤ 60) (hrow : ∀ i, i < len → m (56, 0, 0) i = sq i ∧ 0 ≤ sq i ∧ sq i ≤ 38) (hz : ∀ k, k < 39 → m (58, 0, 0) k = 0) (b : Int) : ∃ i' K, zlp (fX12_weak_l70 (w : Int) b (len : Int)) 5000 (0, m) = some (i', K) ∧ (∀ q, q ≠ (58, 0, 0) → K q = m q) ∧ ∀ k, k < 39 → K (58, 0, 0) k = psg (pcb w k) (pct sq len k) := by
  have hh := zlp_inv (body := fX12_weak_l70 (w : Int) b (len : Int)) (fun j st => st.1 = (j : Int) ∧ (∀ q, q ≠ (58, 0, 0) → st.2 q = m q) ∧ ∀ k, k < 39 → st.2 (58, 0, 0) k = psg (pcb w k) (pct sq j k)) (fun st => (∀ q, q ≠ (58, 0, 0) → st.2 q = m q) ∧ ∀ k, k < 39 → st.2 (58, 0, 0) k = psg (pcb w k) (pct sq len k)) len (N := 5000) (by omega) (s0 := (0, m)) ⟨rfl, fun _ _ => rfl, fun k hk => by dsimp only; rw [hz k hk, pct, psg_0]⟩ ?_ ?_
  · obtain ⟨⟨i', K⟩, hr, r1⟩ := hh
    exact ⟨i', K, hr, r1⟩
  · rintro j ⟨t1, K⟩ hj ⟨a1, a2, a3⟩
    dsimp only at a1 a2 a3
    subst a1
    obtain ⟨x, ex⟩ := nat_of (hrow j hj).2.1
    have hx := (hrow j hj).2.2
    have x39 : x < 39 := by omega
    have e56 : K (56, 0, 0) j = (x : Int) := by rw [a2 _ (by simp), (hrow j hj).1, ex]
    have xj : ix (j : Int) = j := ix_nat (by omega)
    have xx : ix (x : Int) = x := ix_nat (by omega)
    unfold fX12_weak_l70
    simp only [zlet_eq, xj, e56, xx, a3 x x39]
    rw [if_neg (by rw [w32_n (by omega), w32_n (by omega)]; omega), if_pos (zin_nat (show j < 60 by omega) (by decide)), if_pos (zin_nat x39 (by decide)), s_codeBit w1 x39, zb_some, m_signed _ (by have := pcb_lt w x; omega), zb_some]
    refine Or.inl ⟨_, rfl, by dsimp only; omega, fun q hq => by dsimp only; rw [zst_nq hq, a2 q hq], fun k hk => ?_⟩
    dsimp only
    rw [pct, ex, show ((x : Int)).toNat = x from rfl]
    by_cases c0 : k = x
    · subst c0; rw [zst_at, if_pos rfl, psg_add]
    · rw [zst_nk c0, if_neg c0, Int.add_zero]; exact a3 k hk
  · rintro ⟨t1, K⟩ ⟨a1, a2, a3⟩
    dsimp only at a1 a2 a3
    subst a1
    unfold fX12_weak_l70
    dsimp only
    rw [if_pos (by omega)]
    exact ⟨_, rfl, a2, a3⟩
theorem m_weak2 {m : zMem} {w len : Nat} {sq f : Nat → Int} (w1 : w < 2048) (hlen : len ≤ 60) (hrow : ∀ i, i < len → m (56, 0, 0) i = sq i ∧ 0 ≤ sq i ∧ sq i ≤ 38) (hb : ∀ k, k < 39 → -100 ≤ f k ∧ f k ≤ 100) (hf : ∀ k, k < 39 → m (58, 0, 0) k = f k) (b : Int) : ∃ i' K, zlp (fX12_weak_l118 (w : Int) b (len : Int)) 5000 (0, 0, m) = some (zsm (fun i => psp (ptn f w (sq i).toNat) w) len, i', K) ∧ ∀ q, q ≠ (58, 0, 0) → q ≠ (59, 0, 0) → q ≠ (60, 0, 0) → q ≠ (61, 0, 0) → q ≠ (62, 0, 0) → K q = m q := by
  have hh := zlp_inv (body := fX12_weak_l118 (w : Int) b (len : Int)) (fun j st => st.1 = zsm (fun i => psp (ptn f w (sq i).toNat) w) j ∧ st.2.1 = (j : Int) ∧ (∀ q, q ≠ (58, 0, 0) → q ≠ (59, 0, 0) → q ≠ (60, 0, 0) → q ≠ (61, 0, 0) → q ≠ (62, 0, 0) → st.2.2 q = m q) ∧ ∀ k, k < 39 → st.2.2 (58, 0, 0) k = f k) (fun st => st.1 = zsm (fun i => psp (ptn f w (sq i).toNat) w) len ∧ ∀ q, q ≠ (58, 0, 0) → q ≠ (59, 0, 0) → q ≠ (60, 0, 0) → q ≠ (61, 0, 0) → q ≠ (62, 0, 0) → st.2.2 q = m q) len (N := 5000) (by omega) (s0 := (0, 0, m)) ⟨rfl, rfl, fun _ _ _ _ _ _ => rfl, hf⟩ ?_ ?_
  · obtain ⟨⟨x, i', K⟩, hr, r1, r2⟩ := hh
    dsimp only at r1
    subst r1
    exact ⟨i', K, hr, r2⟩
  · rintro j ⟨t0, t1, K⟩ hj ⟨a0, a1, a2, a3⟩
    dsimp only at a0 a1 a2 a3
    subst a0 a1
    obtain ⟨x, ex⟩ := nat_of (hrow j hj).2.1
    have hx := (hrow j hj).2.2
    have x39 : x < 39 := by omega
    have e56 : K (56, 0, 0) j = (x : Int) := by rw [a2 _ (by simp) (by simp) (by simp) (by simp) (by simp), (hrow j hj).1, ex]
    have xj : ix (j : Int) = j := ix_nat (by omega)
    have xx : ix (x : Int) = x := ix_nat (by omega)
    have ht : ptn f w x x = f x - 2 * psg (pcb w x) 1 := if_pos rfl
    obtain ⟨r, C2, b1, b2, b3⟩ := s_bestNow (ptn_bd (w := w) (c := x) hb) (I := zst K (58, 0, 0) x (f x - 2 * psg (pcb w x) 1)) (fun k hk => by
      by_cases e : k = x
      · subst e; rw [zst_at, ht]
      · rw [zst_nk e, a3 k hk]; unfold ptn; rw [if_neg e])
    have hp := psp_of (w := w) b2
    obtain ⟨y, rfl, y1, -⟩ := b2
    have C56 : C2 (56, 0, 0) j = (x : Int) := by rw [b3 _ (by decide) (by decide) (by decide) (by decide), zst_nq (by simp), e56]
    have C58 : C2 (58, 0, 0) x = f x - 2 * psg (pcb w x) 1 := by rw [b3 _ (by decide) (by decide) (by decide) (by decide), zst_at]
    have es : zsm (fun i => psp (ptn f w (sq i).toNat) w) (j + 1) = zsm (fun i => psp (ptn f w (sq i).toNat) w) j + psp (ptn f w x) w := by rw [zsm, ex]; rfl
    have z60 : zin (j : Int) 60 := zin_nat (show j < 60 by omega) (by decide)
    have z39 : zin (x : Int) 39 := zin_nat x39 (by decide)
    have fin : (∀ q, q ≠ (58, 0, 0) → q ≠ (59, 0, 0) → q ≠ (60, 0, 0) → q ≠ (61, 0, 0) → q ≠ (62, 0, 0) → zst C2 (58, 0, 0) x (f x - 2 * psg (pcb w x) 1 + 2 * psg (pcb w x) 1) q = m q) ∧ ∀ k, k < 39 → zst C2 (58, 0, 0) x (f x - 2 * psg (pcb w x) 1 + 2 * psg (pcb w x) 1) (58, 0, 0) k = f k := ⟨fun q q1 q2 q3 q4 q5 => by rw [zst_nq q1, b3 q q2 q3 q4 q5, zst_nq q1, a2 q q1 q2 q3 q4 q5], fun k hk => by
      by_cases e : k = x
      · subst e; rw [zst_at]; omega
      · rw [zst_nk e, b3 _ (by decide) (by decide) (by decide) (by decide), zst_nk e, a3 k hk]⟩
    unfold fX12_weak_l118 fX12_weak_b118_175
    simp only [zlet_eq, xj, e56, xx, a3 x x39, if_pos z60, if_pos z39]
    rw [if_neg (by rw [w32_n (by omega), w32_n (by omega)]; omega), s_codeBit w1 x39, zb_some, m_signed _ (by have := pcb_lt w x; omega), zb_some, b1, zb_some]
    simp only [C56, xx, C58, if_pos z39]
    rw [w32_n (show y < 2147483648 by omega), w32_n (show w < 2147483648 by omega)]
    by_cases cy : (y : Int) = (w : Int)
    · rw [if_pos cy] at hp ⊢
      refine Or.inl ⟨_, rfl, ?_, by dsimp only; omega, fin⟩
      dsimp only
      rw [es, hp]
    · rw [if_neg cy] at hp ⊢
      refine Or.inl ⟨_, rfl, ?_, by dsimp only; omega, fin⟩
      dsimp only
      rw [es, hp]
  · rintro ⟨t0, t1, K⟩ ⟨a0, a1, a2, a3⟩
    dsimp only at a0 a1 a2 a3
    subst a1
    unfold fX12_weak_l118
    dsimp only
    rw [if_pos (by omega)]
    exact ⟨_, rfl, a0, a2⟩
section
variable {n : Int} {e : Nat → Prop} {c m : zMem}
theorem Q_weak (h : RW n e c m) {a v l : Int} (ha : i32 a) (hv : i32 v) (hl : i32 l) : okC n e (fX11_weak a v l c) (fX12_weak a v l m) := by
  have h0 := h.th
  have wv : w32 v = v := w32_id hv.1 hv.2
  unfold okC fX11_weak fX12_weak
  simp only [zlet_eq, wv]
  generalize zst m (50, 0, 0) 0 0 = m0 at h0 ⊢
  have hf := h0.mo (show n ≤ n + 60 by omega)
  rw [v_isVersion hv, vz, v_within hv (by decide) (by decide), vz]
  by_cases c0 : 0 ≤ v ∧ v ≤ 3
  · rw [if_pos c0, if_pos c0, v_isWord ha, vz, m_isWord ha, vz]
    by_cases c1 : 0 ≤ a ∧ a ≤ 2047
    · rw [if_pos c1, if_pos c1, v_isLength hl, vz, m_isLength hl, vz]
      by_cases c2 : 1 ≤ l ∧ l ≤ 60
      · rw [if_pos c2, if_pos c2]
        obtain ⟨w, rfl⟩ := nat_of c1.1
        obtain ⟨ve, rfl⟩ := nat_of c0.1
        obtain ⟨len, rfl⟩ := nat_of (show 0 ≤ l by omega)
        have w1 : w < 2048 := by omega
        have v4 : ve < 4 := by omega
        obtain ⟨p0, -, -, -, -, ⟨p5a, p5b⟩, -⟩ := h0.2.1.1
        obtain ⟨room, er⟩ := nat_of (show 0 ≤ m0 (51, 0, 0) 4 by omega)
        have e7 : c (7, 1, 0) 4 = room := by rw [p0 4 (by decide), er]
        have hsh : ishl 1 (ve : Int) = ((2 ^ ve : Nat) : Int) := by
          rw [show (1 : Int) = ((1 : Nat) : Int) from rfl, ishl_nat (by omega), Nat.one_mul]
        have hpow : 2 ^ ve < 16 := by
          rcases (show ve = 0 ∨ ve = 1 ∨ ve = 2 ∨ ve = 3 by omega) with rfl | rfl | rfl | rfl <;> decide
        have hsq := fun i => psq_rng (room := room) ve i (by omega) (by omega)
        obtain ⟨J, j1, j2, j3⟩ := s_countVersions (I := c) h0.1.2.1 (room := room) (set := 2 ^ ve) (len := len) (by omega) (by omega) e7 hpow (by omega)
        obtain ⟨i1, K, k1, k2, k3⟩ := c_weak1 (c := J) (w := w) (cnt := pct (psq room ve) len) (fun k hk => by rw [j3 k hk, pof_one v4]) (w : Int) (ve : Int) (len : Int)
        have hcb : ∀ k, k < 39 → 0 ≤ pct (psq room ve) len k ∧ pct (psq room ve) len k ≤ 60 := fun k _ => by
          have := pct_pos (psq room ve) k len
          omega
        obtain ⟨i2, K2, q1, q2⟩ := c_weak2 (c := K) (w := w) (f := fun k => psg (pcb w k) (pct (psq room ve) len k)) (cnt := pct (psq room ve) len) w1 hcb k3 (fun _ _ => rfl) (fun k hk => by rw [k2 _ (by simp), j3 k hk, pof_one v4]) (ve : Int) (len : Int)
        obtain ⟨M, l1, l2, l3⟩ := s_laysSending (m := m0) h0.1.2.2.2 (room := room) (v := ve) (len := len) (by omega) (by omega) er v4 (by omega)
        obtain ⟨i3, M1, o1, o2, o3⟩ := m_weak0 (m := M) (w : Int) (ve : Int) (len : Int)
        obtain ⟨i4, M2, r1, r2, r3⟩ := m_weak1 (m := M1) (w := w) (len := len) (sq := psq room ve) w1 (by omega) (fun i hi => by rw [o2 _ (by simp)]; exact ⟨l3 i hi, hsq i⟩) o3 (ve : Int)
        obtain ⟨i5, M3, s1, s2⟩ := m_weak2 (m := M2) (w := w) (len := len) (sq := psq room ve) (f := fun k => psg (pcb w k) (pct (psq room ve) len k)) w1 (by omega) (fun i hi => by rw [r2 _ (by simp), o2 _ (by simp)]; exact ⟨l3 i hi, hsq i⟩) (fun k hk => by
          have h1 := hcb k hk
          have h2 := psg_bd (x := pct (psq room ve) len k) (c := 60) (pcb w k) (by omega)
          omega) r3 (ve : Int)
        have hsum := psum (sq := psq room ve) (s := fun k => psp (ptn (fun k => psg (pcb w k) (pct (psq room ve) len k)) w k) w) len (fun i _ => hsq i)
        have J16 : J (16, 0, 0) w = (pcode w : Int) := by rw [j2 _ (by simp) (by simp)]; exact h0.1.1.1 w w1
        rw [hsh, j1, zb_some, if_pos (zin_nat w1 (by decide)), ix_nat (by omega), J16, k1, zb_some]
        dsimp only
        rw [q1, zb_some, l1, zb_some, o1, zb_some]
        dsimp only
        rw [r1, zb_some]
        dsimp only
        rw [s1, zb_some]
        refine ⟨_, _, _, rfl, ?_, h0.kp (by omega) (fun q hq => by rw [q2 q (kc_ne hq rfl) (kc_ne hq rfl) (kc_ne hq rfl) (kc_ne hq rfl) (kc_ne hq rfl) (kc_ne hq rfl), k2 q (kc_ne hq rfl), j2 q (kc_ne hq rfl) (kc_ne hq rfl)]) (m' := M3) (fun q hq => by rw [s2 q (km_ne hq rfl) (km_ne hq rfl) (km_ne hq rfl) (km_ne hq rfl) (km_ne hq rfl), r2 q (km_ne hq rfl), o2 q (km_ne hq rfl), l2 q (km_ne hq rfl)])⟩
        dsimp only
        rw [← hsum]
      · rw [if_neg c2, if_neg c2]; exact ⟨_, _, _, rfl, rfl, hf⟩
    · rw [if_neg c1, if_neg c1]; exact ⟨_, _, _, rfl, rfl, hf⟩
  · rw [if_neg c0, if_neg c0]; exact ⟨_, _, _, rfl, rfl, hf⟩
end
