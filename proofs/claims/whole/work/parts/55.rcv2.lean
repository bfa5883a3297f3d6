/-! THE RECEIVER: class and model side by side -/
theorem zlp_in {σ ρ : Type} {body : σ → Option (σ ⊕ ρ)} {s s' : σ} {n : Nat} (h : body s = some (.inl s')) : zlp body (n + 1) s = zlp body n s' := by
  show (match body s with | none => none | some (.inl s') => zlp body n s' | some (.inr r) => some r) = _
  rw [h]
theorem zlp_out {σ ρ : Type} {body : σ → Option (σ ⊕ ρ)} {s : σ} {r : ρ} {n : Nat} (h : body s = some (.inr r)) : zlp body (n + 1) s = some r := by
  show (match body s with | none => none | some (.inl s') => zlp body n s' | some (.inr r) => some r) = _
  rw [h]
def Rv (L : Nat) (B : Int) (c : zMem) (g : Nat → Int) : Prop := (0 ≤ g 55 ∧ g 55 ≤ 7) ∧ c (9, L, 0) 3 = g 55 ∧ (∀ k, k < 8 → c (39, L, 0) k = g (56 + k) ∧ -1 ≤ g (56 + k) ∧ g (56 + k) ≤ 31) ∧ c (9, L, 0) 6 = g 66 ∧ 0 ≤ g 66 ∧ g 66 + psr g ≤ B ∧ c (9, L, 0) 7 = g 67 ∧ c (9, L, 0) 8 = g 68 ∧ c (9, L, 0) 9 = g 69 ∧ c (9, L, 0) 10 = g 72 ∧ ∀ j : Nat, j < 256 → ((j : Int) < g 66 ∨ 256 ≤ g 66) → c (40, L, 0) j = g (73 + j)
/-- the timer stands, or runs -/
def Rt (L : Nat) (c : zMem) (g : Nat → Int) : Prop := (c (9, L, 0) 4 = 0 ∧ g 64 = -1 ∧ g 65 = -1 ∧ 0 ≤ c (9, L, 0) 5 ∧ c (9, L, 0) 5 ≤ 8) ∨ (1 ≤ c (9, L, 0) 4 ∧ c (9, L, 0) 4 ≤ 60 ∧ g 64 = c (9, L, 0) 4 ∧ 1 ≤ c (9, L, 0) 5 ∧ c (9, L, 0) 5 ≤ 8 ∧ g 65 = (g 55 + c (9, L, 0) 5) % 8)
def sRc (L : Nat) (c c' : zMem) : Prop := ∀ q : zPl, q ≠ (9, L, 0) → q ≠ (39, L, 0) → q ≠ (40, L, 0) → c' q = c q
def sRm (m m' : zMem) : Prop := (∀ q : zPl, q ≠ (51, 0, 0) → m' q = m q) ∧ ∀ k, k < 55 ∨ 329 ≤ k ∨ k = 70 ∨ k = 71 → m' (51, 0, 0) k = m (51, 0, 0) k
theorem sRc.rf (L : Nat) (c : zMem) : sRc L c c := fun _ _ _ _ => rfl
theorem sRm.rf (m : zMem) : sRm m m := ⟨fun _ _ => rfl, fun _ _ => rfl⟩
theorem sRc.tr {L : Nat} {a b c : zMem} (h1 : sRc L a b) (h2 : sRc L b c) : sRc L a c := fun q a1 a2 a3 => (h2 q a1 a2 a3).trans (h1 q a1 a2 a3)
theorem sRm.tr {a b c : zMem} (h1 : sRm a b) (h2 : sRm b c) : sRm a c := ⟨fun q hq => (h2.1 q hq).trans (h1.1 q hq), fun k hk => (h2.2 k hk).trans (h1.2 k hk)⟩
theorem r_move {L : Nat} {B : Int} {c m : zMem} (h : Rv L B c (m (51, 0, 0))) (hB : B ≤ 1000000000) (h4 : i32 (c (9, L, 0) 4)) (h5 : -5 ≤ c (9, L, 0) 5 ∧ c (9, L, 0) 5 ≤ 20) (h6 : i32 (m (51, 0, 0) 64)) (h7 : i32 (m (51, 0, 0) 65)) : ∃ c' m', fX5_moveOn L c = some c' ∧ fX12_passes m = some m' ∧ Rv L B c' (m' (51, 0, 0)) ∧ sRc L c c' ∧ sRm m m' ∧ m' (51, 0, 0) 55 = (m (51, 0, 0) 55 + 1) % 8 ∧ (∀ k, k < 8 → m' (51, 0, 0) (56 + k) = if (k : Int) = m (51, 0, 0) 55 then -1 else m (51, 0, 0) (56 + k)) ∧ tC L c c' ∧ tM (m (51, 0, 0)) (m' (51, 0, 0)) := by
  obtain ⟨⟨e0, e1⟩, he, hs, hn, n0, hb, q7, q8, q9, q10, ho⟩ := h
  obtain ⟨e, ee⟩ := nat_of e0
  obtain ⟨n, en⟩ := nat_of n0
  have e8 : e < 8 := by omega
  have p0 := psr_rng (m (51, 0, 0))
  have hse := hs e e8
  obtain ⟨c', c1, c2, c3, c4, c5, c6, c7⟩ := c_move (he.trans ee) e8 (hn.trans en) (by rw [hse.1]; exact hse.2) h4 h5
  obtain ⟨m', m1, m2, m3, m4, m5, m6, m7⟩ := m_passes ee e8 en (by omega) hse.2 h6 h7
  have ep := psr_set (g := m (51, 0, 0)) (g' := m' (51, 0, 0)) e8 (fun k hk hne => by rw [m4 k hk, if_neg hne])
  rw [m4 e e8, if_pos rfl, if_pos rfl] at ep
  rw [hse.1] at c6
  refine ⟨c', m', c1, m1, ?_, c2, ⟨m2, fun k hk => m3 k (by omega)⟩, by rw [m5, ee], fun k hk => ?_, c7, m7⟩
  · have hsh : ∀ k, k < 8 → c' (39, L, 0) k = m' (51, 0, 0) (56 + k) ∧ -1 ≤ m' (51, 0, 0) (56 + k) ∧ m' (51, 0, 0) (56 + k) ≤ 31 := fun k hk => by
      rw [c3, m4 k hk]
      by_cases e1 : k = e
      · rw [if_pos e1, if_pos e1]; decide
      · rw [if_neg e1, if_neg e1]; exact hs k hk
    by_cases c0 : m (51, 0, 0) (56 + e) = -1
    · rw [if_pos c0] at c6 m6 ep
      refine ⟨by rw [m5]; omega, by rw [c4, m5], hsh, by rw [c6.2.1, m6.2.1], by rw [m6.2.1]; omega, by rw [m6.2.1]; omega, by rw [c6.1, m6.1, q7], by rw [c5 8 (by decide), m3 68 (by decide), q8], by rw [c5 9 (by decide), m3 69 (by decide), q9], by rw [c5 10 (by decide), m3 72 (by decide), q10], fun j hj hh => ?_⟩
      rw [c6.2.2, m6.2.2 j hj]
      exact ho j hj (by rw [m6.2.1] at hh; rw [en]; exact hh)
    · rw [if_neg c0] at c6 m6 ep
      refine ⟨by rw [m5]; omega, by rw [c4, m5], hsh, by rw [c6.2.1, m6.2.1], by rw [m6.2.1]; omega, by rw [m6.2.1]; omega, by rw [c6.1, m6.1, q7], by rw [c5 8 (by decide), m3 68 (by decide), q8], by rw [c5 9 (by decide), m3 69 (by decide), q9], by rw [c5 10 (by decide), m3 72 (by decide), q10], fun j hj hh => ?_⟩
      rw [c6.2.2, m6.2.2 j hj]
      by_cases e1 : j = n % 256
      · rw [if_pos e1, if_pos e1]
      · rw [if_neg e1, if_neg e1]
        exact ho j hj (by rw [m6.2.1] at hh; rw [en]; omega)
  · rw [m4 k hk, ee]
    by_cases e1 : k = e
    · rw [if_pos e1, if_pos (by omega)]
    · rw [if_neg e1, if_neg (by omega)]
theorem Rt.b {L : Nat} {c : zMem} {g : Nat → Int} (t : Rt L c g) : i32 (c (9, L, 0) 4) ∧ (-5 ≤ c (9, L, 0) 5 ∧ c (9, L, 0) 5 ≤ 20) ∧ i32 (g 64) ∧ i32 (g 65) := by
  rcases t with ⟨t1, t2, t3, t4, t5⟩ | ⟨t1, t2, t3, t4, t5, t6⟩
  · exact ⟨by omega, by omega, by omega, by omega⟩
  · exact ⟨by omega, by omega, by omega, by omega⟩
theorem r_moveT {L : Nat} {B : Int} {c m : zMem} (h : Rv L B c (m (51, 0, 0))) (hB : B ≤ 1000000000) (t : Rt L c (m (51, 0, 0))) : ∃ c' m', fX5_moveOn L c = some c' ∧ fX12_passes m = some m' ∧ Rv L B c' (m' (51, 0, 0)) ∧ Rt L c' (m' (51, 0, 0)) ∧ sRc L c c' ∧ sRm m m' ∧ m' (51, 0, 0) 55 = (m (51, 0, 0) 55 + 1) % 8 ∧ (∀ k, k < 8 → m' (51, 0, 0) (56 + k) = if (k : Int) = m (51, 0, 0) 55 then -1 else m (51, 0, 0) (56 + k)) := by
  obtain ⟨c', m', c1, m1, hv, sc, sm, g55, gs, tc, tm⟩ := r_move h hB t.b.1 t.b.2.1 t.b.2.2.1 t.b.2.2.2
  refine ⟨c', m', c1, m1, hv, ?_, sc, sm, g55, gs⟩
  have e0 := h.1
  unfold tC at tc
  unfold tM at tm
  rcases t with ⟨t1, t2, t3, t4, t5⟩ | ⟨t1, t2, t3, t4, t5, t6⟩
  · rw [if_pos (by omega)] at tc
    rw [if_pos t2] at tm
    exact Or.inl ⟨by omega, by omega, by omega, by omega, by omega⟩
  · rw [if_neg (by omega)] at tc
    rw [if_neg (by omega)] at tm
    by_cases a1 : c (9, L, 0) 5 = 1
    · rw [if_pos (by rw [t6, a1])] at tm
      rw [if_neg (by omega)] at tc
      exact Or.inl ⟨by omega, by omega, by omega, by omega, by omega⟩
    · rw [if_neg (by omega)] at tm
      rw [if_pos (by omega)] at tc
      exact Or.inr ⟨by omega, by omega, by omega, by omega, by omega, by omega⟩
theorem r_giveL {L : Nat} {B v : Int} (hB : B ≤ 1000000000) : ∀ (d i N N' : Nat) (c m : zMem), Rv L B c (m (51, 0, 0)) → Rt L c (m (51, 0, 0)) → psr (m (51, 0, 0)) ≤ d → i + d ≤ 8 → d < N → d < N' → ∃ i' c' m', zlp (fX5_settle_l2 L v) N ((i : Int), c) = some (i', c') ∧ zlp fX12_givesAll_l0 N' m = some m' ∧ Rv L B c' (m' (51, 0, 0)) ∧ Rt L c' (m' (51, 0, 0)) ∧ sRc L c c' ∧ sRm m m' ∧ m' (51, 0, 0) (56 + (m' (51, 0, 0) 55).toNat) = -1 := by
  intro d
  induction d with
  | zero =>
    intro i N N' c m h t hd hi hN hN'
    obtain ⟨n, rfl⟩ : ∃ n, N = n + 1 := ⟨N - 1, by omega⟩
    obtain ⟨n', rfl⟩ : ∃ n, N' = n + 1 := ⟨N' - 1, by omega⟩
    obtain ⟨e, ee⟩ := nat_of h.1.1
    have e7 := h.1.2
    have e8 : e < 8 := by omega
    have hse := h.2.2.1 e e8
    have hne : m (51, 0, 0) (56 + e) = -1 := Classical.byContradiction fun hc => by have := psr_pos e8 hc; omega
    have x1 : ix (56 + (e : Int)) = 56 + e := by rw [ix_of (by omega) (by omega)]; omega
    refine ⟨i, c, m, zlp_out ?_, zlp_out ?_, h, t, sRc.rf L c, sRm.rf m, by rw [ee]; exact hne⟩
    · unfold fX5_settle_l2
      dsimp only
      by_cases ci : 8 ≤ w32 (i : Int)
      · rw [if_pos ci]
      · rw [if_neg ci]
        simp only [h.2.1, ee, ix_nat (show e < 2147483648 by omega), hse.1, hne]
        rw [if_pos (zin_nat e8 (by decide)), if_pos (by decide)]
    · unfold fX12_givesAll_l0
      simp only [ee, x1, hne]
      rw [if_pos (zin_of (by omega) (by omega) (by decide)), if_pos (by decide)]
  | succ d ih =>
    intro i N N' c m h t hd hi hN hN'
    obtain ⟨n, rfl⟩ : ∃ n, N = n + 1 := ⟨N - 1, by omega⟩
    obtain ⟨n', rfl⟩ : ∃ n, N' = n + 1 := ⟨N' - 1, by omega⟩
    obtain ⟨e, ee⟩ := nat_of h.1.1
    have e7 := h.1.2
    have e8 : e < 8 := by omega
    have hse := h.2.2.1 e e8
    have x1 : ix (56 + (e : Int)) = 56 + e := by rw [ix_of (by omega) (by omega)]; omega
    have wl : w32 (m (51, 0, 0) (56 + e)) = m (51, 0, 0) (56 + e) := w32_id (by omega) (by omega)
    by_cases hne : m (51, 0, 0) (56 + e) = -1
    · refine ⟨i, c, m, zlp_out ?_, zlp_out ?_, h, t, sRc.rf L c, sRm.rf m, by rw [ee]; exact hne⟩
      · unfold fX5_settle_l2
        dsimp only
        by_cases ci : 8 ≤ w32 (i : Int)
        · rw [if_pos ci]
        · rw [if_neg ci]
          simp only [h.2.1, ee, ix_nat (show e < 2147483648 by omega), hse.1, hne]
          rw [if_pos (zin_nat e8 (by decide)), if_pos (by decide)]
      · unfold fX12_givesAll_l0
        simp only [ee, x1, hne]
        rw [if_pos (zin_of (by omega) (by omega) (by decide)), if_pos (by decide)]
    · obtain ⟨c', m', c1, m1, hv, ht, sc, sm, g55, gs⟩ := r_moveT h hB t
      have ep := psr_set (g := m (51, 0, 0)) (g' := m' (51, 0, 0)) e8 (fun k hk hne => by rw [gs k hk, if_neg (by omega)])
      rw [gs e e8, if_pos ee.symm, if_pos rfl, if_neg hne] at ep
      obtain ⟨i', c2, m2, k1, k2, k3, k4, k5, k6, k7⟩ := ih (i + 1) n n' c' m' hv ht (by omega) (by omega) (by omega) (by omega)
      refine ⟨i', c2, m2, ?_, ?_, k3, k4, sc.tr k5, sm.tr k6, k7⟩
      · rw [← k1]
        apply zlp_in
        unfold fX5_settle_l2
        dsimp only
        rw [if_neg (by rw [w32_n (by omega)]; omega)]
        simp only [h.2.1, ee, ix_nat (show e < 2147483648 by omega), hse.1, wl]
        rw [if_pos (zin_nat e8 (by decide)), if_neg hne, c1, zb_some]; rfl
      · rw [← k2]
        apply zlp_in
        unfold fX12_givesAll_l0
        simp only [ee, x1, wl]
        rw [if_pos (zin_of (by omega) (by omega) (by decide)), if_neg hne, m1, zb_some]
