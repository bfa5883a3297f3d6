/-! THE RECEIVER: the farthest, settling, time -/
/-- the farthest stored one of the first n from e on -/
def pfr (g : Nat → Int) (e : Nat) : Nat → Int
  | 0 => -1
  | n + 1 => if g (56 + (e + n) % 8) = -1 then pfr g e n else n
theorem pfr_s (g : Nat → Int) (e n : Nat) : pfr g e (n + 1) = if g (56 + (e + n) % 8) = -1 then pfr g e n else n := rfl
theorem pfr_rng (g : Nat → Int) (e : Nat) : ∀ n, -1 ≤ pfr g e n ∧ pfr g e n < n
  | 0 => by unfold pfr; omega
  | n + 1 => by
    have h := pfr_rng g e n
    unfold pfr
    by_cases c : g (56 + (e + n) % 8) = -1
    · rw [if_pos c]; omega
    · rw [if_neg c]; omega
theorem c_far {L : Nat} {c : zMem} {g : Nat → Int} {e : Nat} (he : c (9, L, 0) 3 = e) (e8 : e < 8) (hs : ∀ k, k < 8 → c (39, L, 0) k = g (56 + k) ∧ -1 ≤ g (56 + k) ∧ g (56 + k) ≤ 31) : fX5_farthestStored L c = some (pfr g e 8) := by
  unfold fX5_farthestStored
  have hh := zlp_0 (body := fX5_farthestStored_l4 L c) (S := fun j => (pfr g e j, (j : Int))) (r := (pfr g e 8, 8)) 8 (N := 5000) (by decide) ?_ ?_
  · have h0 : ((-1 : Int), (0 : Int)) = (pfr g e 0, ((0 : Nat) : Int)) := rfl
    rw [h0, hh]; rfl
  · intro j hj
    have zn : ((e : Int) + (j : Int)) % 8 = (((e + j) % 8 : Nat) : Int) := by omega
    have hk := hs ((e + j) % 8) (by omega)
    have wl : w32 (g (56 + (e + j) % 8)) = g (56 + (e + j) % 8) := w32_id (by omega) (by omega)
    unfold fX5_farthestStored_l4 fX5_farthestStored_b4_30
    dsimp only
    rw [if_neg (by rw [w32_n (by omega)]; omega)]
    simp only [he, zn, ix_nat (show (e + j) % 8 < 2147483648 by omega), hk.1, wl]
    rw [if_pos (zin_nat (show (e + j) % 8 < 8 by omega) (by decide))]
    show _ = some (Sum.inl (pfr g e (j + 1), ((j + 1 : Nat) : Int)))
    rw [pfr_s]
    by_cases c0 : g (56 + (e + j) % 8) = -1
    · rw [if_pos c0, if_pos c0]; rfl
    · rw [if_neg c0, if_neg c0]; rfl
  · unfold fX5_farthestStored_l4
    dsimp only
    rw [if_pos (by decide)]; rfl
theorem m_far {m : zMem} {e : Nat} (he : m (51, 0, 0) 55 = e) (e8 : e < 8) (hs : ∀ k, k < 8 → -1 ≤ m (51, 0, 0) (56 + k) ∧ m (51, 0, 0) (56 + k) ≤ 31) (h0 : m (51, 0, 0) (56 + e) = -1) : ∀ (d N : Nat), d < 8 → d < N → pfr (m (51, 0, 0)) e 8 = pfr (m (51, 0, 0)) e (d + 1) → zbr (zlp fX12_givesAll_l41 N ((d : Int), m)) (fun x5 => some x5.2) (fun z => z) = some (if pfr (m (51, 0, 0)) e 8 = -1 then m else zst (zst m (51, 0, 0) 64 (m (51, 0, 0) 2)) (51, 0, 0) 65 (((e : Int) + pfr (m (51, 0, 0)) e 8 + 1) % 8)) := by
  intro d
  induction d with
  | zero =>
    intro N _ hN hp
    obtain ⟨n, rfl⟩ : ∃ n, N = n + 1 := ⟨N - 1, by omega⟩
    have hx : pfr (m (51, 0, 0)) e 8 = -1 := by
      rw [hp, pfr_s, if_pos (by rw [show (e + 0) % 8 = e by omega]; exact h0)]; rfl
    rw [zlp_out (r := .inl (0, m)) (by unfold fX12_givesAll_l41; dsimp only; rw [if_pos (by decide)]; rfl), zbr_inl, if_pos hx]
  | succ d ih =>
    intro N hd hN hp
    obtain ⟨n, rfl⟩ : ∃ n, N = n + 1 := ⟨N - 1, by omega⟩
    have zn : ((e : Int) + ((d + 1 : Nat) : Int)) % 8 = (((e + (d + 1)) % 8 : Nat) : Int) := by omega
    have hk := hs ((e + (d + 1)) % 8) (by omega)
    have wl : w32 (m (51, 0, 0) (56 + (e + (d + 1)) % 8)) = m (51, 0, 0) (56 + (e + (d + 1)) % 8) := w32_id (by omega) (by omega)
    have x1 : ix (56 + (((e + (d + 1)) % 8 : Nat) : Int)) = 56 + (e + (d + 1)) % 8 := by rw [ix_of (by omega) (by omega)]; omega
    rw [pfr_s _ _ (d + 1)] at hp
    by_cases c0 : m (51, 0, 0) (56 + (e + (d + 1)) % 8) = -1
    · rw [if_pos c0] at hp
      rw [← ih n (by omega) (by omega) hp]
      rw [zlp_in (s' := ((d : Int), m))]
      unfold fX12_givesAll_l41
      dsimp only
      rw [if_neg (by rw [w32_n (by omega)]; omega)]
      simp only [he, zn, x1, wl]
      rw [if_pos (zin_of (by omega) (by omega) (by decide)), if_pos c0, show ((d + 1 : Nat) : Int) + -1 = (d : Int) by omega]
    · rw [if_neg c0] at hp
      rw [if_neg (by rw [hp]; omega)]
      rw [zlp_out (r := .inr (zst (zst m (51, 0, 0) 64 (m (51, 0, 0) 2)) (51, 0, 0) 65 (((e : Int) + pfr (m (51, 0, 0)) e 8 + 1) % 8)))]
      · rw [zbr_inr]
      · unfold fX12_givesAll_l41
        dsimp only [zlet]
        rw [if_neg (by rw [w32_n (by omega)]; omega)]
        simp only [zst_ap, Prod.mk.injEq, and_false, false_and, and_true, true_and, and_self, if_true, if_false, Nat.reduceEqDiff, reduceCtorEq, he, zn, x1, wl]
        rw [if_pos (zin_of (by omega) (by omega) (by decide)), if_neg c0, hp]
theorem zlp_no {σ ρ : Type} {body : σ → Option (σ ⊕ ρ)} {s : σ} {n : Nat} (h : body s = none) : zlp body (n + 1) s = none := by
  show (match body s with | none => none | some (.inl s') => zlp body n s' | some (.inr r) => some r) = _
  rw [h]
theorem m_gives {m m' : zMem} {e : Nat} (he : m (51, 0, 0) 55 = e) (e8 : e < 8) (h : zlp fX12_givesAll_l0 5001 m = some m') : fX12_givesAll m = if w32 (m' (51, 0, 0) 64) = -1 then zbr (zlp fX12_givesAll_l41 5000 (7, m')) (fun x5 => some x5.2) (fun z => z) else some m' := by
  have hz : zin (56 + m (51, 0, 0) 55) 3099 := by rw [he]; exact zin_of (by omega) (by omega) (by decide)
  unfold fX12_givesAll
  rw [if_pos hz]
  have hl : fX12_givesAll_l0 m = if w32 (m (51, 0, 0) (ix (56 + (m (51, 0, 0) 55)))) = (-1) then some (.inr m) else zb (fX12_passes m) (fun r8 => some (.inl r8)) := by
    unfold fX12_givesAll_l0; rw [if_pos hz]
  by_cases c0 : w32 (m (51, 0, 0) (ix (56 + (m (51, 0, 0) 55)))) = (-1)
  · rw [if_pos c0]
    rw [if_pos c0] at hl
    cases (zlp_out (n := 5000) hl).symm.trans h; rfl
  · rw [if_neg c0]
    rw [if_neg c0] at hl
    cases hp : fX12_passes m with
    | none =>
      rw [hp] at hl
      have hl' : fX12_givesAll_l0 m = none := hl
      have h2 : zlp fX12_givesAll_l0 (5000 + 1) m = none := zlp_no hl'
      cases h2.symm.trans h
    | some r =>
      rw [hp, zb_some] at hl
      have h2 := (zlp_in (n := 5000) hl).symm.trans h
      rw [zb_some, h2, zb_some]
/-- the expected one isn't stored -/
def Rq (g : Nat → Int) : Prop := g (56 + (g 55).toNat) = -1
theorem Rq.cg {g g' : Nat → Int} (h : Rq g) (h5 : g' 55 = g 55) (h6 : g' (56 + (g 55).toNat) = g (56 + (g 55).toNat)) : Rq g' := by
  unfold Rq at h ⊢; rw [h5, h6]; exact h
theorem r_settle {L : Nat} {B v : Int} {c m : zMem} (h : Rv L B c (m (51, 0, 0))) (hB : B ≤ 1000000000) (t : Rt L c (m (51, 0, 0))) (hv : m (51, 0, 0) 2 = v) (hv2 : 1 ≤ v ∧ v ≤ 60) : ∃ c' m', fX5_settle L v c = some c' ∧ fX12_givesAll m = some m' ∧ Rv L B c' (m' (51, 0, 0)) ∧ Rt L c' (m' (51, 0, 0)) ∧ sRc L c c' ∧ sRm m m' ∧ Rq (m' (51, 0, 0)) := by
  obtain ⟨i', c1, m1, k1, k2, k3, k4, k5, k6, k7⟩ := r_giveL (v := v) hB 8 0 5000 5001 c m h t (psr_rng _).2 (by decide) (by decide) (by decide)
  obtain ⟨e0, ee0⟩ := nat_of h.1.1
  have hg := m_gives ee0 (by have := h.1.2; omega) k2
  obtain ⟨e, ee⟩ := nat_of k3.1.1
  have e7 := k3.1.2
  have e8 : e < 8 := by omega
  rw [ee] at k7
  have k7' : m1 (51, 0, 0) (56 + e) = -1 := k7
  have hq1 : Rq (m1 (51, 0, 0)) := by unfold Rq; rw [ee]; exact k7'
  have hf := c_far (k3.2.1.trans ee) e8 k3.2.2.1
  have hm := m_far ee e8 (fun k hk => (k3.2.2.1 k hk).2) k7' 7 5000 (by decide) (by decide) rfl
  have hr := pfr_rng (m1 (51, 0, 0)) e 8
  have wf : w32 (pfr (m1 (51, 0, 0)) e 8) = pfr (m1 (51, 0, 0)) e 8 := w32_id (by omega) (by omega)
  have hset : fX5_settle L v c = if w32 (c1 (9, L, 0) 4) = 0 then if w32 (pfr (m1 (51, 0, 0)) e 8) = (-1) then some c1 else some (zst (zst c1 (9, L, 0) 4 v) (9, L, 0) 5 (pfr (m1 (51, 0, 0)) e 8 + 1)) else some c1 := by
    unfold fX5_settle
    rw [show ((0 : Int), c) = (((0 : Nat) : Int), c) from rfl, k1, zb_some]
    dsimp only [zlet]
    rw [hf, zb_some]
  have e2 : m1 (51, 0, 0) 2 = v := by rw [k6.2 2 (by decide)]; exact hv
  rw [hset, hg]
  rcases k4 with ⟨t1, t2, t3, t4, t5⟩ | ⟨t1, t2, t3, t4, t5, t6⟩
  · have w4 : w32 (c1 (9, L, 0) 4) = 0 := by rw [t1]; decide
    rw [if_pos w4, wf, if_pos (show w32 (m1 (51, 0, 0) 64) = -1 by rw [t2]; decide), show (7 : Int) = ((7 : Nat) : Int) from rfl, hm]
    by_cases c0 : pfr (m1 (51, 0, 0)) e 8 = -1
    · rw [if_pos c0, if_pos c0]
      exact ⟨c1, m1, rfl, rfl, k3, Or.inl ⟨t1, t2, t3, t4, t5⟩, k5, k6, hq1⟩
    · rw [if_neg c0, if_neg c0]
      refine ⟨_, _, rfl, rfl, ?_, Or.inr ?_, k5.tr fun q h1 h2 h3 => by rw [zst_nq h1, zst_nq h1], k6.tr ⟨fun q hq => by rw [zst_nq hq, zst_nq hq], fun k hk => by rw [zst_nk (by omega), zst_nk (by omega)]⟩, hq1.cg (by rw [zst_nk (by decide), zst_nk (by decide)]) (by rw [zst_nk (by omega), zst_nk (by omega)])⟩
      · obtain ⟨a1, a2, a3, a4, a5, a6, a7, a8, a9, a10, a11⟩ := k3
        have hpst : psr (zst (zst m1 (51, 0, 0) 64 (m1 (51, 0, 0) 2)) (51, 0, 0) 65 (((e : Int) + pfr (m1 (51, 0, 0)) e 8 + 1) % 8) (51, 0, 0)) = psr (m1 (51, 0, 0)) := psr_cong (fun k hk => by rw [zst_nk (by omega), zst_nk (by omega)])
        refine ⟨by rw [zst_nk (by decide), zst_nk (by decide)]; exact a1, by rw [zst_nk (by decide), zst_nk (by decide), zst_nk (by decide), zst_nk (by decide)]; exact a2, fun k hk => by rw [zst_nq (by simp), zst_nq (by simp), zst_nk (by omega), zst_nk (by omega)]; exact a3 k hk, by rw [zst_nk (by decide), zst_nk (by decide), zst_nk (by decide), zst_nk (by decide)]; exact a4, by rw [zst_nk (by decide), zst_nk (by decide)]; exact a5, by rw [hpst, zst_nk (by decide), zst_nk (by decide)]; exact a6, by rw [zst_nk (by decide), zst_nk (by decide), zst_nk (by decide), zst_nk (by decide)]; exact a7, by rw [zst_nk (by decide), zst_nk (by decide), zst_nk (by decide), zst_nk (by decide)]; exact a8, by rw [zst_nk (by decide), zst_nk (by decide), zst_nk (by decide), zst_nk (by decide)]; exact a9, by rw [zst_nk (by decide), zst_nk (by decide), zst_nk (by decide), zst_nk (by decide)]; exact a10, fun j hj hh => ?_⟩
        rw [zst_nq (by simp), zst_nq (by simp), zst_nk (by omega), zst_nk (by omega)]
        rw [zst_nk (by decide), zst_nk (by decide)] at hh
        exact a11 j hj hh
      · have r4 : zst (zst c1 (9, L, 0) 4 v) (9, L, 0) 5 (pfr (m1 (51, 0, 0)) e 8 + 1) (9, L, 0) 4 = v := by rw [zst_nk (by decide), zst_at]
        have r5 : zst (zst c1 (9, L, 0) 4 v) (9, L, 0) 5 (pfr (m1 (51, 0, 0)) e 8 + 1) (9, L, 0) 5 = pfr (m1 (51, 0, 0)) e 8 + 1 := zst_at
        rw [r4, r5, zst_nk (by decide), zst_at, zst_at, zst_nk (by decide), zst_nk (by decide), e2, ee]
        exact ⟨hv2.1, hv2.2, rfl, by omega, by omega, by rw [Int.add_assoc]⟩
  · have w4 : ¬ w32 (c1 (9, L, 0) 4) = 0 := by rw [w32_id (by omega) (by omega)]; omega
    have w6 : ¬ w32 (m1 (51, 0, 0) 64) = -1 := by rw [t3, w32_id (by omega) (by omega)]; omega
    rw [if_neg w4, if_neg w6]
    exact ⟨c1, m1, rfl, rfl, k3, Or.inr ⟨t1, t2, t3, t4, t5, t6⟩, k5, k6, hq1⟩
