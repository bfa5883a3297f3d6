/-! REPORTS: the whole -/
theorem mS.c30 {sl : Nat → Int} {n e : Int} {m M : zMem} {j : Nat} (h : mS sl n e m M j) : mS sl n e (zst m (51, 0, 0) 30 0) (zst M (51, 0, 0) 30 0) j := by
  obtain ⟨a1, a2, a3, a4, a5⟩ := h
  refine ⟨fun q hq => by rw [zst_nq hq, zst_nq hq, a1 q hq], fun k hk => ?_, fun p r h1 h2 h3 h4 h5 => by rw [zst_nk (by omega), zst_nk (by omega)]; exact a3 p r h1 h2 h3 h4 h5, fun p hp => by rw [zst_nk (by omega), zst_nk (by omega), zst_nk (by omega), zst_nk (by omega), zst_nk (by omega), zst_nk (by omega)]; exact a4 p hp, fun p h1 h2 => by rw [zst_nk (by omega), zst_nk (by omega), zst_nk (by omega), zst_nk (by omega), zst_nk (by omega), zst_nk (by omega)]; exact a5 p h1 h2⟩
  by_cases e : k = 30
  · subst e; rw [zst_at, zst_at]
  · rw [zst_nk e, zst_nk e]; exact a2 k hk
def PE (L : Nat) (q : zPl) : Prop := (∃ p, q = (10, L, p)) ∨ q = (8, L, 0) ∨ q = (35, L, 0) ∨ q = (36, L, 0)
def GE (k : Nat) : Prop := (28 ≤ k ∧ k < 55) ∨ k = 71 ∨ (329 ≤ k ∧ k < 1033)
theorem r_learn {L : Nat} {B : Int} {c m : zMem} (h : RK L B c (m (51, 0, 0))) : ∃ c' m', fX7_learn L L c = some c' ∧ fX12_reports m = some m' ∧ RK L B c' (m' (51, 0, 0)) ∧ (∀ q, ¬ PE L q → c' q = c q) ∧ (∀ q, q ≠ (51, 0, 0) → m' q = m q) ∧ ∀ k, ¬ GE k → m' (51, 0, 0) k = m (51, 0, 0) k := by
  obtain ⟨p0, ⟨p1a, p1b⟩, -⟩ := h.1
  obtain ⟨⟨s1, s2, s3⟩, s4, ⟨s5, s6, s7⟩, s8, ⟨s9, s10, s11⟩, ⟨s12, s13, s14⟩, s15, s16, s17⟩ := h.2.1
  obtain ⟨⟨v1, v2⟩, v3, -⟩ := h.2.2.1.1
  obtain ⟨n, en⟩ := nat_of s10
  obtain ⟨b, eb⟩ := nat_of s13
  obtain ⟨e, ee⟩ := nat_of v1
  obtain ⟨pn, epn⟩ := nat_of (show 0 ≤ m (51, 0, 0) 0 by omega)
  have hsl : ∀ p, p < 8 → c (10, L, p) 0 = m (51, 0, 0) (329 + 88 * p) ∧ -1 ≤ m (51, 0, 0) (329 + 88 * p) ∧ m (51, 0, 0) (329 + 88 * p) ≤ 7 := fun p hp => (h.2.2.2.2.1 p hp).1
  have hidle : ∀ p : Nat, p < 8 → (pn : Int) ≤ (p : Int) → m (51, 0, 0) (329 + 88 * p) = -1 := fun p hp hh => (h.2.2.2.2.1 p hp).2.2.2.2.2.2.2 (by rw [epn]; exact hh)
  have wk : w32 (((n : Int) - b) % 8) = ((n : Int) - b) % 8 := w32_emod _ _ (by decide)
  have wk2 : w32 (((e : Int) - b) % 8) = ((e : Int) - b) % 8 := w32_emod _ _ (by decide)
  have c3 : c (9, L, 0) 3 = e := by rw [v3, ee]
  have cn : c (8, L, 0) 7 = n := by rw [s9, en]
  have cb : c (8, L, 0) 8 = b := by rw [s12, eb]
  by_cases hr : ((e : Int) - b) % 8 ≤ ((n : Int) - b) % 8
  · -- no reset
    have i7 : zst (zst c (8, L, 0) 6 0) (8, L, 0) 8 (e : Int) (8, L, 0) 7 = n := by rw [zst_nk (by decide), zst_nk (by decide), cn]
    have i8 : zst (zst c (8, L, 0) 6 0) (8, L, 0) 8 (e : Int) (8, L, 0) 8 = e := zst_at
    obtain ⟨bm, i1, K, k1, k2, k3, k4, k5⟩ := c_slots (L := L) (L2 := L) (c := zst (zst c (8, L, 0) 6 0) (8, L, 0) 8 (e : Int)) (n := n) (e := e) (sl := fun p => m (51, 0, 0) (329 + 88 * p)) i7 i8 (fun p hp => by rw [zst_nq (by simp), zst_nq (by simp)]; exact hsl p hp)
    obtain ⟨M1, l1, l2, l3, l4, l5⟩ := m_base (m := m) eb (by omega) ee (by omega)
    have hkm : ∀ s : Nat, s < 8 → ((((s : Int) - e) % 8 < ((n : Int) - e) % 8 → pky (m (51, 0, 0)) s ∧ M1 (51, 0, 0) (39 + s) = m (51, 0, 0) (39 + s)) ∧ (¬ ((s : Int) - e) % 8 < ((n : Int) - e) % 8 → M1 (51, 0, 0) (39 + s) = -1)) := fun s hs => by
      refine ⟨fun hh => ⟨by unfold pky; rw [en, eb]; omega, by rw [l5 s hs, if_neg (by omega)]⟩, fun hh => ?_⟩
      rw [l5 s hs]
      by_cases c0 : ((s : Int) - b) % 8 < ((e : Int) - b) % 8
      · rw [if_pos c0]
      · rw [if_neg c0]
        exact (s15 s hs).2 (by unfold pky; rw [en, eb]; omega)
    obtain ⟨i2, M2, r1, r2⟩ := m_slots (m := M1) (n := n) (e := e) (pn := pn) (sl := fun p => m (51, 0, 0) (329 + 88 * p)) (by rw [l3 0 (by decide) (by decide), epn]) (by omega) (fun p hp => by rw [l3 _ (by omega) (by omega)]; exact ⟨rfl, (hsl p hp).2⟩) (fun s hs => by
      obtain ⟨f1, f2⟩ := hkm s hs
      by_cases c0 : ((s : Int) - e) % 8 < ((n : Int) - e) % 8
      · obtain ⟨g1, g2⟩ := f1 c0
        have g3 := ((s15 s hs).1 g1).2.1
        rw [g2]
        exact ⟨by omega, by omega, fun e1 => absurd e1 (by omega), fun e1 => absurd c0 e1⟩
      · rw [f2 c0]
        exact ⟨by decide, by decide, fun _ => c0, fun _ => rfl⟩)
    have hMS := r2.c30
    have K8 : ∀ k, k ≠ 6 → k ≠ 8 → K (8, L, 0) k = c (8, L, 0) k := fun k a1 a2 => by rw [k4 _ (by simp), zst_nk a2, zst_nk a1]
    have K86 : K (8, L, 0) 6 = 0 := by rw [k4 _ (by simp), zst_nk (by decide), zst_at]
    have K88 : K (8, L, 0) 8 = e := by rw [k4 _ (by simp), zst_at]
    have Kq : ∀ q, (∀ p, q ≠ (10, L, p)) → q ≠ (8, L, 0) → K q = c q := fun q a1 a2 => by rw [k4 q a1, zst_nq a2, zst_nq a2]
    have hRK : RK L B K (zst M2 (51, 0, 0) 30 0 (51, 0, 0)) := by
      refine RK.rpt (M1 := zst M1 (51, 0, 0) 30 0) (n := n) (e := e) (sl := fun p => m (51, 0, 0) (329 + 88 * p)) h epn (fun p hp => rfl) (by omega) (by omega) ⟨K8 5 (by decide) (by decide), K86, by rw [K8 7 (by decide) (by decide), cn], K88, K8 9 (by decide) (by decide)⟩ Kq (fun p hp => ?_) (fun k hk => by rw [zst_nk (by omega), l3 k (by omega) (by omega)]) (by rw [zst_nk (by decide), l3 28 (by decide) (by decide), en]) (by rw [zst_nk (by decide), l4]) (fun s hs => by rw [zst_nk (by omega)]; exact hkm s hs) (by rw [K8 10 (by decide) (by decide), zst_nk (by decide), l3 71 (by decide) (by decide), s17]) hMS zst_at
      obtain ⟨f1, f2⟩ := k5 p hp
      have hz : ∀ q, q ≠ (8, L, 0) → zst (zst c (8, L, 0) 6 0) (8, L, 0) 8 (e : Int) q = c q := fun q hq => by rw [zst_nq hq, zst_nq hq]
      refine ⟨fun hh => by rw [f1 hh, hz _ (by simp)], fun hh => ?_⟩
      rw [f2 hh]
      funext k
      have := congrFun (hz (10, L, p) (by simp)) k
      simp only [zst_ap] at this ⊢
      simp only [this]
    obtain ⟨t, et⟩ := nat_of (show 0 ≤ ((n : Int) - e) % 8 by omega)
    have z30 : ∀ k, k ≠ 30 → zst M2 (51, 0, 0) 30 0 (51, 0, 0) k = M2 (51, 0, 0) k := fun k hk => zst_nk hk
    have m29 : zst M2 (51, 0, 0) 30 0 (51, 0, 0) 29 = e := by rw [z30 _ (by decide), r2.2.1 29 (by decide), l4]
    obtain ⟨j1, j2, c', m', u1, u2, u3, u4, u5, u6⟩ := r_again (L := L) (L2 := L) (b := bm) (pn := pn) (w4 := (t : Int)) e t (by omega) (by omega) (by omega) rfl t 0 5000 5000 K (zst M2 (51, 0, 0) 30 0) (by omega) hRK rfl m29 (by rw [z30 _ (by decide), r2.2.1 28 (by decide), l3 28 (by decide) (by decide), en]; omega) (by rw [zst_at]; decide) (by rw [z30 _ (by decide), r2.2.1 0 (by decide), l3 0 (by decide) (by decide), epn]) k2 (fun s hs => by
      rw [k3 s hs]
      constructor
      · rintro ⟨p, g1, g2, g3⟩
        have hpp : p < pn := Classical.byContradiction fun hc => by
          have := hidle p g1 (by omega)
          omega
        refine ⟨p, hpp, ?_⟩
        rw [z30 _ (by omega), ((r2.2.2.2.1 p hpp).1 g3).1, l3 _ (by omega) (by omega)]; exact g2
      · rintro ⟨p, g1, g2⟩
        rw [z30 _ (by omega)] at g2
        have cd : ¬ dI (fun p => m (51, 0, 0) (329 + 88 * p)) n e p := fun cd => by
          have := ((r2.2.2.2.1 p g1).2 cd).1
          omega
        refine ⟨p, by omega, ?_, cd⟩
        rw [((r2.2.2.2.1 p g1).1 cd).1, l3 _ (by omega) (by omega)] at g2
        exact g2) (by omega) (by omega)
    refine ⟨c', m', ?_, ?_, u3, fun q hq => ?_, fun q hq => ?_, fun k hk => ?_⟩
    · have h7 : zst c (8, L, 0) 6 0 (8, L, 0) 7 = n := by rw [zst_nk (by decide), cn]
      have h8 : zst c (8, L, 0) 6 0 (8, L, 0) 8 = b := by rw [zst_nk (by decide), cb]
      have g7 : K (8, L, 0) 7 = n := by rw [K8 7 (by decide) (by decide), cn]
      unfold fX7_learn fX7_learn_b41 fX7_howManyKept
      simp only [zlet_eq, zb_some, c3, h7, h8, wk]
      rw [if_pos hr, k1, zb_some]
      dsimp only
      rw [g7, K88, et, show ((0 : Int), K) = (((0 : Nat) : Int), K) from rfl, u1, zb_some]
    · unfold fX12_reports fX12_past
      simp only [zb_some, eb, ee, en, wk, wk2]
      rw [if_pos hr, l1, zb_some, r1, zb_some]
      simp only [zlet_eq]
      have e0 : ((e : Int) + ((0 : Nat) : Int)) % 8 = (e : Int) := by omega
      rw [e0] at u2
      rw [m29, u2, zb_some]
    · have hq8 : q ≠ (8, L, 0) := fun e => hq (Or.inr (Or.inl e))
      rw [u4 q (fun hh => by
        rcases hh with hh | hh | hh
        · exact hq8 hh
        · exact hq (Or.inr (Or.inr (Or.inl hh)))
        · exact hq (Or.inr (Or.inr (Or.inr hh)))), Kq q (fun p e => hq (Or.inl ⟨p, e⟩)) hq8]
    · rw [u5 q hq, zst_nq hq, r2.1 q hq, l2 q hq]
    · rw [u6 k (by unfold GE at hk; unfold GG; omega), z30 _ (by unfold GE at hk; omega), r2.2.1 k (by unfold GE at hk; omega), l3 k (by unfold GE at hk; omega) (by unfold GE at hk; omega)]
  · -- a reset
    have i7 : zst (zst (zst (zst c (8, L, 0) 6 0) (8, L, 0) 10 (c (8, L, 0) 10 + 1)) (8, L, 0) 7 (e : Int)) (8, L, 0) 8 (e : Int) (8, L, 0) 7 = e := by rw [zst_nk (by decide), zst_at]
    have i8 : zst (zst (zst (zst c (8, L, 0) 6 0) (8, L, 0) 10 (c (8, L, 0) 10 + 1)) (8, L, 0) 7 (e : Int)) (8, L, 0) 8 (e : Int) (8, L, 0) 8 = e := zst_at
    have hz : ∀ q, q ≠ (8, L, 0) → zst (zst (zst (zst c (8, L, 0) 6 0) (8, L, 0) 10 (c (8, L, 0) 10 + 1)) (8, L, 0) 7 (e : Int)) (8, L, 0) 8 (e : Int) q = c q := fun q hq => by rw [zst_nq hq, zst_nq hq, zst_nq hq, zst_nq hq]
    obtain ⟨bm, i1, K, k1, k2, k3, k4, k5⟩ := c_slots (L := L) (L2 := L) (c := zst (zst (zst (zst c (8, L, 0) 6 0) (8, L, 0) 10 (c (8, L, 0) 10 + 1)) (8, L, 0) 7 (e : Int)) (8, L, 0) 8 (e : Int)) (n := e) (e := e) (sl := fun p => m (51, 0, 0) (329 + 88 * p)) i7 i8 (fun p hp => by rw [hz _ (by simp)]; exact hsl p hp)
    have hm4 : ∀ k, k ≠ 28 → k ≠ 29 → k ≠ 30 → k ≠ 71 → zst (zst (zst (zst m (51, 0, 0) 29 (e : Int)) (51, 0, 0) 28 (e : Int)) (51, 0, 0) 30 0) (51, 0, 0) 71 (m (51, 0, 0) 71 + 1) (51, 0, 0) k = m (51, 0, 0) k := fun k a1 a2 a3 a4 => by rw [zst_nk a4, zst_nk a3, zst_nk a1, zst_nk a2]
    obtain ⟨i2, M1, l1, l2, l3, l5⟩ := m_none (m := zst (zst (zst (zst m (51, 0, 0) 29 (e : Int)) (51, 0, 0) 28 (e : Int)) (51, 0, 0) 30 0) (51, 0, 0) 71 (m (51, 0, 0) 71 + 1))
    have hM1 : ∀ k, k < 28 ∨ 47 ≤ k ∧ k ≠ 71 → M1 (51, 0, 0) k = m (51, 0, 0) k := fun k hk => by rw [l3 k (by omega), hm4 k (by omega) (by omega) (by omega) (by omega)]
    obtain ⟨i3, M2, r1, r2⟩ := m_slotsR (m := M1) (n := e) (e := e) (pn := pn) (sl := fun p => m (51, 0, 0) (329 + 88 * p)) (by rw [hM1 0 (by decide), epn]) (by omega) (fun p hp => by
      by_cases c0 : m (51, 0, 0) (329 + 88 * p) = -1
      · obtain ⟨g1, g2⟩ := (h.2.2.2.2.1 p hp).2.2.2.2.2.1 c0
        exact Or.inr ⟨by rw [hM1 _ (by omega), c0], by rw [hM1 _ (by omega), g1], by rw [hM1 _ (by omega), g2]⟩
      · exact Or.inl ⟨c0, by omega⟩)
    have K8 : ∀ k, k ≠ 6 → k ≠ 8 → k ≠ 7 → k ≠ 10 → K (8, L, 0) k = c (8, L, 0) k := fun k a1 a2 a3 a4 => by rw [k4 _ (by simp), zst_nk a2, zst_nk a3, zst_nk a4, zst_nk a1]
    have K86 : K (8, L, 0) 6 = 0 := by rw [k4 _ (by simp), zst_nk (by decide), zst_nk (by decide), zst_nk (by decide), zst_at]
    have K87 : K (8, L, 0) 7 = e := by rw [k4 _ (by simp), zst_nk (by decide), zst_at]
    have K88 : K (8, L, 0) 8 = e := by rw [k4 _ (by simp), zst_at]
    have K810 : K (8, L, 0) 10 = c (8, L, 0) 10 + 1 := by rw [k4 _ (by simp), zst_nk (by decide), zst_nk (by decide), zst_at]
    have Kq : ∀ q, (∀ p, q ≠ (10, L, p)) → q ≠ (8, L, 0) → K q = c q := fun q a1 a2 => by rw [k4 q a1, hz q a2]
    have hRK : RK L B K (M2 (51, 0, 0)) := by
      refine RK.rpt (M1 := M1) (n := e) (e := e) (sl := fun p => m (51, 0, 0) (329 + 88 * p)) h epn (fun p hp => rfl) (by omega) (by omega) ⟨K8 5 (by decide) (by decide) (by decide) (by decide), K86, K87, K88, K8 9 (by decide) (by decide) (by decide) (by decide)⟩ Kq (fun p hp => ?_) hM1 (by rw [l3 _ (by decide), zst_nk (by decide), zst_nk (by decide), zst_at]) (by rw [l3 _ (by decide), zst_nk (by decide), zst_nk (by decide), zst_nk (by decide), zst_at]) (fun s hs => ⟨fun hh => absurd hh (by omega), fun _ => l5 s hs⟩) (by rw [K810, l3 _ (by decide), zst_at, s17]) r2 (by rw [r2.2.1 30 (by decide), l3 _ (by decide), zst_nk (by decide), zst_at])
      obtain ⟨f1, f2⟩ := k5 p hp
      refine ⟨fun hh => by rw [f1 hh, hz _ (by simp)], fun hh => ?_⟩
      rw [f2 hh]
      funext k
      have := congrFun (hz (10, L, p) (by simp)) k
      simp only [zst_ap] at this ⊢
      simp only [this]
    refine ⟨K, M2, ?_, ?_, hRK, fun q hq => ?_, fun q hq => ?_, fun k hk => ?_⟩
    · have h7 : zst c (8, L, 0) 6 0 (8, L, 0) 7 = n := by rw [zst_nk (by decide), cn]
      have h8 : zst c (8, L, 0) 6 0 (8, L, 0) 8 = b := by rw [zst_nk (by decide), cb]
      have h10 : zst c (8, L, 0) 6 0 (8, L, 0) 10 = c (8, L, 0) 10 := by rw [zst_nk (by decide)]
      unfold fX7_learn fX7_learn_b41 fX7_howManyKept
      simp only [zlet_eq, zb_some, c3, h7, h8, h10, wk]
      rw [if_neg hr, k1, zb_some]
      dsimp only
      rw [K87, K88, zlp_out (n := 4999) (r := (0, K)), zb_some]
      unfold fX7_learn_l127
      dsimp only
      rw [if_pos (by rw [show ((e : Int) - e) % 8 = 0 by omega]; exact Int.le_refl _)]
    · have q55 : zst m (51, 0, 0) 29 (e : Int) (51, 0, 0) 55 = e := by rw [zst_nk (by decide), ee]
      have q71 : zst (zst (zst m (51, 0, 0) 29 (e : Int)) (51, 0, 0) 28 (e : Int)) (51, 0, 0) 30 0 (51, 0, 0) 71 = m (51, 0, 0) 71 := by rw [zst_nk (by decide), zst_nk (by decide), zst_nk (by decide)]
      unfold fX12_reports fX12_past fX12_resets
      simp only [zlet_eq, zb_some, eb, ee, en, wk, wk2, q55, q71]
      rw [if_neg hr, l1, zb_some, r1, zb_some, zb_some]
    · exact Kq q (fun p e => hq (Or.inl ⟨p, e⟩)) (fun e => hq (Or.inr (Or.inl e)))
    · rw [r2.1 q hq, l2 q hq, zst_nq hq, zst_nq hq, zst_nq hq, zst_nq hq]
    · rw [r2.2.1 k (by unfold GE at hk; omega), hM1 k (by unfold GE at hk; omega)]
