/-! THE SENDER: filling, both -/
def PF (L p : Nat) (q : zPl) : Prop := q = (10, L, p) ∨ q = (37, L, p) ∨ q = (8, L, 0) ∨ q = (33, L, 0) ∨ q = (34, L, 0) ∨ q = (35, L, 0) ∨ q = (36, L, 0)
def GF (o k : Nat) : Prop := (7 ≤ k ∧ k < 55) ∨ (o ≤ k ∧ k < o + 6) ∨ (o + 49 ≤ k ∧ k < o + 88)
theorem r_fill {L p o : Nat} {B len : Int} {c m : zMem} (hp : p < 8) (ho : o = 329 + 88 * p) (h : RK L B c (m (51, 0, 0))) (hpn : (p : Int) < m (51, 0, 0) 0) (hid : m (51, 0, 0) o = -1) (hab : m (51, 0, 0) 30 ≤ 0 → 0 < m (51, 0, 0) 7 ∧ (m (51, 0, 0) 28 - m (51, 0, 0) 29) % 8 < m (51, 0, 0) 1) : ∃ C M, fX7_fill L L p c = some C ∧ fX12_beginsSend (p : Int) len m = fX12_beginsSend_b121 (p : Int) len (o : Int) M ∧ RK L B C (M (51, 0, 0)) ∧ ¬ M (51, 0, 0) o = -1 ∧ M (51, 0, 0) (o + 4) = 0 ∧ (∀ q, ¬ PF L p q → C q = c q) ∧ (∀ q, q ≠ (51, 0, 0) → M q = m q) ∧ ∀ k, ¬ GF o k → M (51, 0, 0) k = m (51, 0, 0) k := by
  obtain ⟨h1, h2, h3, h4, h5, h6⟩ := h
  have hl := h5 p hp
  rw [← ho] at hl
  obtain ⟨b1, b2, b3, b4, b5, b6, b7, b8⟩ := hl
  obtain ⟨p0, ⟨p1a, p1b⟩, ⟨p2a, p2b⟩, ⟨p3a, p3b⟩, ⟨p4a, p4b⟩, ⟨p5a, p5b⟩, ⟨p6a, p6b⟩, p7a, p7b⟩ := h1
  obtain ⟨⟨s1, s2, s3⟩, s4, ⟨s5, s6, s7⟩, s8, ⟨s9, s10, s11⟩, ⟨s12, s13, s14⟩, s15, s16, s17⟩ := h2
  obtain ⟨n, en⟩ := nat_of s10
  obtain ⟨b, eb⟩ := nat_of s13
  by_cases c30 : m (51, 0, 0) 30 ≤ 0
  · have e30 : m (51, 0, 0) 30 = 0 := by omega
    obtain ⟨g7, gd⟩ := hab c30
    obtain ⟨k, ek⟩ := nat_of (show 0 ≤ m (51, 0, 0) 7 - 1 by omega)
    obtain ⟨C, k1, k2, k3, k4, k5, k6, k7, k8, k9, k10, k11, k12, k13⟩ := c_fillNew (L := L) (p := p) (n := n) (k := k) (c := c) (by rw [s5, e30]) (by rw [s9, en]) (by omega) (by rw [s1]; omega) (by omega)
    obtain ⟨M, l1, l2, l3, l4, l5, l6, l7, l8, l9, l10, l11, l12, l13⟩ := m_beginNew (p := p) (o := o) (n := n) (k := k) (len := len) (m := m) ho hp hid e30 en (by omega) (by omega) (by omega) b2.2
    have m0 : ∀ j, (j < 7 ∨ 29 ≤ j ∧ j < 39 ∨ 55 ≤ j ∧ j < 329) → M (51, 0, 0) j = m (51, 0, 0) j := fun j hj => l13 j (by omega) (by omega) (by omega)
    have e28 := l8
    have e29 := m0 29 (by decide)
    have cq : ∀ r p', r ≠ 10 → r ≠ 37 → r ≠ 8 → r ≠ 33 → r ≠ 34 → r ≠ 35 → C (r, L, p') = c (r, L, p') := fun r p' a1 a2 a3 a4 a5 a6 => k2 _ (by simp [a1]) (by simp [a2]) (by simp [a3]) (by simp [a4]) (by simp [a5]) (by simp [a6])
    have kk : ∀ s : Int, 0 ≤ s → s < 8 → (pky (M (51, 0, 0)) s ↔ pky (m (51, 0, 0)) s ∨ s = n) := fun s a1 a2 => by
      unfold pky
      rw [e28, e29, en]
      rw [en] at gd
      constructor
      · intro hh
        by_cases e : s = n
        · exact Or.inr e
        · exact Or.inl (by omega)
      · rintro (hh | hh)
        · omega
        · omega
    have hn1 : ¬ pky (m (51, 0, 0)) n := by unfold pky; rw [en]; omega
    have z0 := s4 0 (by omega)
    refine ⟨C, M, k1, l1, ⟨⟨fun k hk => by rw [cq 7 0 (by decide) (by decide) (by decide) (by decide) (by decide) (by decide), m0 k (by omega)]; exact p0 k hk, ?_⟩, ?_, h3.cg (fun k _ _ => by rw [cq 9 0 (by decide) (by decide) (by decide) (by decide) (by decide) (by decide)]) (cq 39 0 (by decide) (by decide) (by decide) (by decide) (by decide) (by decide)) (cq 40 0 (by decide) (by decide) (by decide) (by decide) (by decide) (by decide)) (fun k a1 a2 _ _ _ _ => m0 k (by omega)), h4.cg (by rw [cq 9 0 (by decide) (by decide) (by decide) (by decide) (by decide) (by decide)]) (by rw [cq 9 0 (by decide) (by decide) (by decide) (by decide) (by decide) (by decide)]) (m0 _ (by decide)) (m0 _ (by decide)) (m0 _ (by decide)), fun p' hp' => ?_, fun p' hp' => (h6 p' hp').cg (cq 11 p' (by decide) (by decide) (by decide) (by decide) (by decide) (by decide)) (cq 41 p' (by decide) (by decide) (by decide) (by decide) (by decide) (by decide)) (fun k a1 a2 => l13 k (by omega) (by omega) (by omega))⟩, by rw [l3]; omega, by rw [l13 _ (by omega) (by omega) (by omega)]; exact (b6 hid).2, fun q hq => ?_, l2, fun k hk => l13 k (by unfold GF at hk; omega) (by unfold GF at hk; omega) (by unfold GF at hk; omega)⟩
    · rw [m0 0 (by decide), m0 1 (by decide), m0 2 (by decide), m0 3 (by decide), m0 4 (by decide), m0 5 (by decide), m0 6 (by decide)]
      exact ⟨⟨p1a, p1b⟩, ⟨p2a, p2b⟩, ⟨p3a, p3b⟩, ⟨p4a, p4b⟩, ⟨p5a, p5b⟩, ⟨p6a, p6b⟩, p7a, p7b⟩
    · refine ⟨by rw [k11, l9]; omega, fun i hi => ?_, by rw [k13 6 (by decide) (by decide), m0 30 (by decide)]; exact ⟨s5, s6, s7⟩, fun i hi => ?_, by rw [k12, l8]; omega, by rw [k13 8 (by decide) (by decide), m0 29 (by decide)]; exact ⟨s12, s13, s14⟩, fun s hs => ?_, by rw [k13 9 (by decide) (by decide), m0 70 (by decide)]; exact s16, by rw [k13 10 (by decide) (by decide), m0 71 (by decide)]; exact s17⟩
      · rw [l9] at hi
        rw [k10 i (by omega), l12 i (by omega)]
        exact s4 (i + 1) (by omega)
      · rw [m0 30 (by decide), e30] at hi; omega
      · rw [kk s (by omega) (by omega), k8, k9, l10 s hs, l11 s hs]
        by_cases e : s = n
        · rw [if_pos e, if_pos e, if_pos e, if_pos e]
          exact ⟨fun _ => ⟨z0.1, z0.2, rfl⟩, fun hh => absurd (Or.inr (by omega)) hh⟩
        · rw [if_neg e, if_neg e, if_neg e, if_neg e]
          refine ⟨fun hh => (s15 s hs).1 (hh.resolve_right (by omega)), fun hh => (s15 s hs).2 (fun hc => hh (Or.inl hc))⟩
    · by_cases ep : p' = p
      · subst ep
        rw [← ho]
        refine ⟨by rw [k3, l3]; omega, by rw [k4, l5, b2.1]; omega, by rw [k5, l6]; decide, by rw [k6 3 (by decide), l13 _ (by omega) (by omega) (by omega)]; exact b4, by rw [k6 4 (by decide), l13 _ (by omega) (by omega) (by omega)]; exact b5, fun e => by rw [l3] at e; omega, fun _ => ?_, by rw [m0 0 (by decide)]; intro e; omega⟩
        rw [l3, kk n (by omega) (by omega), l4, l6, m0 3 (by decide), show ((n : Int)).toNat = n from rfl, l10 n (by omega), if_pos rfl]
        refine ⟨Or.inr rfl, rfl, by omega, fun _ => by omega, fun k hk => ?_⟩
        rw [k7 k hk, l7 k hk]; decide
      · have q10 : C (10, L, p') = c (10, L, p') := k2 _ (by simp [ep]) (by simp) (by simp) (by simp) (by simp) (by simp)
        have q37 : C (37, L, p') = c (37, L, p') := k2 _ (by simp) (by simp [ep]) (by simp) (by simp) (by simp) (by simp)
        have hl' := h5 p' hp'
        refine hl'.cg2 q10 q37 (m0 0 (by decide)) (m0 3 (by decide)) (fun e1 e2 => ?_) (fun k a1 a2 => l13 k (by omega) (by omega) (by omega))
        have r0 := hl'.1.2
        have hne : ¬ m (51, 0, 0) (329 + 88 * p') = n := fun e => hn1 (by rw [e] at e2; exact e2)
        refine ⟨(kk _ (by omega) (by omega)).mpr (Or.inl e2), ?_⟩
        rw [l10 _ (by omega), if_neg (by omega)]
    · exact k2 q (fun e => hq (Or.inl e)) (fun e => hq (Or.inr (Or.inl e))) (fun e => hq (Or.inr (Or.inr (Or.inl e)))) (fun e => hq (Or.inr (Or.inr (Or.inr (Or.inl e))))) (fun e => hq (Or.inr (Or.inr (Or.inr (Or.inr (Or.inl e)))))) (fun e => hq (Or.inr (Or.inr (Or.inr (Or.inr (Or.inr (Or.inl e)))))))
  · obtain ⟨a, ea⟩ := nat_of (show 0 ≤ m (51, 0, 0) 30 - 1 by omega)
    have z0 := s8 0 (by omega)
    obtain ⟨x, ex⟩ := nat_of z0.2.1.1
    have ex : m (51, 0, 0) 31 = x := ex
    have zk : pky (m (51, 0, 0)) x := by rw [← ex]; exact z0.2.2
    have x8 : x < 8 := by have : m (51, 0, 0) 31 ≤ 7 := z0.2.1.2; omega
    have z01 : c (36, L, 0) 0 = x := by rw [← ex]; exact z0.1
    obtain ⟨C, k1, k2, k3, k4, k5, k6, k7, k8, k9, k10⟩ := c_fillAgain (L := L) (p := p) (a := a) (c := c) (by rw [s5]; omega) (by omega)
    obtain ⟨M, l1, l2, l3, l4, l5, l6, l7, l8, l9, l10⟩ := m_beginAgain (p := p) (o := o) (n := x) (a := a) (len := len) (m := m) ho hp hid (by omega) (by omega) ex x8 b2.2
    have m0 : ∀ j, (j < 30 ∨ 39 ≤ j ∧ j < 329) → M (51, 0, 0) j = m (51, 0, 0) j := fun j hj => l10 j (by omega) (by omega) (by omega)
    have cq : ∀ r p', r ≠ 10 → r ≠ 37 → r ≠ 8 → r ≠ 36 → C (r, L, p') = c (r, L, p') := fun r p' a1 a2 a3 a4 => k2 _ (by simp [a1]) (by simp [a2]) (by simp [a3]) (by simp [a4])
    have kk : ∀ s : Int, pky (M (51, 0, 0)) s ↔ pky (m (51, 0, 0)) s := pky_cg (m0 28 (by decide)) (m0 29 (by decide))
    refine ⟨C, M, k1, l1, ⟨⟨fun k hk => by rw [cq 7 0 (by decide) (by decide) (by decide) (by decide), m0 k (by omega)]; exact p0 k hk, ?_⟩, ?_, h3.cg (fun k _ _ => by rw [cq 9 0 (by decide) (by decide) (by decide) (by decide)]) (cq 39 0 (by decide) (by decide) (by decide) (by decide)) (cq 40 0 (by decide) (by decide) (by decide) (by decide)) (fun k a1 a2 _ _ _ _ => m0 k (by omega)), h4.cg (by rw [cq 9 0 (by decide) (by decide) (by decide) (by decide)]) (by rw [cq 9 0 (by decide) (by decide) (by decide) (by decide)]) (m0 _ (by decide)) (m0 _ (by decide)) (m0 _ (by decide)), fun p' hp' => ?_, fun p' hp' => (h6 p' hp').cg (cq 11 p' (by decide) (by decide) (by decide) (by decide)) (cq 41 p' (by decide) (by decide) (by decide) (by decide)) (fun k a1 a2 => l10 k (by omega) (by omega) (by omega))⟩, by rw [l3]; omega, by rw [l10 _ (by omega) (by omega) (by omega)]; exact (b6 hid).2, fun q hq => ?_, l2, fun k hk => l10 k (by unfold GF at hk; omega) (by unfold GF at hk; omega) (by unfold GF at hk; omega)⟩
    · rw [m0 0 (by decide), m0 1 (by decide), m0 2 (by decide), m0 3 (by decide), m0 4 (by decide), m0 5 (by decide), m0 6 (by decide)]
      exact ⟨⟨p1a, p1b⟩, ⟨p2a, p2b⟩, ⟨p3a, p3b⟩, ⟨p4a, p4b⟩, ⟨p5a, p5b⟩, ⟨p6a, p6b⟩, p7a, p7b⟩
    · refine ⟨by rw [k10 5 (by decide), m0 7 (by decide)]; exact ⟨s1, s2, s3⟩, fun i hi => ?_, by rw [k9, l8]; omega, fun i hi => ?_, by rw [k10 7 (by decide), m0 28 (by decide)]; exact ⟨s9, s10, s11⟩, by rw [k10 8 (by decide), m0 29 (by decide)]; exact ⟨s12, s13, s14⟩, fun s hs => ?_, by rw [k10 9 (by decide), m0 70 (by decide)]; exact s16, by rw [k10 10 (by decide), m0 71 (by decide)]; exact s17⟩
      · rw [m0 7 (by decide)] at hi
        rw [cq 33 0 (by decide) (by decide) (by decide) (by decide), m0 (8 + i) (by omega)]
        exact s4 i hi
      · rw [l8] at hi
        rw [k8 i (by omega), l9 i (by omega), kk]
        exact s8 (i + 1) (by omega)
      · rw [kk, cq 34 0 (by decide) (by decide) (by decide) (by decide), cq 35 0 (by decide) (by decide) (by decide) (by decide), m0 (39 + s) (by omega), m0 (47 + s) (by omega)]
        exact s15 s hs
    · by_cases ep : p' = p
      · subst ep
        rw [← ho]
        refine ⟨by rw [k3, l3, z01]; omega, by rw [k4, l5, b2.1]; omega, by rw [k5, l6]; decide, by rw [k6 3 (by decide), l10 _ (by omega) (by omega) (by omega)]; exact b4, by rw [k6 4 (by decide), l10 _ (by omega) (by omega) (by omega)]; exact b5, fun e => by rw [l3] at e; omega, fun _ => ?_, by rw [m0 0 (by decide)]; intro e; omega⟩
        rw [l3, kk, l4, l6, m0 3 (by decide), show ((x : Int)).toNat = x from rfl, m0 (39 + x) (by omega)]
        refine ⟨zk, rfl, by omega, fun _ => by omega, fun k hk => ?_⟩
        rw [k7 k hk, l7 k hk]; decide
      · have q10 : C (10, L, p') = c (10, L, p') := k2 _ (by simp [ep]) (by simp) (by simp) (by simp)
        have q37 : C (37, L, p') = c (37, L, p') := k2 _ (by simp) (by simp [ep]) (by simp) (by simp)
        have hl' := h5 p' hp'
        have r0 := hl'.1.2
        exact hl'.cg2 q10 q37 (m0 0 (by decide)) (m0 3 (by decide)) (fun e1 e2 => ⟨(kk _).mpr e2, m0 _ (by omega)⟩) (fun k a1 a2 => l10 k (by omega) (by omega) (by omega))
    · exact k2 q (fun e => hq (Or.inl e)) (fun e => hq (Or.inr (Or.inl e))) (fun e => hq (Or.inr (Or.inr (Or.inl e)))) (fun e => hq (Or.inr (Or.inr (Or.inr (Or.inr (Or.inr (Or.inr e)))))))
