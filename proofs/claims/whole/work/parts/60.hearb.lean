/-! HEARING: the whole of it -/
theorem Rv.rep {L : Nat} {B : Int} {c : zMem} {m : zMem} (h : Rv L B c (m (51, 0, 0))) : Rv L B (zst c (9, L, 0) 10 (c (9, L, 0) 10 + 1)) (zst m (51, 0, 0) 72 (m (51, 0, 0) 72 + 1) (51, 0, 0)) := by
  obtain ⟨a1, a2, a3, a4, a5, a6, a7, a8, a9, a10, a11⟩ := h
  have ep := psr_cong (g := m (51, 0, 0)) (g' := zst m (51, 0, 0) 72 (m (51, 0, 0) 72 + 1) (51, 0, 0)) (fun k hk => zst_nk (by omega))
  refine ⟨by rw [zst_nk (by omega)]; exact a1, by rw [zst_nk (by omega), zst_nk (by omega)]; exact a2, fun k hk => by rw [zst_nq (by simp), zst_nk (by omega)]; exact a3 k hk, by rw [zst_nk (by omega), zst_nk (by omega)]; exact a4, by rw [zst_nk (by omega)]; exact a5, by rw [ep, zst_nk (by omega)]; exact a6, by rw [zst_nk (by omega), zst_nk (by omega)]; exact a7, by rw [zst_nk (by omega), zst_nk (by omega)]; exact a8, by rw [zst_nk (by omega), zst_nk (by omega)]; exact a9, by rw [zst_at, zst_at, a10], fun j hj hh => ?_⟩
  rw [zst_nk (by omega)] at hh
  rw [zst_nq (by simp), zst_nk (by omega)]
  exact a11 j hj hh
theorem Rw.rep {L : Nat} {B : Int} {c : zMem} {m : zMem} (h : Rw L B c (m (51, 0, 0))) : Rw L B (zst c (9, L, 0) 10 (c (9, L, 0) 10 + 1)) (zst m (51, 0, 0) 72 (m (51, 0, 0) 72 + 1) (51, 0, 0)) := by
  have e := h.1.1
  exact ⟨h.1.rep, h.2.cg (zst_nk (by omega)) (zst_nk (by omega))⟩
theorem r_hearB {L p o len : Nat} {B tg : Int} {c m : zMem} {sq v : Nat → Int} (hp : p < 8) (ho : o = 329 + 88 * p) (h : RK L B c (m (51, 0, 0))) (hB : B + 1 ≤ 1000000000) (hlen : len ≤ 60) (hrow : ∀ i, i < len → c (20, 0, 0) i = sq i ∧ 0 ≤ sq i ∧ sq i ≤ 38) (hrowM : ∀ i, i < len → m (56, 0, 0) i = sq i) (hv : ∀ i, i < len → c (28, 0, 0) i = v i ∧ -1000 ≤ v i ∧ v i ≤ 1000) (hvM : ∀ i, i < len → m (63, 0, 0) i = v i) : ∃ r c' m', fX0_hear_b30 L (p : Int) tg (len : Int) p c = some (r, c') ∧ fX12_hears_b95 (p : Int) tg (len : Int) (o : Int) m = some m' ∧ RK L (B + 1) c' (m' (51, 0, 0)) ∧ sK (PH L p) c c' ∧ sJ (GH o) m m' ∧ r = m' (51, 0, 0) (o + 8) := by
  have hr := h.2.2.2.2.2 p hp
  rw [← ho] at hr
  obtain ⟨⟨b1, b2, b3⟩, b4, ⟨b5, b6, b7⟩, b8, b9⟩ := hr
  obtain ⟨p0, ⟨p1a, p1b⟩, ⟨p2a, p2b⟩, ⟨p3a, p3b⟩, ⟨p4a, p4b⟩, ⟨p5a, p5b⟩, ⟨p6a, p6b⟩, p7a, p7b⟩ := h.1
  have x7 : ix ((o : Int) + 7) = o + 7 := io o 7 (by omega)
  have z7 : zin ((o : Int) + 7) 3099 := zo o 7 (by omega)
  have x8 : ix ((o : Int) + 8) = o + 8 := io o 8 (by omega)
  have z8 : zin ((o : Int) + 8) 3099 := zo o 8 (by omega)
  have wh : w32 (m (51, 0, 0) (o + 8)) = m (51, 0, 0) (o + 8) := w32_id (by omega) (by omega)
  unfold fX0_hear_b30 fX12_hears_b95
  simp only [zlet_eq, b5, x7, x8, wh]
  rw [if_pos z8]
  by_cases c0 : m (51, 0, 0) (o + 8) = 0
  · rw [if_pos c0, if_neg (show ¬ m (51, 0, 0) (o + 8) = 1 by omega), if_pos z7]
    obtain ⟨i1, C1, k1, k2, k3⟩ := c_addL (L := L) (p := p) (sq := sq) (v := v) (c := zst c (11, L, p) 1 (c (11, L, p) 1 + 1)) hlen (fun i hi => by rw [zst_nq (by simp)]; exact hrow i hi) (fun i hi => by rw [zst_nq (by simp)]; exact hv i hi) (l := m (51, 0, 0) 5) (by rw [zst_nq (by simp)]; exact p0 5 (by decide)) (by omega) (fun k hk => by rw [zst_nq (by simp), (b9 k hk).1]; exact (b9 k hk).2) (p : Int) tg
    obtain ⟨i2, M1, l1, l2, l3, l4⟩ := m_addL (p := p) (o := o) (sq := sq) (v := v) (f := c (41, L, p)) (m := zst m (51, 0, 0) (o + 7) (m (51, 0, 0) (o + 7) + 1)) (by omega) hlen (fun i hi => by rw [zst_nq (by simp)]; exact ⟨hrowM i hi, (hrow i hi).2⟩) (fun i hi => by rw [zst_nq (by simp)]; exact ⟨hvM i hi, (hv i hi).2⟩) (l := m (51, 0, 0) 5) (by rw [zst_nk (by omega)]) (by omega) (fun k hk => by rw [(b9 k hk).1]; exact (b9 k hk).2) (fun k hk => by rw [zst_nk (by omega), (b9 k hk).1]) (p : Int) tg
    have hF : pbd (pad (c (41, L, p)) sq v (m (51, 0, 0) 5) len) := pad_rng (by omega) (fun k hk => by rw [(b9 k hk).1]; exact (b9 k hk).2) len
    have k3' : ∀ k, C1 (41, L, p) k = pad (c (41, L, p)) sq v (m (51, 0, 0) 5) len k := fun k => by
      rw [k3, zst_nq (by simp)]
    obtain ⟨r, C2, e1, e2, e3⟩ := s_bestWord hF (q := (41, L, p)) (by intro e; cases e) (I := C1) (fun k _ => k3' k)
    obtain ⟨M2, f1, f2, f3⟩ := s_laysSoft (m := M1) hp
    obtain ⟨r', M3, g1, g2, g3⟩ := s_bestNow hF (I := M2) (fun k hk => by rw [f3 k hk, ← ho]; exact l4 k hk)
    have er := pbest_one g2 e2
    subst er
    obtain ⟨w, rfl, w1, -⟩ := g2
    rw [k1, zb_some]
    dsimp only
    rw [e1, zb_some]
    dsimp only
    rw [l1, zb_some, f1, zb_some, g1, zb_some]
    dsimp only
    rw [s_isWhole w1, zb_some, s_isWholeM w1, zb_some]
    -- what is where
    have q1 : ∀ q, kab q.1 = true → q ≠ (11, L, p) → q ≠ (41, L, p) → C2 q = c q := fun q a1 a2 a3 => by
      rw [e3 q (ka_ne a1 rfl) (ka_ne a1 rfl) (ka_ne a1 rfl) (ka_ne a1 rfl) (ka_ne a1 rfl), k2 q a3, zst_nq a2]
    have q2 : ∀ k, C2 (41, L, p) k = pad (c (41, L, p)) sq v (m (51, 0, 0) 5) len k := fun k => by
      rw [e3 _ (by simp) (by simp) (by simp) (by simp) (by simp), k3']
    have q3 : C2 (11, L, p) = zst c (11, L, p) 1 (c (11, L, p) 1 + 1) (11, L, p) := by
      rw [e3 _ (by simp) (by simp) (by simp) (by simp) (by simp), k2 _ (by simp)]
    have n1 : ∀ q, q ≠ (51, 0, 0) → q ≠ (58, 0, 0) → q ≠ (59, 0, 0) → q ≠ (60, 0, 0) → q ≠ (61, 0, 0) → q ≠ (62, 0, 0) → M3 q = m q := fun q a1 a2 a3 a4 a5 a6 => by
      rw [g3 q a3 a4 a5 a6, f2 q a2, l2 q a1, zst_nq a1]
    have n2 : M3 (51, 0, 0) = M1 (51, 0, 0) := by
      rw [g3 _ (by decide) (by decide) (by decide) (by decide), f2 _ (by decide)]
    have n3 : ∀ k, k < o + 10 ∨ o + 49 ≤ k → k ≠ o + 7 → M3 (51, 0, 0) k = m (51, 0, 0) k := fun k a1 a2 => by
      rw [n2, l3 k a1, zst_nk a2]
    have n4 : M3 (51, 0, 0) (o + 7) = m (51, 0, 0) (o + 7) + 1 := by rw [n2, l3 _ (by omega), zst_at]
    have n5 : ∀ k, k < 39 → M3 (51, 0, 0) (o + 10 + k) = pad (c (41, L, p)) sq v (m (51, 0, 0) 5) len k := fun k hk => by rw [n2, l4 k hk]
    have hr2 : Rr L p (329 + 88 * p) C2 (M3 (51, 0, 0)) := by
      rw [← ho]
      refine ⟨by rw [q3, zst_nk (by omega), n3 _ (by omega) (by omega)]; exact ⟨b1, b2, b3⟩, by rw [q3, zst_at, n4, b4], by rw [q3, zst_nk (by omega), n3 _ (by omega) (by omega)]; exact ⟨b5, b6, b7⟩, by rw [n3 _ (by omega) (by omega), n3 _ (by omega) (by omega)]; exact b8, fun k hk => ?_⟩
      rw [q2, n5 k hk]
      exact ⟨rfl, hF k hk⟩
    have hK2 : RK L B C2 (M3 (51, 0, 0)) := h.ear hr2 (fun q a1 a2 => q1 q a1 (fun e => a2 (Or.inl e)) (fun e => a2 (Or.inr e))) (fun k hk => n3 k (by omega) (by omega))
    have sk : sK (PH L p) c C2 := fun q a1 a2 => q1 q a1 (fun e => a2 (Or.inr (Or.inr (Or.inr (Or.inl e))))) (fun e => a2 (Or.inr (Or.inr (Or.inr (Or.inr e)))))
    have sj : sJ (GH o) m M3 := ⟨fun q hq => n1 q (kn_ne hq rfl) (kn_ne hq rfl) (kn_ne hq rfl) (kn_ne hq rfl) (kn_ne hq rfl) (kn_ne hq rfl), fun k hk => n3 k (by unfold GH at hk; omega) (by unfold GH at hk; omega)⟩
    by_cases cw : prest w = 5
    · rw [if_pos cw, if_neg (show ¬ w32 1 = 0 by decide), if_neg (show ¬ w32 1 = 0 by decide)]
      have hK3 : RK L B (zst C2 (11, L, p) 2 1) (zst M3 (51, 0, 0) (o + 8) 1 (51, 0, 0)) := hK2.ear (p := p) (by
        obtain ⟨d1, d2, d3, d4, d5⟩ := hr2
        rw [← ho] at d1 d2 d3 d4 d5 ⊢
        exact ⟨by rw [zst_nk (by omega), zst_nk (by omega)]; exact d1, by rw [zst_nk (by omega), zst_nk (by omega)]; exact d2, by rw [zst_at, zst_at]; decide, by rw [zst_nk (by omega), zst_nk (by omega)]; exact d4, fun k hk => by rw [zst_nq (by simp), zst_nk (by omega)]; exact d5 k hk⟩) (fun q a1 a2 => zst_nq (fun e => a2 (Or.inl e))) (fun k hk => zst_nk (by omega))
      have es : (ishr (w : Int) 8) = ((w / 256 : Nat) : Int) := ishr_nat (k := 8) (by omega) (by decide)
      have el : (ishr (w : Int) 3) = ((w / 8 : Nat) : Int) := ishr_nat (k := 3) (by omega) (by decide)
      have es2 : ((w / 256 : Nat) : Int) % 8 = ((w / 256 : Nat) : Int) := by omega
      obtain ⟨C4, C5, M5, t1, t2, t3, t4, t5, t6, t7, t8, t9⟩ := r_comes (v := m (51, 0, 0) 2) (w := m (51, 0, 0) 1) (sn := w / 256) (load := ((w / 8 : Nat) : Int) % 32) hK3.2.2.1.1 hB hK3.2.2.2.1 (by rw [zst_nk (by omega), n3 _ (by omega) (by omega)]) ⟨p3a, p3b⟩ (by rw [zst_nk (by omega), n3 _ (by omega) (by omega)]) ⟨p2a, p2b⟩ (by omega) (by omega)
      have e71 : zst C2 (11, L, p) 2 1 (7, L, 0) 1 = m (51, 0, 0) 1 := by rw [zst_nq (by simp), q1 _ rfl (by simp) (by simp)]; exact p0 1 (by decide)
      have e72 : C4 (7, L, 0) 2 = m (51, 0, 0) 2 := by rw [t6 _ (by simp) (by simp) (by simp), zst_nq (by simp), q1 _ rfl (by simp) (by simp)]; exact p0 2 (by decide)
      rw [es, el, es2, e71, t1, zb_some, e72, t2, zb_some, t3, zb_some]
      refine ⟨_, _, _, rfl, rfl, hK3.rv ⟨t4, t9⟩ t5 t7 (fun k hk => t8.2 k hk), ?_, ?_, ?_⟩
      · exact sk.tr (fun q a1 a2 => by
          rw [t7 q (fun e => a2 (Or.inl e)) (fun e => a2 (Or.inr (Or.inl e))) (fun e => a2 (Or.inr (Or.inr (Or.inl e)))), zst_nq (fun e => a2 (Or.inr (Or.inr (Or.inr (Or.inl e)))))])
      · exact sj.tr ⟨fun q hq => by rw [t8.1 q (kn_ne hq rfl), zst_nq (kn_ne hq rfl)], fun k hk => by
          unfold GH at hk
          rw [t8.2 k (by omega), zst_nk (by omega)]⟩
      · rw [t8.2 _ (by omega), zst_at]
    · rw [if_neg cw, if_pos w32_0, if_pos w32_0]
      exact ⟨_, _, _, rfl, rfl, ⟨hK2.1, hK2.2.1, hK2.2.2.1.mo (by omega), hK2.2.2.2⟩, sk, sj, by rw [n3 _ (by omega) (by omega), c0]⟩
  · rw [if_neg c0, if_pos (show m (51, 0, 0) (o + 8) = 1 by omega)]
    refine ⟨_, _, _, rfl, rfl, ?_, fun q a1 a2 => zst_nq (fun e => a2 (Or.inl e)), ⟨fun q hq => zst_nq (kn_ne hq rfl), fun k hk => zst_nk (by unfold GH at hk; omega)⟩, by rw [zst_nk (by omega)]; omega⟩
    exact h.rv (h.2.2.1.rep.mo (by omega)) (h.2.2.2.1.cg (by rw [zst_nk (by omega)]) (by rw [zst_nk (by omega)]) (by rw [zst_nk (by omega)]) (by rw [zst_nk (by omega)]) (by rw [zst_nk (by omega)])) (fun q a1 a2 a3 => zst_nq a1) (fun k hk => zst_nk (by omega))
