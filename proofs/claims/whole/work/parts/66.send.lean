/-! SENDING -/
theorem ior5 {s l : Nat} (hs : s < 8) (hl : l < 32) : ior (ishl (s : Int) 5) (l : Int) = ((s * 32 + l : Nat) : Int) := by
  have h := por (s := s) (l := l) (by omega) (by omega)
  have h2 : s * 32 ||| l = s * 32 + l := by
    have : (s * 32 ||| l) * 8 = (s * 32 + l) * 8 := by
      rw [← h, show s * 256 = (s * 32) * 2 ^ 3 by omega, show l * 8 = l * 2 ^ 3 by omega, ← Nat.shiftLeft_eq, ← Nat.shiftLeft_eq, ← Nat.shiftLeft_or_distrib, Nat.shiftLeft_eq]
    omega
  rw [show (5 : Int) = ((5 : Nat) : Int) from rfl, ishl_nat (by decide), show s * 2 ^ 5 = s * 32 from rfl, ior_nat (by omega) (by omega), h2]
theorem c_wordOn {L p s l : Nat} {c : zMem} (hs : c (10, L, p) 0 = s) (s8 : s < 8) (hl : c (34, L, 0) s = l) (l32 : l < 32) : fX7_wordOn L L p c = some (pww (s * 32 + l) : Int) := by
  have xs : ix (s : Int) = s := ix_nat (by omega)
  unfold fX7_wordOn
  simp only [hs, xs, hl]
  rw [if_pos (zin_nat s8 (by decide)), ior5 s8 l32, s_wholeWord (by omega), zb_some]
def pver (t : Nat) : Nat := [0, 2, 3, 1].getD (t % 4) 0
theorem pver_lt (t : Nat) : pver t < 4 := by
  unfold pver
  rcases (show t % 4 = 0 ∨ t % 4 = 1 ∨ t % 4 = 2 ∨ t % 4 = 3 by omega) with e | e | e | e <;> rw [e] <;> decide
theorem zver_p (t : Nat) : zver (t % 4) = (pver t : Int) := by
  unfold pver zver
  rcases (show t % 4 = 0 ∨ t % 4 = 1 ∨ t % 4 = 2 ∨ t % 4 = 3 by omega) with e | e | e | e <;> rw [e] <;> decide
theorem m_versionOf {t : Nat} (ht : t < 1000) : fX12_versionOf (t : Int) = some (pver t : Int) := by
  have e : irem (t : Int) 4 = ((t % 4 : Nat) : Int) := by rw [irem_of (by omega) (by omega) (by decide) (by decide)]; omega
  unfold fX12_versionOf pver
  rw [e, w32_n (by omega)]
  rcases (show t % 4 = 0 ∨ t % 4 = 1 ∨ t % 4 = 2 ∨ t % 4 = 3 by omega) with e | e | e | e <;> rw [e] <;> decide
theorem m_sendL {p o len w : Nat} {sq : Nat → Int} {m : zMem} (ho : 329 ≤ o ∧ o ≤ 945) (hlen : len ≤ 60) (w1 : w < 2048) (hrow : ∀ i, i < len → m (56, 0, 0) i = sq i ∧ 0 ≤ sq i ∧ sq i ≤ 38) (a b : Int) : ∃ i' K, zlp (fX12_beginsSend_l182 a (len : Int) (o : Int) (w : Int)) 5000 (0, m) = some (i', K) ∧ (∀ q, q ≠ (51, 0, 0) → q ≠ (63, 0, 0) → K q = m q) ∧ (∀ k, k < o + 49 ∨ o + 88 ≤ k → K (51, 0, 0) k = m (51, 0, 0) k) ∧ (∀ k, k < 39 → K (51, 0, 0) (o + 49 + k) = m (51, 0, 0) (o + 49 + k) + pct sq len k) ∧ ∀ i, i < len → K (63, 0, 0) i = psg (pcb w (sq i).toNat) (m (51, 0, 0) 6) := by
  have hh := zlp_inv (body := fX12_beginsSend_l182 a (len : Int) (o : Int) (w : Int)) (fun j st => st.1 = (j : Int) ∧ (∀ q, q ≠ (51, 0, 0) → q ≠ (63, 0, 0) → st.2 q = m q) ∧ (∀ k, k < o + 49 ∨ o + 88 ≤ k → st.2 (51, 0, 0) k = m (51, 0, 0) k) ∧ (∀ k, k < 39 → st.2 (51, 0, 0) (o + 49 + k) = m (51, 0, 0) (o + 49 + k) + pct sq j k) ∧ ∀ i, i < j → st.2 (63, 0, 0) i = psg (pcb w (sq i).toNat) (m (51, 0, 0) 6)) (fun st => (∀ q, q ≠ (51, 0, 0) → q ≠ (63, 0, 0) → st.2 q = m q) ∧ (∀ k, k < o + 49 ∨ o + 88 ≤ k → st.2 (51, 0, 0) k = m (51, 0, 0) k) ∧ (∀ k, k < 39 → st.2 (51, 0, 0) (o + 49 + k) = m (51, 0, 0) (o + 49 + k) + pct sq len k) ∧ ∀ i, i < len → st.2 (63, 0, 0) i = psg (pcb w (sq i).toNat) (m (51, 0, 0) 6)) len (N := 5000) (by omega) (s0 := (0, m)) ⟨rfl, fun _ _ _ => rfl, fun _ _ => rfl, fun k _ => by rw [pct]; exact (Int.add_zero _).symm, fun k hk => absurd hk (Nat.not_lt_zero k)⟩ ?_ ?_
  · obtain ⟨⟨i', K⟩, hr, r1, r2, r3, r4⟩ := hh
    exact ⟨i', K, hr, r1, r2, r3, r4⟩
  · rintro j ⟨t1, K⟩ hj ⟨a1, a2, a4, a3, a5⟩
    dsimp only at a1 a2 a3 a4 a5
    subst a1
    obtain ⟨s, es⟩ := nat_of (hrow j hj).2.1
    have hs := (hrow j hj).2.2
    have s39 : s < 39 := by omega
    have e56 : K (56, 0, 0) j = (s : Int) := by rw [a2 _ (by simp) (by simp), (hrow j hj).1, es]
    have xj : ix (j : Int) = j := ix_nat (by omega)
    have xs : ix ((o : Int) + 49 + (s : Int)) = o + 49 + s := by rw [ix_of (by omega) (by omega)]; omega
    have e6 : zst K (51, 0, 0) (o + 49 + s) (K (51, 0, 0) (o + 49 + s) + 1) (51, 0, 0) 6 = m (51, 0, 0) 6 := by rw [zst_nk (by omega), a4 6 (by omega)]
    have e56' : zst K (51, 0, 0) (o + 49 + s) (K (51, 0, 0) (o + 49 + s) + 1) (56, 0, 0) j = (s : Int) := by rw [zst_nq (by simp), e56]
    unfold fX12_beginsSend_l182
    simp only [zlet_eq]
    rw [if_neg (by rw [w32_n (by omega), w32_n (by omega)]; omega)]
    simp only [xj, e56, xs, e56', e6]
    rw [if_pos (zin_nat (show j < 60 by omega) (by decide)), if_pos (zin_of (by omega) (by omega) (by decide)), s_codeBit w1 s39, zb_some, m_signed _ (by have := pcb_lt w s; omega), zb_some]
    refine Or.inl ⟨_, rfl, by dsimp only; omega, fun q hq hq2 => by dsimp only; rw [zst_nq hq2, zst_nq hq, a2 q hq hq2], fun k hk => by dsimp only; rw [zst_nq (by simp), zst_nk (by omega)]; exact a4 k hk, fun k hk => ?_, fun i hi => ?_⟩
    · dsimp only
      rw [zst_nq (by simp), pct, es, show ((s : Int)).toNat = s from rfl]
      by_cases c0 : k = s
      · subst c0; rw [zst_at, if_pos rfl, a3 k hk]; omega
      · rw [zst_nk (by omega), if_neg c0, a3 k hk]; omega
    · dsimp only
      by_cases c0 : i = j
      · subst c0; rw [zst_at, es]; rfl
      · rw [zst_nk c0, zst_nq (by simp)]; exact a5 i (by omega)
  · rintro ⟨t1, K⟩ ⟨a1, a2, a4, a3, a5⟩
    dsimp only at a1 a2 a3 a4 a5
    subst a1
    unfold fX12_beginsSend_l182
    dsimp only
    rw [if_pos (by omega)]
    exact ⟨_, rfl, a2, a4, a3, a5⟩
/-- what the class does behind the row laid -/
def tailT (L : Nat) (v2 v3 v4 : Int) (p : Nat) (C : zMem) : Option (Int × zMem) := if w32 v4 = 0 then fX0_transmit_b100 L v2 v3 v4 p p C else if w32 (C (7, L, 0) 6) ≤ 0 then fX0_transmit_b100 L v2 v3 v4 p p C else fX0_transmit_b101 L v2 v3 v4 p 1 p C
def PS (L p : Nat) (q : zPl) : Prop := PF L p q ∨ q = (20, 0, 0)
/-- a process that has its block: row laid, tally grown, number of tries grown -/
theorem r_beginB {L p o len : Nat} {B pass : Int} {c m : zMem} (hp : p < 8) (ho : o = 329 + 88 * p) (h : RK L B c (m (51, 0, 0))) (hC : iRing c) (hM : iRingM m) (hlen : len ≤ 60) (hbusy : ¬ m (51, 0, 0) o = -1) (hask : m (51, 0, 0) (o + 4) = 0) : ∃ (C M : zMem) (sq : Nat → Int) (w : Nat), fX0_transmit_b29 L (p : Int) (len : Int) pass p c = tailT L (p : Int) (len : Int) pass p C ∧ fX12_beginsSend_b121 (p : Int) (len : Int) (o : Int) m = some M ∧ RK L B C (M (51, 0, 0)) ∧ w < 2048 ∧ fX7_wordOn L L p C = some (w : Int) ∧ (∀ i, i < len → C (20, 0, 0) i = sq i ∧ 0 ≤ sq i ∧ sq i ≤ 38) ∧ (∀ i, i < len → M (56, 0, 0) i = sq i) ∧ (∀ i, i < len → M (63, 0, 0) i = psg (pcb w (sq i).toNat) (m (51, 0, 0) 6)) ∧ (∀ q, q ≠ (10, L, p) → q ≠ (37, L, p) → q ≠ (20, 0, 0) → C q = c q) ∧ (∀ q, q ≠ (51, 0, 0) → q ≠ (56, 0, 0) → q ≠ (63, 0, 0) → M q = m q) ∧ (∀ k, k < o + 3 ∨ o + 5 ≤ k → k < o + 49 ∨ o + 88 ≤ k → M (51, 0, 0) k = m (51, 0, 0) k) ∧ M (51, 0, 0) (o + 4) = 1 := by
  have hl := h.2.2.2.2.1 p hp
  rw [← ho] at hl
  obtain ⟨b1, b2, b3, b4, b5, b6, b7, b8⟩ := hl
  obtain ⟨p0, ⟨p1a, p1b⟩, ⟨p2a, p2b⟩, ⟨p3a, p3b⟩, ⟨p4a, p4b⟩, ⟨p5a, p5b⟩, -⟩ := h.1
  obtain ⟨d1, d2, d3, d4, d5⟩ := b7 hbusy
  have d4 := d4 hask
  obtain ⟨room, er⟩ := nat_of (show 0 ≤ m (51, 0, 0) 4 by omega)
  obtain ⟨t, et⟩ := nat_of b3.2.1
  obtain ⟨s, es⟩ := nat_of (show 0 ≤ m (51, 0, 0) o by omega)
  have s8 : s < 8 := by omega
  have hk := (h.2.1.2.2.2.2.2.2.1 s s8).1 (by rw [← es]; exact d1)
  obtain ⟨l, el⟩ := nat_of hk.2.1.1
  have l32 : l < 32 := by omega
  have v4 := pver_lt t
  have t3 : (t : Int) % 4 = ((t % 4 : Nat) : Int) := by omega
  have xt : ix ((t % 4 : Nat) : Int) = t % 4 := ix_nat (by omega)
  have hsq := fun i => psq_rng (room := room) (pver t) i (by omega) (by omega)
  have hlay := s_lay (I := c) hC (room := room) (v := pver t) (len := len) (by omega) (by omega) v4 hlen
  have hadd := s_addTo (I := zmp c (20, 0, 0) len (psq room (pver t))) (q := (37, L, p)) (by simp) hlen (sq := psq room (pver t)) (fun i hi => ⟨zmp_in hi, hsq i⟩)
  obtain ⟨J, j1, j2, j3⟩ := s_laysSending (m := m) hM (room := room) (v := pver t) (len := len) (by omega) (by omega) er v4 hlen
  have J51 : J (51, 0, 0) = m (51, 0, 0) := j2 _ (by simp)
  have w1 : pww (s * 32 + l) < 2048 := pww_lt (by omega)
  obtain ⟨i', K, k1, k2, k3, k4, k5⟩ := m_sendL (p := p) (o := o) (len := len) (w := pww (s * 32 + l)) (sq := psq room (pver t)) (m := zst (zst J (51, 0, 0) (o + 3) ((t : Int) + 1)) (51, 0, 0) (o + 4) 1) (by omega) hlen w1 (fun i hi => by rw [zst_nq (by simp), zst_nq (by simp)]; exact ⟨j3 i hi, hsq i⟩) (p : Int) 0
  have x0 : ix ((o : Int) + 0) = o := io o 0 (by omega)
  have z0 : zin ((o : Int) + 0) 3099 := zo o 0 (by omega)
  have x1 : ix ((o : Int) + 1) = o + 1 := io o 1 (by omega)
  have z1 : zin ((o : Int) + 1) 3099 := zo o 1 (by omega)
  have x3 : ix ((o : Int) + 3) = o + 3 := io o 3 (by omega)
  have z3 : zin ((o : Int) + 3) 3099 := zo o 3 (by omega)
  have x4 : ix ((o : Int) + 4) = o + 4 := io o 4 (by omega)
  have z4 : zin ((o : Int) + 4) 3099 := zo o 4 (by omega)
  have hK3 : K (51, 0, 0) (o + 3) = (t : Int) + 1 := by rw [k3 _ (by omega), zst_nk (by omega), zst_at]
  have hK4 : K (51, 0, 0) (o + 4) = 1 := by rw [k3 _ (by omega), zst_at]
  have hKk : ∀ k, k < o + 3 ∨ o + 5 ≤ k → k < o + 49 ∨ o + 88 ≤ k → K (51, 0, 0) k = m (51, 0, 0) k := fun k a1 a2 => by rw [k3 k a2, zst_nk (by omega), zst_nk (by omega), J51]
  have cq : ∀ q, q ≠ (10, L, p) → q ≠ (37, L, p) → q ≠ (20, 0, 0) → zst (zst (zpl (zmp c (20, 0, 0) len (psq room (pver t))) (37, L, p) (pct (psq room (pver t)) len)) (10, L, p) 2 ((t : Int) + 1)) (10, L, p) 3 1 q = c q := fun q a1 a2 a3 => by rw [zst_nq a1, zst_nq a1, zpl_ne a2, zmp_ne a3]
  have c10 : ∀ k, k ≠ 2 → k ≠ 3 → zst (zst (zpl (zmp c (20, 0, 0) len (psq room (pver t))) (37, L, p) (pct (psq room (pver t)) len)) (10, L, p) 2 ((t : Int) + 1)) (10, L, p) 3 1 (10, L, p) k = c (10, L, p) k := fun k a1 a2 => by rw [zst_nk a2, zst_nk a1, zpl_ne (by simp), zmp_ne (by simp)]
  refine ⟨zst (zst (zpl (zmp c (20, 0, 0) len (psq room (pver t))) (37, L, p) (pct (psq room (pver t)) len)) (10, L, p) 2 ((t : Int) + 1)) (10, L, p) 3 1, K, psq room (pver t), pww (s * 32 + l), ?_, ?_, ?_, w1, ?_, fun i hi => ?_, fun i hi => ?_, fun i hi => ?_, cq, fun q a1 a2 a3 => ?_, hKk, hK4⟩
  · have e2 : zpl (zmp c (20, 0, 0) len (psq room (pver t))) (37, L, p) (pct (psq room (pver t)) len) (10, L, p) 2 = (t : Int) := by rw [zpl_ne (by simp), zmp_ne (by simp), b3.1, et]
    unfold fX0_transmit_b29
    simp only [b3.1, et, t3, xt, zver_p, p0 4 (by decide), er]
    rw [if_pos (zin_nat (show t % 4 < 4 by omega) (by decide)), hlay, zb_some, hadd, zb_some]
    simp only [zlet_eq, e2]
    rfl
  · have e5 : J (51, 0, 0) (o + 3) = (t : Int) := by rw [J51, et]
    have e0 : zst (zst J (51, 0, 0) (o + 3) ((t : Int) + 1)) (51, 0, 0) (o + 4) 1 (51, 0, 0) o = (s : Int) := by rw [zst_nk (by omega), zst_nk (by omega), J51, es]
    have e1 : zst (zst J (51, 0, 0) (o + 3) ((t : Int) + 1)) (51, 0, 0) (o + 4) 1 (51, 0, 0) (o + 1) = (l : Int) := by
      rw [zst_nk (by omega), zst_nk (by omega), J51, d2, es]
      exact el
    unfold fX12_beginsSend_b121
    simp only [zlet_eq, x0, x1, x3, x4, et, m_versionOf (show t < 1000 by omega), zb_some, j1, e5, e0, e1, s_wordOf s8 l32]
    rw [if_pos z3, if_pos z4, if_pos z0, if_pos z1, k1, zb_some]
  · refine h.slot (p := p) ?_ (fun q a1 a2 => cq q (fun e => a2 (Or.inl e)) (fun e => a2 (Or.inr e)) (ka_ne a1 rfl)) (fun k a1 a2 => hKk k (by omega) (by omega))
    rw [← ho]
    refine ⟨by rw [c10 0 (by decide) (by decide), hKk _ (by omega) (by omega)]; exact b1, by rw [c10 1 (by decide) (by decide), hKk _ (by omega) (by omega)]; exact b2, by rw [hK3, zst_nk (by decide), zst_at]; omega, by rw [hK4, zst_at]; decide, by rw [c10 4 (by decide) (by decide), hKk _ (by omega) (by omega)]; exact b5, fun e => by rw [hKk _ (by omega) (by omega)] at e; exact absurd e hbusy, fun _ => ?_, by rw [hKk _ (by omega) (by omega), hKk _ (by omega) (by omega)]; exact b8⟩
    rw [hKk o (by omega) (by omega), pky_cg (g := m (51, 0, 0)) (hKk _ (by omega) (by omega)) (hKk _ (by omega) (by omega)), hKk (o + 1) (by omega) (by omega), hKk (39 + (m (51, 0, 0) o).toNat) (by omega) (by omega), hK3, hK4, hKk 3 (by omega) (by omega)]
    refine ⟨d1, d2, by omega, fun e => absurd e (by decide), fun k hk => ?_⟩
    have g1 := d5 k hk
    have g2 := (pct_pos (psq room (pver t)) k len).1
    have g3 := pct_le5 (room := room) (v := pver t) (by omega) (by omega) k hlen
    rw [zst_nq (by simp), zst_nq (by simp), zpl_at, zmp_ne (by simp), k4 k hk, zst_nk (by omega), zst_nk (by omega), J51, g1.1]
    omega
  · exact c_wordOn (by rw [c10 0 (by decide) (by decide), b1.1, es]) s8 (by rw [cq _ (by simp) (by simp) (by simp), hk.1]; exact el) l32
  · rw [zst_nq (by simp), zst_nq (by simp), zpl_ne (by simp), zmp_in hi]
    exact ⟨rfl, hsq i⟩
  · rw [k2 _ (by simp) (by simp), zst_nq (by simp), zst_nq (by simp), j3 i hi]
  · rw [k5 i hi, zst_nk (by omega), zst_nk (by omega), J51]
  · rw [k2 q a1 a3, zst_nq a1, zst_nq a1, j2 q a2]
