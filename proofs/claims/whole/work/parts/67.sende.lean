/-! SENDING: what is heard of it -/
theorem RK.rch {L p o : Nat} {B z : Int} {c m : zMem} (hp : p < 8) (ho : o = 329 + 88 * p) (h : RK L B c (m (51, 0, 0))) (hz : 0 ≤ z ∧ z ≤ 1) : RK L B (zst c (10, L, p) 4 z) (zst m (51, 0, 0) (o + 5) z (51, 0, 0)) := by
  have hl := h.2.2.2.2.1 p hp
  refine h.slot (p := p) ?_ (fun q a1 a2 => zst_nq (fun e => a2 (Or.inl e))) (fun k a1 a2 => zst_nk (by omega))
  rw [← ho] at hl ⊢
  obtain ⟨b1, b2, b3, b4, b5, b6, b7, b8⟩ := hl
  have g : ∀ k, k ≠ o + 5 → zst m (51, 0, 0) (o + 5) z (51, 0, 0) k = m (51, 0, 0) k := fun k hk => zst_nk hk
  refine ⟨by rw [zst_nk (by omega), g _ (by omega)]; exact b1, by rw [zst_nk (by omega), g _ (by omega)]; exact b2, by rw [zst_nk (by omega), g _ (by omega)]; exact b3, by rw [zst_nk (by omega), g _ (by omega)]; exact b4, by rw [zst_at, zst_at]; exact ⟨rfl, hz.1, hz.2⟩, by rw [g _ (by omega), g _ (by omega), g _ (by omega)]; exact b6, fun hn => ?_, by rw [g 0 (by omega), g o (by omega)]; exact b8⟩
  rw [g o (by omega)] at hn
  obtain ⟨d1, d2, d3, d4, d5⟩ := b7 hn
  rw [g o (by omega), pky_cg (g := m (51, 0, 0)) (g _ (by omega)) (g _ (by omega)), g (o + 1) (by omega), g (39 + (m (51, 0, 0) o).toNat) (by omega), g (o + 3) (by omega), g 3 (by omega), g (o + 4) (by omega)]
  refine ⟨d1, d2, d3, d4, fun k hk => ?_⟩
  rw [zst_nq (by simp), g (o + 49 + k) (by omega)]; exact d5 k hk
theorem c_valL {L p len w : Nat} {sq v : Nat → Int} {f : Int} {c : zMem} (hlen : len ≤ 60) (hrow : ∀ i, i < len → c (20, 0, 0) i = sq i ∧ 0 ≤ sq i ∧ sq i ≤ 38) (hv : ∀ i, i < len → c (28, 0, 0) i = v i ∧ -1000 ≤ v i ∧ v i ≤ 1000) (ef : c (7, L, 0) 6 = f) (hf : 0 ≤ f ∧ f ≤ 60) (a b : Int) : ∃ i' K, zlp (fX0_transmit_l136 L a (len : Int) b p (pcode w : Int)) 5000 (0, c) = some (i', K) ∧ (∀ q, q ≠ (28, 0, 0) → K q = c q) ∧ ∀ i, i < len → K (28, 0, 0) i = pcl (psg (pcb w (sq i).toNat) f + v i) 127 := by
  have hh := zlp_inv (body := fX0_transmit_l136 L a (len : Int) b p (pcode w : Int)) (fun j st => st.1 = (j : Int) ∧ (∀ q, q ≠ (28, 0, 0) → st.2 q = c q) ∧ (∀ i, i < j → st.2 (28, 0, 0) i = pcl (psg (pcb w (sq i).toNat) f + v i) 127) ∧ ∀ i, j ≤ i → i < len → st.2 (28, 0, 0) i = v i) (fun st => (∀ q, q ≠ (28, 0, 0) → st.2 q = c q) ∧ ∀ i, i < len → st.2 (28, 0, 0) i = pcl (psg (pcb w (sq i).toNat) f + v i) 127) len (N := 5000) (by omega) (s0 := (0, c)) ⟨rfl, fun _ _ => rfl, fun k hk => absurd hk (Nat.not_lt_zero k), fun i _ hi => (hv i hi).1⟩ ?_ ?_
  · obtain ⟨⟨i', K⟩, hr, r1, r2⟩ := hh
    exact ⟨i', K, hr, r1, r2⟩
  · rintro j ⟨t1, K⟩ hj ⟨a1, a2, a3, a4⟩
    dsimp only at a1 a2 a3 a4
    subst a1
    obtain ⟨s, es⟩ := nat_of (hrow j hj).2.1
    have hs := (hrow j hj).2.2
    have s39 : s < 39 := by omega
    have hvj := hv j hj
    have e20 : K (20, 0, 0) j = (s : Int) := by rw [a2 _ (by simp), (hrow j hj).1, es]
    have e7 : K (7, L, 0) 6 = f := by rw [a2 _ (by simp), ef]
    have e28 : K (28, 0, 0) j = v j := a4 j (by omega) hj
    have xj : ix (j : Int) = j := ix_nat (by omega)
    have key : ∀ z, -60 ≤ z ∧ z ≤ 60 → z = psg (pcb w s) f → fX0_transmit_b136_172 L a (len : Int) b p (pcode w : Int) (j : Int) z K = some (.inl (((j + 1 : Nat) : Int), zst K (28, 0, 0) j (pcl (psg (pcb w (sq j).toNat) f + v j) 127))) := fun z hz ez => by
      unfold fX0_transmit_b136_172
      simp only [zlet_eq, xj, e28]
      rw [if_pos (zin_nat (show j < 60 by omega) (by decide)), c_within (by omega) (by decide), zb_some, ez, es]; rfl
    have fin : (∃ s', some (Sum.inl (((j + 1 : Nat) : Int), zst K (28, 0, 0) j (pcl (psg (pcb w (sq j).toNat) f + v j) 127))) = (some (Sum.inl s') : Option ((Int × zMem) ⊕ (Int × zMem))) ∧ s'.1 = ((j + 1 : Nat) : Int) ∧ (∀ q, q ≠ (28, 0, 0) → s'.2 q = c q) ∧ (∀ i, i < j + 1 → s'.2 (28, 0, 0) i = pcl (psg (pcb w (sq i).toNat) f + v i) 127) ∧ ∀ i, j + 1 ≤ i → i < len → s'.2 (28, 0, 0) i = v i) := ⟨_, rfl, rfl, fun q hq => by dsimp only; rw [zst_nq hq, a2 q hq], fun i hi => by
      dsimp only
      by_cases c0 : i = j
      · subst c0; rw [zst_at]
      · rw [zst_nk c0]; exact a3 i (by omega), fun i h1 h2 => by dsimp only; rw [zst_nk (by omega)]; exact a4 i (by omega) h2⟩
    unfold fX0_transmit_l136
    dsimp only
    rw [if_neg (by rw [w32_n (by omega), w32_n (by omega)]; omega)]
    simp only [xj, e20, e7]
    rw [if_pos (zin_nat (show j < 60 by omega) (by decide)), s_isOne (pcode_lt w) s39, zb_some, pcode_bit s39]
    by_cases cb : pcb w s = 1
    · rw [if_pos cb, if_neg (by decide), key f (by omega) (by rw [cb]; rfl)]
      exact Or.inl fin
    · rw [if_neg cb, if_pos (by decide), key (-f) (by omega) (by unfold psg; rw [if_neg cb])]
      exact Or.inl fin
  · rintro ⟨t1, K⟩ ⟨a1, a2, a3, a4⟩
    dsimp only at a1 a2 a3 a4
    subst a1
    unfold fX0_transmit_l136
    dsimp only
    rw [if_pos (by omega)]
    exact ⟨_, rfl, a2, a3⟩
theorem m_clampL {len : Nat} {u : Nat → Int} {m : zMem} (hlen : len ≤ 60) (hu : ∀ i, i < len → m (63, 0, 0) i = u i ∧ -2000 ≤ u i ∧ u i ≤ 2000) (a b d : Int) : ∃ i' K, zlp (fX12_endsSend_l51 a (len : Int) b d) 5000 (0, m) = some (i', K) ∧ (∀ q, q ≠ (63, 0, 0) → K q = m q) ∧ ∀ i, i < len → K (63, 0, 0) i = pcl (u i) 127 := by
  have hh := zlp_inv (body := fX12_endsSend_l51 a (len : Int) b d) (fun j st => st.1 = (j : Int) ∧ (∀ q, q ≠ (63, 0, 0) → st.2 q = m q) ∧ (∀ i, i < j → st.2 (63, 0, 0) i = pcl (u i) 127) ∧ ∀ i, j ≤ i → i < len → st.2 (63, 0, 0) i = u i) (fun st => (∀ q, q ≠ (63, 0, 0) → st.2 q = m q) ∧ ∀ i, i < len → st.2 (63, 0, 0) i = pcl (u i) 127) len (N := 5000) (by omega) (s0 := (0, m)) ⟨rfl, fun _ _ => rfl, fun k hk => absurd hk (Nat.not_lt_zero k), fun i _ hi => (hu i hi).1⟩ ?_ ?_
  · obtain ⟨⟨i', K⟩, hr, r1, r2⟩ := hh
    exact ⟨i', K, hr, r1, r2⟩
  · rintro j ⟨t1, K⟩ hj ⟨a1, a2, a3, a4⟩
    dsimp only at a1 a2 a3 a4
    subst a1
    have huj := hu j hj
    have xj : ix (j : Int) = j := ix_nat (by omega)
    have e63 : K (63, 0, 0) j = u j := a4 j (by omega) hj
    unfold fX12_endsSend_l51
    simp only [zlet_eq]
    rw [if_neg (by rw [w32_n (by omega), w32_n (by omega)]; omega)]
    simp only [xj, e63]
    rw [if_pos (zin_nat (show j < 60 by omega) (by decide)), m_held (by omega) (by decide), zb_some]
    refine Or.inl ⟨_, rfl, by dsimp only; omega, fun q hq => by dsimp only; rw [zst_nq hq, a2 q hq], fun i hi => ?_, fun i h1 h2 => by dsimp only; rw [zst_nk (by omega)]; exact a4 i (by omega) h2⟩
    dsimp only
    by_cases c0 : i = j
    · subst c0; rw [zst_at]
    · rw [zst_nk c0]; exact a3 i (by omega)
  · rintro ⟨t1, K⟩ ⟨a1, a2, a3, a4⟩
    dsimp only at a1 a2 a3 a4
    subst a1
    unfold fX12_endsSend_l51
    dsimp only
    rw [if_pos (by omega)]
    exact ⟨_, rfl, a2, a3⟩
def PT (L p : Nat) (q : zPl) : Prop := q = (10, L, p) ∨ PH L p q
def GT (o k : Nat) : Prop := k = o + 5 ∨ GH o k
theorem r_end {L p o len w : Nat} {B pass : Int} {c m : zMem} {sq v : Nat → Int} (hp : p < 8) (ho : o = 329 + 88 * p) (h : RK L B c (m (51, 0, 0))) (hB : B + 1 ≤ 1000000000) (hC : iCode c) (hlen : len ≤ 60) (hrow : ∀ i, i < len → c (20, 0, 0) i = sq i ∧ 0 ≤ sq i ∧ sq i ≤ 38) (hrowM : ∀ i, i < len → m (56, 0, 0) i = sq i) (hw : w < 2048) (hwo : fX7_wordOn L L p c = some (w : Int)) (hv : ∀ i, i < len → c (28, 0, 0) i = v i ∧ -300 ≤ v i ∧ v i ≤ 300) (hvM : ∀ i, i < len → m (63, 0, 0) i = psg (pcb w (sq i).toNat) (m (51, 0, 0) 6) + v i) (hpass : pass = 0 ∨ pass = 1) : ∃ r c' m', tailT L (p : Int) (len : Int) pass p c = some (r, c') ∧ fX12_endsSend (p : Int) (len : Int) pass m = some m' ∧ RK L (B + 1) c' (m' (51, 0, 0)) ∧ sK (PT L p) c c' ∧ sJ (GT o) m m' ∧ r = if m' (51, 0, 0) (o + 5) = 1 then m' (51, 0, 0) (o + 8) else -1 := by
  have hl := h.2.2.2.2.1 p hp
  rw [← ho] at hl
  obtain ⟨b1, b2, b3, b4, b5, b6, b7, b8⟩ := hl
  obtain ⟨p0, ⟨p1a, p1b⟩, ⟨p2a, p2b⟩, ⟨p3a, p3b⟩, ⟨p4a, p4b⟩, ⟨p5a, p5b⟩, ⟨p6a, p6b⟩, p7a, p7b⟩ := h.1
  have e6 : c (7, L, 0) 6 = m (51, 0, 0) 6 := p0 6 (by decide)
  have w6 : w32 (m (51, 0, 0) 6) = m (51, 0, 0) 6 := w32_id (by omega) (by omega)
  have x2 : ix ((o : Int) + 2) = o + 2 := io o 2 (by omega)
  have z2 : zin ((o : Int) + 2) 3099 := zo o 2 (by omega)
  have x5 : ix ((o : Int) + 5) = o + 5 := io o 5 (by omega)
  have z5 : zin ((o : Int) + 5) 3099 := zo o 5 (by omega)
  -- nothing is heard
  have hno : fX0_transmit_b100 L (p : Int) (len : Int) pass p p c = some (-1, zst c (10, L, p) 4 0) ∧ fX12_endsSend_b33 (p : Int) (len : Int) pass (o : Int) ((o : Int) + 5) m = some (zst m (51, 0, 0) (o + 5) 0) := by
    unfold fX0_transmit_b100 fX0_transmit_b101 fX12_endsSend_b33 fX12_endsSend_b34
    simp only [zlet_eq, zst_at, x5]
    rw [if_pos (Or.inl rfl), if_pos w32_0, if_pos z5, if_pos z5, if_pos w32_0]
    exact ⟨rfl, rfl⟩
  have hno2 : RK L (B + 1) (zst c (10, L, p) 4 0) (zst m (51, 0, 0) (o + 5) 0 (51, 0, 0)) ∧ sK (PT L p) c (zst c (10, L, p) 4 0) ∧ sJ (GT o) m (zst m (51, 0, 0) (o + 5) 0) ∧ (-1 : Int) = if zst m (51, 0, 0) (o + 5) 0 (51, 0, 0) (o + 5) = 1 then zst m (51, 0, 0) (o + 5) 0 (51, 0, 0) (o + 8) else -1 := by
    have hr := RK.rch hp ho h (z := 0) (by decide)
    exact ⟨⟨hr.1, hr.2.1, hr.2.2.1.mo (by omega), hr.2.2.2⟩, fun q a1 a2 => zst_nq (fun e => a2 (Or.inl e)), ⟨fun q hq => zst_nq (kn_ne hq rfl), fun k hk => zst_nk (fun e => hk (Or.inl e))⟩, by rw [zst_at, if_neg (by decide)]⟩
  unfold tailT fX12_endsSend
  simp only [m_own ho, zb_some, e6, w6]
  rcases hpass with e | e
  · subst e
    rw [if_pos w32_0, if_pos w32_0]
    exact ⟨_, _, _, hno.1, hno.2, hno2⟩
  · subst e
    rw [if_neg (show ¬ w32 1 = 0 by decide), if_neg (show ¬ w32 1 = 0 by decide)]
    by_cases c6 : m (51, 0, 0) 6 ≤ 0
    · rw [if_pos c6, if_pos c6]
      exact ⟨_, _, _, hno.1, hno.2, hno2⟩
    · rw [if_neg c6, if_neg c6]
      have hr := RK.rch hp ho h (z := 1) (by decide)
      have hwo2 : fX7_wordOn L L p (zst c (10, L, p) 4 1) = some (w : Int) := by
        rw [← hwo]
        unfold fX7_wordOn
        rw [zst_nk (by decide), zst_nq (by simp)]
      obtain ⟨i1, C1, k1, k2, k3⟩ := c_valL (L := L) (p := p) (w := w) (sq := sq) (v := v) (c := zst c (10, L, p) 4 1) hlen (fun i hi => by rw [zst_nq (by simp)]; exact hrow i hi) (fun i hi => by rw [zst_nq (by simp)]; have := hv i hi; exact ⟨this.1, by omega, by omega⟩) (f := m (51, 0, 0) 6) (by rw [zst_nq (by simp)]; exact e6) (by omega) (p : Int) 1
      have bu : ∀ i, i < len → -2000 ≤ psg (pcb w (sq i).toNat) (m (51, 0, 0) 6) + v i ∧ psg (pcb w (sq i).toNat) (m (51, 0, 0) 6) + v i ≤ 2000 := fun i hi => by
        have h1 := psg_bd (x := m (51, 0, 0) 6) (c := 60) (pcb w (sq i).toNat) (by omega)
        have h2 := hv i hi
        omega
      obtain ⟨i2, M1, l1, l2, l3⟩ := m_clampL (u := fun i => psg (pcb w (sq i).toNat) (m (51, 0, 0) 6) + v i) (m := zst m (51, 0, 0) (o + 5) 1) hlen (fun i hi => by rw [zst_nq (by simp)]; exact ⟨hvM i hi, bu i hi⟩) (p : Int) 1 (o : Int)
      have M51 : M1 (51, 0, 0) = zst m (51, 0, 0) (o + 5) 1 (51, 0, 0) := l2 _ (by simp)
      have hK1 : RK L B C1 (M1 (51, 0, 0)) := by
        rw [M51]
        have e : ∀ r p', r ≠ 28 → C1 (r, L, p') = zst c (10, L, p) 4 1 (r, L, p') := fun r p' a => k2 _ (by simp [a])
        obtain ⟨g1, g2, g3, g4, g5, g6⟩ := hr
        exact ⟨g1.cg (fun k _ => by rw [e 7 0 (by decide)]) (fun _ _ => rfl), g2.cg (e 8 0 (by decide)) (e 33 0 (by decide)) (e 34 0 (by decide)) (e 35 0 (by decide)) (e 36 0 (by decide)) (fun _ _ _ => rfl), g3.cg (fun k _ _ => by rw [e 9 0 (by decide)]) (e 39 0 (by decide)) (e 40 0 (by decide)) (fun _ _ _ _ _ _ _ => rfl), g4.cg (by rw [e 9 0 (by decide)]) (by rw [e 9 0 (by decide)]) rfl rfl rfl, fun p' hp' => (g5 p' hp').cg (e 10 p' (by decide)) (e 37 p' (by decide)) rfl rfl (fun _ _ _ _ => rfl) (fun _ _ _ => rfl), fun p' hp' => (g6 p' hp').cg (e 11 p' (by decide)) (e 41 p' (by decide)) (fun _ _ _ => rfl)⟩
      obtain ⟨r, c', m', t1, t2, t3, t4, t5, t6⟩ := r_hear (tg := m (51, 0, 0) (o + 2)) (len := len) (sq := sq) (v := fun i => pcl (psg (pcb w (sq i).toNat) (m (51, 0, 0) 6) + v i) 127) hp ho b2.2 hK1 hB hlen (fun i hi => by rw [k2 _ (by simp), zst_nq (by simp)]; exact hrow i hi) (fun i hi => by rw [l2 _ (by simp), zst_nq (by simp)]; exact hrowM i hi) (fun i hi => ⟨k3 i hi, by have := pcl_rng (v := psg (pcb w (sq i).toNat) (m (51, 0, 0) 6) + v i) (l := 127) (by decide); omega⟩) (fun i hi => l3 i hi)
      have r16 : zst c (10, L, p) 4 1 (16, 0, 0) w = (pcode w : Int) := by rw [zst_nq (by simp)]; exact hC.1 w hw
      have r2 : C1 (10, L, p) 1 = m (51, 0, 0) (o + 2) := by rw [k2 _ (by simp), zst_nk (by decide)]; exact b2.1
      have r22 : M1 (51, 0, 0) (o + 2) = m (51, 0, 0) (o + 2) := by rw [M51, zst_nk (by omega)]
      have xw : ix (w : Int) = w := ix_nat (by omega)
      refine ⟨r, c', m', ?_, ?_, t3, ?_, ?_, ?_⟩
      · unfold fX0_transmit_b101
        simp only [zlet_eq, zst_at, hwo2, zb_some, xw, r16]
        rw [if_pos (Or.inr rfl), if_neg (by decide), if_pos (zin_nat hw (by decide)), k1, zb_some]
        dsimp only
        rw [r2, t1, zb_some]
      · unfold fX12_endsSend_b34
        simp only [zlet_eq, zst_at, x5, x2]
        rw [if_pos z5, if_pos z5, if_neg (by decide), l1, zb_some]
        dsimp only
        rw [if_pos z2, r22, t2, zb_some]
      · exact sK.tr (P := PT L p) (fun q a1 a2 => by rw [k2 q (ka_ne a1 rfl), zst_nq (fun e => a2 (Or.inl e))]) (t4.mo (fun q e => Or.inr e))
      · exact sJ.tr (P := GT o) ⟨fun q hq => by rw [l2 q (kn_ne hq rfl), zst_nq (kn_ne hq rfl)], fun k hk => by rw [M51, zst_nk (fun e => hk (Or.inl e))]⟩ (t5.mo (fun k e => Or.inr e))
      · have e5 : m' (51, 0, 0) (o + 5) = 1 := by rw [t5.2 _ (by unfold GH; omega), M51, zst_at]
        rw [e5, if_pos rfl, t6]
