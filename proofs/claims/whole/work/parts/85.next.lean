/-! NEXT -/
theorem m_tallyL {m : zMem} {p : Nat} (hp : p < 8) (a b d f : Int) : ∃ i' K, zlp (fX12_next_l62 (p : Int) a b d f) 5000 (0, m) = some (i', K) ∧ (∀ q, q ≠ (57, 0, 0) → K q = m q) ∧ ∀ i, i < 39 → K (57, 0, 0) i = m (51, 0, 0) (329 + 88 * p + 49 + i) := by
  have hh := zlp_inv (body := fX12_next_l62 (p : Int) a b d f) (fun j st => st.1 = (j : Int) ∧ (∀ q, q ≠ (57, 0, 0) → st.2 q = m q) ∧ ∀ i, i < j → st.2 (57, 0, 0) i = m (51, 0, 0) (329 + 88 * p + 49 + i)) (fun st => (∀ q, q ≠ (57, 0, 0) → st.2 q = m q) ∧ ∀ i, i < 39 → st.2 (57, 0, 0) i = m (51, 0, 0) (329 + 88 * p + 49 + i)) 39 (N := 5000) (by decide) (s0 := (0, m)) ⟨rfl, fun _ _ => rfl, fun k hk => absurd hk (Nat.not_lt_zero k)⟩ ?_ ?_
  · obtain ⟨⟨i', K⟩, hr, r1⟩ := hh
    exact ⟨i', K, hr, r1⟩
  · rintro j ⟨t1, K⟩ hj ⟨a1, a2, a3⟩
    dsimp only at a1 a2 a3
    subst a1
    have xj : ix (j : Int) = j := ix_nat (by omega)
    have xo : ix (((329 + 88 * p : Nat) : Int) + 49 + (j : Int)) = 329 + 88 * p + 49 + j := by rw [ix_of (by omega) (by omega)]; omega
    have zo' : zin (((329 + 88 * p : Nat) : Int) + 49 + (j : Int)) 3099 := zin_of (by omega) (by omega) (by decide)
    have e51 : K (51, 0, 0) (329 + 88 * p + 49 + j) = m (51, 0, 0) (329 + 88 * p + 49 + j) := by rw [a2 _ (by simp)]
    unfold fX12_next_l62
    simp only [zlet_eq, m_own (p := p) rfl, zb_some, xj, xo, e51, if_pos zo']
    rw [if_neg (by rw [w32_n (by omega)]; omega), if_pos (zin_nat hj (by decide))]
    refine Or.inl ⟨_, rfl, by dsimp only; omega, fun q hq => by dsimp only; rw [zst_nq hq, a2 q hq], fun i hi => ?_⟩
    dsimp only
    by_cases c0 : i = j
    · subst c0; rw [zst_at]
    · rw [zst_nk c0]; exact a3 i (by omega)
  · rintro ⟨t1, K⟩ ⟨a1, a2, a3⟩
    dsimp only at a1 a2 a3
    subst a1
    unfold fX12_next_l62
    dsimp only
    rw [if_pos (by decide)]
    exact ⟨_, rfl, a2, a3⟩
/-- how far whole words are apart, one sending more -/
def gnx (tl : Nat → Nat) (room len v c : Nat) : Nat := tl c + (pct (psq room v) len c).toNat
def pnx (tl : Nat → Nat) (room len v : Nat) : Int := pls (pWw (fun c => (gnx tl room len v c : Int))) 1000000 255
theorem gnx_lt {tl : Nat → Nat} (ht : ∀ c, c < 39 → tl c ≤ 40) {room len v : Nat} (h1 : 16 ≤ room) (h2 : room ≤ 48) (hl : len ≤ 60) : ∀ c, c < 39 → gnx tl room len v c < 64 := fun c hc => by
  have g2 := (pct_pos (psq room v) c len).1
  have g3 := pct_le5 (room := room) (v := v) h1 h2 c hl
  have := ht c hc
  unfold gnx; omega
theorem c_nextV {c : zMem} {p room len v : Nat} {tl : Nat → Nat} (hC : iCode c) (hR : iRing c) (h7 : c (7, 1, 0) 4 = room) (h1 : 16 ≤ room) (h2 : room ≤ 48) (hl : len ≤ 60) (hv : v < 4) (ht : ∀ k, k < 39 → c (37, 1, p) k = (tl k : Int) ∧ tl k ≤ 40) (a : Int) (x y : Int) (hy : -1 ≤ y ∧ y ≤ 1000000) : ∃ K, sC c K ∧ fX11_next_l54 a (len : Int) p (x, y, (v : Int), c) = if pnx tl room len v ≤ y then some (.inl (x, y, (v : Int) + 1, K)) else some (.inl ((v : Int), pnx tl room len v, (v : Int) + 1, K)) := by
  have hne : ((37, 1, p) : zPl) ≠ (13, 0, 0) := by simp
  have hZ : ∀ q, q ≠ (13, 0, 0) → zcp c (37, 1, p) 0 (13, 0, 0) 0 39 q = c q := fun q hq => zcp_nq hq
  have hR1 : iRing (zcp c (37, 1, p) 0 (13, 0, 0) 0 39) := ⟨fun k hk => by rw [hZ _ (by simp)]; exact hR.1 k hk, fun k hk => by rw [hZ _ (by simp)]; exact hR.2 k hk⟩
  have hlay := s_lay hR1 (room := room) (v := v) (len := len) h1 h2 hv hl
  have hsq := fun i => psq_rng (room := room) v i h1 h2
  have hadd := s_addTo (I := zmp (zcp c (37, 1, p) 0 (13, 0, 0) 0 39) (20, 0, 0) len (psq room v)) (q := (13, 0, 0)) (by simp) hl (sq := psq room v) (fun i hi => ⟨zmp_in hi, hsq i⟩)
  have hg := gnx_lt (tl := tl) (fun k hk => (ht k hk).2) (v := v) h1 h2 hl
  obtain ⟨N, n1, n2, n3, n4⟩ := s_take (I := zpl (zmp (zcp c (37, 1, p) 0 (13, 0, 0) 0 39) (20, 0, 0) len (psq room v)) (13, 0, 0) (pct (psq room v) len)) (q := (13, 0, 0)) (by decide) (by decide) (g := gnx tl room len v) (fun k hk => by
    have g2 := (pct_pos (psq room v) k len).1
    refine ⟨?_, hg k hk⟩
    rw [zpl_at, zmp_ne (by simp), zcp_ap, if_pos ⟨rfl, by omega, by omega⟩, show 0 + (k - 0) = k by omega, (ht k hk).1]
    unfold gnx; omega)
  have sN' : sC c N := fun q hq => by rw [n2 q (kc_ne hq rfl) (kc_ne hq rfl), zpl_ne (kc_ne hq rfl), zmp_ne (kc_ne hq rfl), hZ q (kc_ne hq rfl)]
  have hle : fX10_least (17, 0, 0) 256 N = some (pnx tl room len v) := s_leastWc hg (hC.keep sN') n4
  have hb : 0 ≤ pnx tl room len v ∧ pnx tl room len v ≤ 1000000 := pls_rng (by decide) 255 (fun k _ => (pwt_rng hg _).1)
  refine ⟨N, sN', ?_⟩
  unfold fX11_next_l54 fX11_next_b54_146
  simp only [zlet_eq]
  rw [if_neg (by rw [w32_n (by omega)]; omega), hZ _ (by simp), h7, hlay, zb_some, hadd, zb_some, n1, zb_some, hle, zb_some]
  rw [w32_id (z := pnx tl room len v) (by omega) (by omega), w32_id (z := y) (by omega) (by omega)]

theorem pnx_rng {tl : Nat → Nat} (ht : ∀ c, c < 39 → tl c ≤ 40) {room len v : Nat} (h1 : 16 ≤ room) (h2 : room ≤ 48) (hl : len ≤ 60) : 0 ≤ pnx tl room len v ∧ pnx tl room len v ≤ 1000000 := pls_rng (by decide) 255 (fun k _ => (pwt_rng (gnx_lt ht (v := v) h1 h2 hl) _).1)
theorem m_nextV {m : zMem} {p room len v : Nat} {tl : Nat → Nat} (hp : p < 8) (hC : iCodeM m) (hR : iRingM m) (h7 : m (51, 0, 0) 4 = room) (h1 : 16 ≤ room) (h2 : room ≤ 48) (hl : len ≤ 60) (hv : v < 4) (ht : ∀ k, k < 39 → m (51, 0, 0) (329 + 88 * p + 49 + k) = (tl k : Int) ∧ tl k ≤ 40) (x y : Int) (hy : -1 ≤ y ∧ y ≤ 1000000) : ∃ K, sM m K ∧ fX12_next_l53 (p : Int) (len : Int) (x, y, (v : Int), m) = if pnx tl room len v ≤ y then some (.inl (x, y, (v : Int) + 1, K)) else some (.inl ((v : Int), pnx tl room len v, (v : Int) + 1, K)) := by
  obtain ⟨i', J, j1, j2, j3⟩ := m_tallyL (m := m) (p := p) hp (len : Int) x y (v : Int)
  obtain ⟨K, k1, k2, k3⟩ := s_addsOften (m := J) (fun a ha => by rw [j2 _ (by simp)]; exact hR a ha) (room := room) (v := v) (len := len) h1 h2 (by rw [j2 _ (by simp)]; exact h7) hv hl
  have hg := gnx_lt (tl := tl) (fun k hk => (ht k hk).2) (v := v) h1 h2 hl
  have sK' : sM m K := fun q hq => by rw [k2 q (km_ne hq rfl) (km_ne hq rfl), j2 q (km_ne hq rfl)]
  have hle : fX12_leastApart 1 K = some (pnx tl room len v) := m_leastW (hC.keep sK') hg (fun c hc => by
    have g2 := (pct_pos (psq room v) c len).1
    rw [k3, j3 c hc, (ht c hc).1]
    unfold gnx; omega)
  have hb := pnx_rng (tl := tl) (fun k hk => (ht k hk).2) (v := v) h1 h2 hl
  refine ⟨K, sK', ?_⟩
  unfold fX12_next_l53 fX12_next_b53_129
  dsimp only
  rw [if_neg (by rw [w32_n (by omega)]; omega), j1, zb_some]
  dsimp only
  rw [k1, zb_some, hle, zb_some, w32_id (z := pnx tl room len v) (by omega) (by omega), w32_id (z := y) (by omega) (by omega)]
  by_cases c0 : pnx tl room len v ≤ y
  · rw [if_pos c0, if_neg (by omega)]
  · rw [if_neg c0, if_pos (by omega)]
section
variable {n : Int} {e : Nat → Prop} {c m : zMem}
theorem Q_next (h : RW n e c m) {a l : Int} (ha : i32 a) (hl : i32 l) : okC n e (fX11_next a l c) (fX12_next a l m) := by
  have h0 := h.th
  unfold okC fX11_next fX12_next
  simp only [zlet_eq]
  generalize zst m (50, 0, 0) 0 0 = m0 at h0 ⊢
  have hf := h0.mo (show n ≤ n + 60 by omega)
  obtain ⟨pn, n1, n2, n3, n4⟩ := h0.pn
  rw [v_isProcess n2 n3 ha, vz, m_isProcess n2 n4 ha, vz]
  by_cases c0 : 0 ≤ a ∧ a < (pn : Int)
  · rw [if_pos c0, if_pos (show 0 ≤ a ∧ a ≤ (pn : Int) - 1 by omega), v_isLength hl, vz, m_isLength hl, vz]
    by_cases c1 : 1 ≤ l ∧ l ≤ 60
    · rw [if_pos c1, if_pos c1]
      obtain ⟨p, rfl⟩ := nat_of c0.1
      obtain ⟨len, rfl⟩ := nat_of (show 0 ≤ l by omega)
      have p8 : p < 8 := by omega
      have xp : ix (p : Int) = p := ix_nat (by omega)
      obtain ⟨⟨a1, a2, a3⟩, -, ⟨a7, a8, a9⟩, -, -, -, b7, -⟩ := h0.2.1.2.2.2.2.1 p p8
      have w0 : w32 (m0 (51, 0, 0) (329 + 88 * p)) = m0 (51, 0, 0) (329 + 88 * p) := w32_id (by omega) (by omega)
      have z0 : zin (((329 + 88 * p : Nat) : Int) + 0) 3099 := zo _ 0 (by omega)
      have x0 : ix (((329 + 88 * p : Nat) : Int) + 0) = 329 + 88 * p := io _ 0 (by omega)
      simp only [m_own (p := p) rfl, zb_some, x0, if_pos z0, xp, a1, w0]
      rw [if_pos (zin_nat p8 (by decide))]
      by_cases c2 : m0 (51, 0, 0) (329 + 88 * p) = -1
      · rw [if_pos c2, if_pos c2]; exact ⟨_, _, _, rfl, rfl, hf⟩
      · rw [if_neg c2, if_neg c2]
        obtain ⟨-, -, -, -, d5⟩ := b7 c2
        obtain ⟨p0, -, -, -, -, ⟨p5a, p5b⟩, -⟩ := h0.2.1.1
        obtain ⟨room, er⟩ := nat_of (show 0 ≤ m0 (51, 0, 0) 4 by omega)
        obtain ⟨tl, htd⟩ : ∃ tl : Nat → Nat, ∀ k, tl k = (m0 (51, 0, 0) (329 + 88 * p + 49 + k)).toNat := ⟨_, fun _ => rfl⟩
        have htl : ∀ k, k < 39 → m0 (51, 0, 0) (329 + 88 * p + 49 + k) = (tl k : Int) ∧ tl k ≤ 40 := fun k hk => by
          have := (d5 k hk).2
          rw [htd k]; omega
        have htc : ∀ k, k < 39 → c (37, 1, p) k = (tl k : Int) ∧ tl k ≤ 40 := fun k hk => by
          rw [(d5 k hk).1]; exact htl k hk
        have e7 : c (7, 1, 0) 4 = room := by rw [p0 4 (by decide), er]
        -- both loops, four rounds
        have key : ∀ (r j N N' : Nat) (C M : zMem) (x x' y : Int), j + r = 4 → sC c C → sM m0 M → (0 < j → x = x') → -1 ≤ y ∧ y ≤ 1000000 → (j = 0 → y = -1) → r < N → r < N' → ∃ x2 x2' y2 i1 i2 C2 M2, zlp (fX11_next_l54 (p : Int) (len : Int) p) N (x, y, (j : Int), C) = some (x2, y2, i1, C2) ∧ zlp (fX12_next_l53 (p : Int) (len : Int)) N' (x', y, (j : Int), M) = some (x2', y2, i2, M2) ∧ x2 = x2' ∧ sC c C2 ∧ sM m0 M2 := by
          intro r
          induction r with
          | zero =>
            intro j N N' C M x x' y hj hC hM hx hy h0' hN hN'
            refine ⟨x, x', y, j, j, C, M, zlp_ex (by omega) ?_, zlp_ex (by omega) ?_, hx (by omega), hC, hM⟩
            · unfold fX11_next_l54
              dsimp only
              rw [if_pos (by rw [w32_n (by omega)]; omega)]
            · unfold fX12_next_l53
              dsimp only
              rw [if_pos (by rw [w32_n (by omega)]; omega)]
          | succ r ih =>
            intro j N N' C M x x' y hj hC hM hx hy h0' hN hN'
            obtain ⟨k, rfl⟩ : ∃ n, N = n + 1 := ⟨N - 1, by omega⟩
            obtain ⟨k', rfl⟩ : ∃ n, N' = n + 1 := ⟨N' - 1, by omega⟩
            have hb := pnx_rng (tl := tl) (fun k hk => (htc k hk).2) (v := j) (room := room) (len := len) (by omega) (by omega) (by omega)
            obtain ⟨K, k1, k2⟩ := c_nextV (c := C) (p := p) (room := room) (len := len) (v := j) (tl := tl) (h0.1.1.keep hC) (h0.1.2.1.keep hC) (by rw [hC _ rfl]; exact e7) (by omega) (by omega) (by omega) (by omega) (fun k hk => by rw [hC _ rfl]; exact htc k hk) (p : Int) x y hy
            obtain ⟨L, l1, l2⟩ := m_nextV (m := M) (p := p) (room := room) (len := len) (v := j) (tl := tl) p8 (h0.1.2.2.1.keep hM) (h0.1.2.2.2.keep hM) (by rw [hM _ rfl]; exact er) (by omega) (by omega) (by omega) (by omega) (fun k hk => by rw [hM _ rfl]; exact htl k hk) x' y hy
            generalize pnx tl room len j = z at hb k2 l2
            by_cases c3 : z ≤ y
            · rw [if_pos c3] at k2 l2
              have j0 : 0 < j := Classical.byContradiction fun hc => by have := h0' (by omega); omega
              rw [zlp_in k2, zlp_in l2, show (j : Int) + 1 = ((j + 1 : Nat) : Int) by omega]
              exact ih (j + 1) k k' K L x x' y (by omega) (hC.tr k1) (hM.tr l1) (fun _ => hx j0) hy (fun e => by omega) (by omega) (by omega)
            · rw [if_neg c3] at k2 l2
              rw [zlp_in k2, zlp_in l2, show (j : Int) + 1 = ((j + 1 : Nat) : Int) by omega]
              exact ih (j + 1) k k' K L j j _ (by omega) (hC.tr k1) (hM.tr l1) (fun _ => rfl) (by omega) (fun e => by omega) (by omega) (by omega)
        obtain ⟨x2, x2', y2, i1, i2, C2, M2, g1, g2, g3, g4, g5⟩ := key 4 0 5000 5000 c m0 0 (-1) (-1) (by omega) (sC.rf c) (sM.rf m0) (fun hh => by omega) (by decide) (fun _ => rfl) (by decide) (by decide)
        have g1' : zlp (fX11_next_l54 (p : Int) (len : Int) p) 5000 (0, -1, 0, c) = some (x2, y2, i1, C2) := g1
        have g2' : zlp (fX12_next_l53 (p : Int) (len : Int)) 5000 (-1, -1, 0, m0) = some (x2', y2, i2, M2) := g2
        rw [g1', zb_some, g2', zb_some, g3]
        exact ⟨_, _, _, rfl, rfl, h0.kp (by omega) g4 g5⟩
    · rw [if_neg c1, if_neg c1]; exact ⟨_, _, _, rfl, rfl, hf⟩
  · rw [if_neg c0, if_neg (show ¬ (0 ≤ a ∧ a ≤ (pn : Int) - 1) by omega)]; exact ⟨_, _, _, rfl, rfl, hf⟩
end
