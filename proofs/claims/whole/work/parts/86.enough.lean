/-! ENOUGH -/
theorem c_addClean {c : zMem} {q : zPl} {w len : Nat} {sq : Nat → Int} {s l : Int} (q1 : q ≠ (20, 0, 0)) (hlen : len ≤ 60) (hrow : ∀ i, i < len → c (20, 0, 0) i = sq i ∧ 0 ≤ sq i ∧ sq i ≤ 38) (hs : 1 ≤ s ∧ s ≤ 60) (hl : 0 ≤ l ∧ l ≤ 9999) (hf : pbd (c q)) : ∃ K, fX0_addClean q (pcode w : Int) (len : Int) s l c = some K ∧ (∀ r, r ≠ q → K r = c r) ∧ ∀ k, K q k = pad (c q) sq (fun i => psg (pcb w (sq i).toNat) s) l len k := by
  have hh := zlp_inv (body := fX0_addClean_l3 q (pcode w : Int) (len : Int) s l) (fun j st => st.1 = (j : Int) ∧ (∀ r, r ≠ q → st.2 r = c r) ∧ ∀ k, st.2 q k = pad (c q) sq (fun i => psg (pcb w (sq i).toNat) s) l j k) (fun st => (∀ r, r ≠ q → st.2 r = c r) ∧ ∀ k, st.2 q k = pad (c q) sq (fun i => psg (pcb w (sq i).toNat) s) l len k) len (N := 5000) (by omega) (s0 := (0, c)) ⟨rfl, fun _ _ => rfl, fun k => rfl⟩ ?_ ?_
  · obtain ⟨⟨i', K⟩, hr, r1, r2⟩ := hh
    unfold fX0_addClean
    rw [hr, zb_some]
    exact ⟨K, rfl, r1, r2⟩
  · rintro j ⟨t1, K⟩ hj ⟨a1, a2, a3⟩
    dsimp only at a1 a2 a3
    subst a1
    obtain ⟨x, es⟩ := nat_of (hrow j hj).2.1
    have hx := (hrow j hj).2.2
    have x39 : x < 39 := by omega
    have hp := pad_rng (sq := sq) (v := fun i => psg (pcb w (sq i).toNat) s) hl hf j x x39
    have e20 : K (20, 0, 0) j = (x : Int) := by rw [a2 _ (Ne.symm q1), (hrow j hj).1, es]
    have xj : ix (j : Int) = j := ix_nat (by omega)
    have xx : ix (x : Int) = x := ix_nat (by omega)
    have key : ∀ z, -60 ≤ z ∧ z ≤ 60 → z = psg (pcb w x) s → fX0_addClean_b3_46 q (pcode w : Int) (len : Int) s l (j : Int) z (pad (c q) sq (fun i => psg (pcb w (sq i).toNat) s) l j x) (x : Int) K = some (.inl (((j + 1 : Nat) : Int), zst K q x (pcl (pad (c q) sq (fun i => psg (pcb w (sq i).toNat) s) l j x + z) l))) := fun z hz ez => by
      unfold fX0_addClean_b3_46
      rw [c_within (by omega) hl, zb_some, if_pos (zin_nat x39 (by decide)), xx]
      simp only [zlet_eq]; rfl
    have fin : ∀ z, z = psg (pcb w x) s → (∀ r, r ≠ q → zst K q x (pcl (pad (c q) sq (fun i => psg (pcb w (sq i).toNat) s) l j x + z) l) r = c r) ∧ ∀ k, zst K q x (pcl (pad (c q) sq (fun i => psg (pcb w (sq i).toNat) s) l j x + z) l) q k = pad (c q) sq (fun i => psg (pcb w (sq i).toNat) s) l (j + 1) k := fun z ez => ⟨fun r hr => by rw [zst_nq hr, a2 r hr], fun k => by
      rw [pad_s, es]
      by_cases c0 : k = x
      · subst c0; rw [zst_at, if_pos rfl, ez]; rfl
      · rw [zst_nk c0, if_neg (by omega)]; exact a3 k⟩
    unfold fX0_addClean_l3
    simp only [zlet_eq]
    rw [if_neg (by rw [w32_n (by omega), w32_n (by omega)]; omega)]
    simp only [xj, e20, xx, a3]
    rw [if_pos (zin_nat (show j < 60 by omega) (by decide)), if_pos (zin_nat x39 (by decide)), s_isOne (pcode_lt w) x39, zb_some, pcode_bit x39]
    by_cases cb : pcb w x = 1
    · have ez : s = psg (pcb w x) s := by rw [cb]; rfl
      rw [if_pos cb, if_neg (by decide), key s (by omega) ez]
      exact Or.inl ⟨_, rfl, rfl, fin s ez⟩
    · have ez : -s = psg (pcb w x) s := by unfold psg; rw [if_neg cb]
      rw [if_neg cb, if_pos (by decide), key (-s) (by omega) ez]
      exact Or.inl ⟨_, rfl, rfl, fin (-s) ez⟩
  · rintro ⟨t1, K⟩ ⟨a1, a2, a3⟩
    dsimp only at a1 a2 a3
    subst a1
    unfold fX0_addClean_l3
    dsimp only
    rw [if_pos (by omega)]
    exact ⟨_, rfl, a2, a3⟩
theorem m_addClean {m : zMem} {f sq : Nat → Int} {w len : Nat} {s l : Int} (hlen : len ≤ 60) (w1 : w < 2048) (hrow : ∀ i, i < len → m (56, 0, 0) i = sq i ∧ 0 ≤ sq i ∧ sq i ≤ 38) (hs : 1 ≤ s ∧ s ≤ 60) (el : m (51, 0, 0) 5 = l) (hl : 0 ≤ l ∧ l ≤ 9999) (hf : pbd f) (hS : ∀ k, k < 39 → m (58, 0, 0) k = f k) (a b d : Int) : ∃ i' K, zlp (fX12_enough_l181 a (len : Int) s b (w : Int) d) 5000 (0, m) = some (i', K) ∧ (∀ r, r ≠ (58, 0, 0) → K r = m r) ∧ ∀ k, k < 39 → K (58, 0, 0) k = pad f sq (fun i => psg (pcb w (sq i).toNat) s) l len k := by
  have hh := zlp_inv (body := fX12_enough_l181 a (len : Int) s b (w : Int) d) (fun j st => st.1 = (j : Int) ∧ (∀ r, r ≠ (58, 0, 0) → st.2 r = m r) ∧ ∀ k, k < 39 → st.2 (58, 0, 0) k = pad f sq (fun i => psg (pcb w (sq i).toNat) s) l j k) (fun st => (∀ r, r ≠ (58, 0, 0) → st.2 r = m r) ∧ ∀ k, k < 39 → st.2 (58, 0, 0) k = pad f sq (fun i => psg (pcb w (sq i).toNat) s) l len k) len (N := 5000) (by omega) (s0 := (0, m)) ⟨rfl, fun _ _ => rfl, hS⟩ ?_ ?_
  · obtain ⟨⟨i', K⟩, hr, r1, r2⟩ := hh
    exact ⟨i', K, hr, r1, r2⟩
  · rintro j ⟨t1, K⟩ hj ⟨a1, a2, a3⟩
    dsimp only at a1 a2 a3
    subst a1
    obtain ⟨x, es⟩ := nat_of (hrow j hj).2.1
    have hx := (hrow j hj).2.2
    have x39 : x < 39 := by omega
    have hp := pad_rng (sq := sq) (v := fun i => psg (pcb w (sq i).toNat) s) hl hf j x x39
    have hg := psg_bd (x := s) (c := 60) (pcb w x) (by omega)
    have e20 : K (56, 0, 0) j = (x : Int) := by rw [a2 _ (by simp), (hrow j hj).1, es]
    have e5 : K (51, 0, 0) 5 = l := by rw [a2 _ (by simp), el]
    have xj : ix (j : Int) = j := ix_nat (by omega)
    have xx : ix (x : Int) = x := ix_nat (by omega)
    unfold fX12_enough_l181
    simp only [zlet_eq]
    rw [if_neg (by rw [w32_n (by omega), w32_n (by omega)]; omega)]
    simp only [xj, e20, xx, a3 x x39, e5]
    rw [if_pos (zin_nat (show j < 60 by omega) (by decide)), if_pos (zin_nat x39 (by decide)), s_codeBit w1 x39, zb_some, m_signed _ (by have := pcb_lt w x; omega), zb_some, m_held (by omega) hl, zb_some]
    refine Or.inl ⟨_, rfl, by dsimp only; omega, fun r hr => by dsimp only; rw [zst_nq hr, a2 r hr], fun k hk => ?_⟩
    dsimp only
    rw [pad_s, es]
    by_cases c0 : k = x
    · subst c0; rw [zst_at, if_pos rfl]; rfl
    · rw [zst_nk c0, if_neg (by omega)]; exact a3 k hk
  · rintro ⟨t1, K⟩ ⟨a1, a2, a3⟩
    dsimp only at a1 a2 a3
    subst a1
    unfold fX12_enough_l181
    dsimp only
    rw [if_pos (by omega)]
    exact ⟨_, rfl, a2, a3⟩
theorem m_softE {m : zMem} {o : Nat} {f : Nat → Int} (ho : 329 ≤ o ∧ o ≤ 945) (h6 : -1 ≤ m (51, 0, 0) (o + 6) ∧ m (51, 0, 0) (o + 6) ≤ 1) (h2 : 0 ≤ m (51, 0, 0) (o + 2) ∧ m (51, 0, 0) (o + 2) ≤ 1) (hf : ∀ k, k < 39 → f k = if m (51, 0, 0) (o + 6) = m (51, 0, 0) (o + 2) then m (51, 0, 0) (o + 10 + k) else 0) (a b d x : Int) : ∃ i' K, zlp (fX12_enough_l87 a b d (o : Int) x) 5000 (0, m) = some (i', K) ∧ (∀ r, r ≠ (58, 0, 0) → K r = m r) ∧ ∀ k, k < 39 → K (58, 0, 0) k = f k := by
  have hh := zlp_inv (body := fX12_enough_l87 a b d (o : Int) x) (fun j st => st.1 = (j : Int) ∧ (∀ r, r ≠ (58, 0, 0) → st.2 r = m r) ∧ ∀ k, k < j → st.2 (58, 0, 0) k = f k) (fun st => (∀ r, r ≠ (58, 0, 0) → st.2 r = m r) ∧ ∀ k, k < 39 → st.2 (58, 0, 0) k = f k) 39 (N := 5000) (by decide) (s0 := (0, m)) ⟨rfl, fun _ _ => rfl, fun k hk => absurd hk (Nat.not_lt_zero k)⟩ ?_ ?_
  · obtain ⟨⟨i', K⟩, hr, r1, r2⟩ := hh
    exact ⟨i', K, hr, r1, r2⟩
  · rintro j ⟨t1, K⟩ hj ⟨a1, a2, a3⟩
    dsimp only at a1 a2 a3
    subst a1
    have x2 : ix ((o : Int) + 2) = o + 2 := io o 2 (by omega)
    have z2 : zin ((o : Int) + 2) 3099 := zo o 2 (by omega)
    have x6 : ix ((o : Int) + 6) = o + 6 := io o 6 (by omega)
    have z6 : zin ((o : Int) + 6) 3099 := zo o 6 (by omega)
    have e51 : K (51, 0, 0) = m (51, 0, 0) := a2 _ (by simp)
    have xj : ix (j : Int) = j := ix_nat (by omega)
    have xo : ix ((o : Int) + 10 + (j : Int)) = o + 10 + j := by rw [ix_of (by omega) (by omega)]; omega
    have zo' : zin ((o : Int) + 10 + (j : Int)) 3099 := zin_of (by omega) (by omega) (by decide)
    have zj : zin (j : Int) 39 := zin_nat hj (by decide)
    have w6 : w32 (m (51, 0, 0) (o + 6)) = m (51, 0, 0) (o + 6) := w32_id (by omega) (by omega)
    have w2 : w32 (m (51, 0, 0) (o + 2)) = m (51, 0, 0) (o + 2) := w32_id (by omega) (by omega)
    have fj := hf j hj
    unfold fX12_enough_l87 fX12_enough_b87_139
    simp only [zlet_eq, e51, x2, x6, if_pos z2, if_pos z6, w2, w6, xj, xo, if_pos zo', if_pos zj]
    rw [if_neg (by rw [w32_n (by omega)]; omega)]
    have fin : ∀ z, z = f j → (∀ r, r ≠ (58, 0, 0) → zst K (58, 0, 0) j z r = m r) ∧ ∀ k, k < j + 1 → zst K (58, 0, 0) j z (58, 0, 0) k = f k := fun z hz => ⟨fun r hr => by rw [zst_nq hr, a2 r hr], fun k hk => by
      by_cases c0 : k = j
      · subst c0; rw [zst_at, hz]
      · rw [zst_nk c0]; exact a3 k (by omega)⟩
    by_cases c0 : m (51, 0, 0) (o + 6) = m (51, 0, 0) (o + 2)
    · rw [if_pos c0] at fj ⊢
      exact Or.inl ⟨_, rfl, by dsimp only; omega, fin _ fj.symm⟩
    · rw [if_neg c0] at fj ⊢
      exact Or.inl ⟨_, rfl, by dsimp only; omega, fin _ fj.symm⟩
  · rintro ⟨t1, K⟩ ⟨a1, a2, a3⟩
    dsimp only at a1 a2 a3
    subst a1
    unfold fX12_enough_l87
    dsimp only
    rw [if_pos (by decide)]
    exact ⟨_, rfl, a2, a3⟩
section
variable {n : Int} {e : Nat → Prop} {c m : zMem}
theorem r_enoughL (hRC : RT c m) {p o room len w t : Nat} {s l : Int} (hp : p < 8) (ho : o = 329 + 88 * p) (er : m (51, 0, 0) 4 = room) (e7 : c (7, 1, 0) 4 = room) (r1 : 16 ≤ room) (r2 : room ≤ 48) (el : m (51, 0, 0) 5 = l) (e75 : c (7, 1, 0) 5 = l) (hl : 1 ≤ l ∧ l ≤ 9999) (hlen : len ≤ 60) (hs : 1 ≤ s ∧ s ≤ 60) (w1 : w < 2048) (et : m (51, 0, 0) (o + 3) = t) (ec : c (10, 1, p) 2 = t) (ht : t ≤ 8) (a : Int) : ∀ (r j N N' : Nat) (C M : zMem) (f : Nat → Int), j + r = 8 → sC c C → sM m M → pbd f → (∀ k, k < 39 → C (14, 0, 0) k = f k) → (∀ k, k < 39 → M (58, 0, 0) k = f k) → r < N → r < N' → ∃ res C2 M2, zbr (zlp (fX11_enough_l129 a (len : Int) s p (w : Int)) N ((j : Int), C)) (fun x11 => some ((-1), x11.2)) (fun z => z) = some (res, C2) ∧ zbr (zlp (fX12_enough_l149 a (len : Int) s (o : Int) (w : Int)) N' (1 + (j : Int), M)) (fun x27 => some ((-1), x27.2)) (fun z => z) = some (res, M2) ∧ sC c C2 ∧ sM m M2 := by
  intro r
  induction r with
  | zero =>
    intro j N N' C M f hj hC hM hf hCf hMf hN hN'
    refine ⟨-1, C, M, ?_, ?_, hC, hM⟩
    · rw [zlp_ex (by omega) (r := .inl ((j : Int), C)), zbr_inl]
      unfold fX11_enough_l129
      dsimp only
      rw [if_pos (by rw [w32_n (by omega)]; omega)]
    · rw [zlp_ex (by omega) (r := .inl (1 + (j : Int), M)), zbr_inl]
      unfold fX12_enough_l149
      dsimp only
      rw [if_pos (by rw [w32_id (by omega) (by omega)]; omega)]
  | succ r ih =>
    intro j N N' C M f hj hC hM hf hCf hMf hN hN'
    obtain ⟨k, rfl⟩ : ∃ n, N = n + 1 := ⟨N - 1, by omega⟩
    obtain ⟨k', rfl⟩ : ∃ n, N' = n + 1 := ⟨N' - 1, by omega⟩
    have v4 := pver_lt (t + j)
    have t3 : ((t : Int) + (j : Int)) % 4 = (((t + j) % 4 : Nat) : Int) := by omega
    have xt : ix (((t + j) % 4 : Nat) : Int) = (t + j) % 4 := ix_nat (by omega)
    have xw : ix (w : Int) = w := ix_nat (by omega)
    have C10 : C (10, 1, p) 2 = t := by rw [hC _ rfl]; exact ec
    have C74 : C (7, 1, 0) 4 = room := by rw [hC _ rfl]; exact e7
    have hRc := hRC.2.1.keep hC
    have hlay := s_lay hRc (room := room) (v := pver (t + j)) (len := len) r1 r2 v4 hlen
    have hsq := fun i => psq_rng (room := room) (pver (t + j)) i r1 r2
    have L14 : zmp C (20, 0, 0) len (psq room (pver (t + j))) (14, 0, 0) = C (14, 0, 0) := zmp_ne (by simp)
    have L75 : zmp C (20, 0, 0) len (psq room (pver (t + j))) (7, 1, 0) 5 = l := by rw [zmp_ne (by simp), hC _ rfl]; exact e75
    have L16 : zmp C (20, 0, 0) len (psq room (pver (t + j))) (16, 0, 0) w = (pcode w : Int) := by rw [zmp_ne (by simp)]; exact (hRC.1.keep hC).1 w w1
    obtain ⟨K, k1, k2, k3⟩ := c_addClean (c := zmp C (20, 0, 0) len (psq room (pver (t + j)))) (q := (14, 0, 0)) (w := w) (sq := psq room (pver (t + j))) (s := s) (l := l) (by simp) hlen (fun i hi => ⟨zmp_in hi, hsq i⟩) hs (by omega) (by rw [L14]; exact fun k hk => by rw [hCf k hk]; exact hf k hk)
    have hF : pbd (pad f (psq room (pver (t + j))) (fun i => psg (pcb w ((psq room (pver (t + j))) i).toNat) s) l len) := pad_rng (by omega) hf len
    have hK : ∀ k, k < 39 → K (14, 0, 0) k = pad f (psq room (pver (t + j))) (fun i => psg (pcb w ((psq room (pver (t + j))) i).toNat) s) l len k := fun k hk => by
      rw [k3, L14]
      exact pad_cg (fun k hk => hCf k hk) len (fun _ _ => rfl) k hk
    obtain ⟨b, C2, b1, b2, b3⟩ := s_bestWord hF (q := (14, 0, 0)) (by decide) (I := K) hK
    obtain ⟨J, j1, j2, j3⟩ := s_laysSending (m := M) (hRC.2.2.2.keep hM) (room := room) (v := pver (t + j)) (len := len) r1 r2 (by rw [hM _ rfl]; exact er) v4 hlen
    obtain ⟨i2, M2, q1, q2, q3⟩ := m_addClean (m := J) (f := f) (sq := psq room (pver (t + j))) (w := w) (s := s) (l := l) hlen w1 (fun i hi => ⟨j3 i hi, hsq i⟩) hs (by rw [j2 _ (by simp), hM _ rfl]; exact el) (by omega) hf (fun k hk => by rw [j2 _ (by simp)]; exact hMf k hk) a (o : Int) (1 + (j : Int))
    obtain ⟨b', M3, g1, g2, g3⟩ := s_bestNow hF (I := M2) q3
    have eb := pbest_one g2 b2
    subst eb
    obtain ⟨x, rfl, x1, -⟩ := b2
    have sC2 : sC c C2 := fun q hq => by rw [b3 q (kc_ne hq rfl) (kc_ne hq rfl) (kc_ne hq rfl) (kc_ne hq rfl) (kc_ne hq rfl), k2 q (kc_ne hq rfl), zmp_ne (kc_ne hq rfl), hC q hq]
    have sM3 : sM m M3 := fun q hq => by rw [g3 q (km_ne hq rfl) (km_ne hq rfl) (km_ne hq rfl) (km_ne hq rfl), q2 q (km_ne hq rfl), j2 q (km_ne hq rfl), hM q hq]
    have x3 : ix ((o : Int) + 3) = o + 3 := io o 3 (by omega)
    have z3 : zin ((o : Int) + 3) 3099 := zo o 3 (by omega)
    have M51 : M (51, 0, 0) (o + 3) = t := by rw [hM _ rfl]; exact et
    have ev : (t : Int) + (1 + (j : Int)) - 1 = ((t + j : Nat) : Int) := by omega
    have f1 : fX11_enough_l129 a (len : Int) s p (w : Int) ((j : Int), C) = if (x : Int) = (w : Int) then some (.inr (.inr ((j : Int) + 1, C2))) else some (.inl ((j : Int) + 1, C2)) := by
      unfold fX11_enough_l129
      simp only [C10, t3, xt, C74, zver_p]
      rw [if_neg (by rw [w32_n (by omega)]; omega), if_pos (zin_nat (show (t + j) % 4 < 4 by omega) (by decide)), hlay, zb_some, if_pos (zin_nat w1 (by decide)), xw, L16, L75, k1, zb_some, b1, zb_some]
      dsimp only
      rw [w32_n (show x < 2147483648 by omega), w32_n (show w < 2147483648 by omega)]
    have f2 : fX12_enough_l149 a (len : Int) s (o : Int) (w : Int) (1 + (j : Int), M) = if (x : Int) = (w : Int) then some (.inr (.inr (1 + (j : Int), M3))) else some (.inl (1 + (j : Int) + 1, M3)) := by
      unfold fX12_enough_l149
      simp only [x3, M51, ev]
      rw [if_neg (by rw [w32_id (by omega) (by omega)]; omega), if_pos z3, m_versionOf (show t + j < 1000 by omega), zb_some, j1, zb_some, q1, zb_some]
      dsimp only
      rw [g1, zb_some]
      dsimp only
      rw [w32_n (show x < 2147483648 by omega), w32_n (show w < 2147483648 by omega)]
    by_cases cx : (x : Int) = (w : Int)
    · rw [if_pos cx] at f1 f2
      rw [zlp_out f1, zlp_out f2, zbr_inr, zbr_inr]
      exact ⟨_, C2, M3, rfl, by rw [Int.add_comm 1 (j : Int)], sC2, sM3⟩
    · rw [if_neg cx] at f1 f2
      rw [zlp_in f1, zlp_in f2, show (j : Int) + 1 = ((j + 1 : Nat) : Int) by omega, show 1 + (j : Int) + 1 = 1 + ((j + 1 : Nat) : Int) by omega]
      exact ih (j + 1) k k' C2 M3 _ (by omega) sC2 sM3 hF (fun k hk => by rw [b3 _ (by decide) (by decide) (by decide) (by decide) (by decide)]; exact hK k hk) (fun k hk => by rw [g3 _ (by decide) (by decide) (by decide) (by decide)]; exact q3 k hk) (by omega) (by omega)
theorem Q_enough (h : RW n e c m) {a l s : Int} (ha : i32 a) (hl : i32 l) (hs : i32 s) : okC n e (fX11_enough a l s c) (fX12_enough a l s m) := by
  have h0 := h.th
  have ws : w32 s = s := w32_id hs.1 hs.2
  unfold okC fX11_enough fX12_enough fX11_enough_b112
  simp only [zlet_eq, ws]
  generalize zst m (50, 0, 0) 0 0 = m0 at h0 ⊢
  have hf := h0.mo (show n ≤ n + 60 by omega)
  obtain ⟨pn, n1, n2, n3, n4⟩ := h0.pn
  rw [v_isProcess n2 n3 ha, vz, m_isProcess n2 n4 ha, vz]
  by_cases c0 : 0 ≤ a ∧ a < (pn : Int)
  · rw [if_pos c0, if_pos (show 0 ≤ a ∧ a ≤ (pn : Int) - 1 by omega), v_isLength hl, vz, m_isLength hl, vz]
    by_cases c1 : 1 ≤ l ∧ l ≤ 60
    · rw [if_pos c1, if_pos c1, v_within hs (by decide) (by decide), vz]
      by_cases c2 : 1 ≤ s ∧ s ≤ 60
      · rw [if_neg (show ¬ s < 1 by omega), if_pos c2.2, if_pos c2]
        obtain ⟨p, rfl⟩ := nat_of c0.1
        obtain ⟨len, rfl⟩ := nat_of (show 0 ≤ l by omega)
        have p8 : p < 8 := by omega
        have xp : ix (p : Int) = p := ix_nat (by omega)
        obtain ⟨⟨a1, a2, a3⟩, ⟨a4, a5, a6⟩, ⟨a7, a8, a9⟩, -, -, -, b7, -⟩ := h0.2.1.2.2.2.2.1 p p8
        obtain ⟨⟨r1, r2, r3⟩, -, -, -, r5⟩ := h0.2.1.2.2.2.2.2 p p8
        have hs15 := h0.2.1.2.1.2.2.2.2.2.2.1
        generalize ho : 329 + 88 * p = o at *
        have x0 : ix ((o : Int) + 0) = o := io o 0 (by omega)
        have z0 : zin ((o : Int) + 0) 3099 := zo o 0 (by omega)
        have x1 : ix ((o : Int) + 1) = o + 1 := io o 1 (by omega)
        have z1 : zin ((o : Int) + 1) 3099 := zo o 1 (by omega)
        have w0 : w32 (m0 (51, 0, 0) o) = m0 (51, 0, 0) o := w32_id (by omega) (by omega)
        have w6 : w32 (m0 (51, 0, 0) (o + 6)) = m0 (51, 0, 0) (o + 6) := w32_id (by omega) (by omega)
        have w2 : w32 (m0 (51, 0, 0) (o + 2)) = m0 (51, 0, 0) (o + 2) := w32_id (by omega) (by omega)
        simp only [m_own ho.symm, zb_some, x0, if_pos z0, x1, if_pos z1, xp, a1, a4, r1, w0, w6, w2]
        rw [if_pos (zin_nat p8 (by decide))]
        by_cases c3 : m0 (51, 0, 0) o = -1
        · rw [if_pos c3, if_pos c3]; exact ⟨_, _, _, rfl, rfl, hf⟩
        · rw [if_neg c3, if_neg c3]
          obtain ⟨d1, d2, -⟩ := b7 c3
          obtain ⟨x, ex⟩ := nat_of (show 0 ≤ m0 (51, 0, 0) o by omega)
          have x8 : x < 8 := by omega
          have hk := (hs15 x x8).1 (by rw [← ex]; exact d1)
          obtain ⟨y, ey⟩ := nat_of hk.2.1.1
          have y32 : y < 32 := by omega
          have w1 : pww (x * 32 + y) < 2048 := pww_lt (by omega)
          rw [ex] at d2
          have d2' : m0 (51, 0, 0) (o + 1) = y := by rw [d2]; exact ey
          obtain ⟨p0, -, -, -, -, ⟨p5a, p5b⟩, ⟨p6a, p6b⟩, -⟩ := h0.2.1.1
          obtain ⟨room, er⟩ := nat_of (show 0 ≤ m0 (51, 0, 0) 4 by omega)
          obtain ⟨t, et⟩ := nat_of a8
          -- the soft numbers to begin with
          have hex : ∃ C1 : zMem, (if m0 (51, 0, 0) (o + 6) = m0 (51, 0, 0) (o + 2) then zb (fX7_wordOn 1 1 p (zcp c (41, 1, p) 0 (14, 0, 0) 0 39)) (fun r5 => zbr (zlp (fX11_enough_l129 (p : Int) (len : Int) s p r5) 5000 (0, zcp c (41, 1, p) 0 (14, 0, 0) 0 39)) (fun x11 => some ((-1), x11.2)) (fun z => z)) else zb (fJ7_fill_53178 (14, 0, 0) 39 0 c) (fun r12 => zb (fX7_wordOn 1 1 p r12) (fun r5 => zbr (zlp (fX11_enough_l129 (p : Int) (len : Int) s p r5) 5000 (0, r12)) (fun x11 => some ((-1), x11.2)) (fun z => z)))) = zbr (zlp (fX11_enough_l129 (p : Int) (len : Int) s p (pww (x * 32 + y) : Int)) 5000 (0, C1)) (fun x11 => some ((-1), x11.2)) (fun z => z) ∧ (∀ q, q ≠ (14, 0, 0) → C1 q = c q) ∧ ∀ k, k < 39 → C1 (14, 0, 0) k = if m0 (51, 0, 0) (o + 6) = m0 (51, 0, 0) (o + 2) then m0 (51, 0, 0) (o + 10 + k) else 0 := by
            have hwo : ∀ C1 : zMem, (∀ q, q ≠ (14, 0, 0) → C1 q = c q) → fX7_wordOn 1 1 p C1 = some (pww (x * 32 + y) : Int) := fun C1 hC1 => c_wordOn (by rw [hC1 _ (by simp), a1, ex]) x8 (by rw [hC1 _ (by simp), hk.1]; exact ey) y32
            by_cases c4 : m0 (51, 0, 0) (o + 6) = m0 (51, 0, 0) (o + 2)
            · have hz : ∀ q, q ≠ (14, 0, 0) → zcp c (41, 1, p) 0 (14, 0, 0) 0 39 q = c q := fun q hq => zcp_nq hq
              refine ⟨zcp c (41, 1, p) 0 (14, 0, 0) 0 39, ?_, hz, fun k hk => ?_⟩
              · rw [if_pos c4, hwo _ hz, zb_some]
              · rw [if_pos c4, zcp_ap, if_pos ⟨rfl, by omega, by omega⟩, show 0 + (k - 0) = k by omega]
                exact (r5 k hk).1
            · have hz : ∀ q, q ≠ (14, 0, 0) → zmp c (14, 0, 0) 39 (fun _ => 0) q = c q := fun q hq => zmp_ne hq
              refine ⟨zmp c (14, 0, 0) 39 (fun _ => 0), ?_, hz, fun k hk => ?_⟩
              · rw [if_neg c4, s_fillI _ (by decide), zb_some, hwo _ hz, zb_some]
              · rw [if_neg c4, zmp_in hk]
          obtain ⟨C1, y1, y2, y3⟩ := hex
          obtain ⟨i1, M1, q1, q2, q3⟩ := m_softE (m := m0) (o := o) (f := fun k => if m0 (51, 0, 0) (o + 6) = m0 (51, 0, 0) (o + 2) then m0 (51, 0, 0) (o + 10 + k) else 0) (by omega) ⟨r2, r3⟩ (by omega) (fun _ _ => rfl) (p : Int) (len : Int) s (pww (x * 32 + y) : Int)
          have hF : pbd (fun k => if m0 (51, 0, 0) (o + 6) = m0 (51, 0, 0) (o + 2) then m0 (51, 0, 0) (o + 10 + k) else 0) := fun k hk => by
            dsimp only
            by_cases c4 : m0 (51, 0, 0) (o + 6) = m0 (51, 0, 0) (o + 2)
            · rw [if_pos c4]; exact (r5 k hk).2
            · rw [if_neg c4]; decide
          obtain ⟨res, C2, M2, g1, g2, g3, g4⟩ := r_enoughL (c := c) (m := m0) h0.1 (p := p) (o := o) (room := room) (len := len) (w := pww (x * 32 + y)) (t := t) (s := s) (l := m0 (51, 0, 0) 5) p8 ho.symm er (by rw [p0 4 (by decide), er]) (by omega) (by omega) rfl (p0 5 (by decide)) ⟨p6a, p6b⟩ (by omega) c2 w1 et (by rw [a7, et]) (by omega) (p : Int) 8 0 5000 5000 C1 M1 _ (by decide) (fun q hq => y2 q (kc_ne hq rfl)) (fun q hq => q2 q (km_ne hq rfl)) hF y3 q3 (by decide) (by decide)
          have g1' : zbr (zlp (fX11_enough_l129 (p : Int) (len : Int) s p (pww (x * 32 + y) : Int)) 5000 (0, C1)) (fun x11 => some ((-1), x11.2)) (fun z => z) = some (res, C2) := g1
          have g2' : zbr (zlp (fX12_enough_l149 (p : Int) (len : Int) s (o : Int) (pww (x * 32 + y) : Int)) 5000 (1, M1)) (fun x27 => some ((-1), x27.2)) (fun z => z) = some (res, M2) := g2
          rw [ex, d2', s_wordOf x8 y32, zb_some, q1, zb_some]
          refine ⟨res, C2, M2, ?_, g2', h0.kp (by omega) g3 g4⟩
          rw [← g1', ← y1]
      · rw [if_neg c2]
        by_cases c3 : s < 1
        · rw [if_pos c3]; exact ⟨_, _, _, rfl, rfl, hf⟩
        · rw [if_neg c3, if_neg (by omega)]; exact ⟨_, _, _, rfl, rfl, hf⟩
    · rw [if_neg c1, if_neg c1]; exact ⟨_, _, _, rfl, rfl, hf⟩
  · rw [if_neg c0, if_neg (show ¬ (0 ≤ a ∧ a ≤ (pn : Int) - 1) by omega)]; exact ⟨_, _, _, rfl, rfl, hf⟩
end
