/-! SENDS AND BURSTS, public -/
theorem zlp_ex {σ ρ : Type} {body : σ → Option (σ ⊕ ρ)} {s : σ} {r : ρ} {N : Nat} (hN : 0 < N) (h : body s = some (.inr r)) : zlp body N s = some r := by
  obtain ⟨n, rfl⟩ : ∃ n, N = n + 1 := ⟨N - 1, by omega⟩
  exact zlp_out h
theorem zb_none {α β : Type} (F : α → Option β) : zb none F = none := rfl
theorem mod_s {i k : Nat} (hk : 0 < k) : (i + 1) % k = if k ≤ i % k + 1 then 0 else i % k + 1 := by
  have h := Nat.mod_lt i hk
  by_cases c : k ≤ i % k + 1
  · rw [if_pos c, Nat.add_mod]
    by_cases k1 : k = 1
    · subst k1; omega
    · rw [Nat.mod_eq_of_lt (show 1 < k by omega), show i % k + 1 = k by omega, Nat.mod_self]
  · rw [if_neg c, Nat.add_mod]
    rw [Nat.mod_eq_of_lt (show 1 < k by omega), Nat.mod_eq_of_lt (by omega)]
theorem c_valsT {c : zMem} {t len k : Nat} (ht : t < 4) (hlen : len ≤ 60) (hk : 0 < k ∧ k ≤ 60) (a : Int) : ∃ x i' K, zlp (fX11_send_l107 a (len : Int) (t : Int) (k : Int)) 5000 (0, 0, c) = some (x, i', K) ∧ (∀ q, q ≠ (28, 0, 0) → K q = c q) ∧ ∀ i, i < len → K (28, 0, 0) i = c (30, 0, t) (i % k) := by
  have hh := zlp_inv (body := fX11_send_l107 a (len : Int) (t : Int) (k : Int)) (fun j st => st.1 = ((j % k : Nat) : Int) ∧ st.2.1 = (j : Int) ∧ (∀ q, q ≠ (28, 0, 0) → st.2.2 q = c q) ∧ ∀ i, i < j → st.2.2 (28, 0, 0) i = c (30, 0, t) (i % k)) (fun st => (∀ q, q ≠ (28, 0, 0) → st.2.2 q = c q) ∧ ∀ i, i < len → st.2.2 (28, 0, 0) i = c (30, 0, t) (i % k)) len (N := 5000) (by omega) (s0 := (0, 0, c)) ⟨by rw [Nat.zero_mod]; rfl, rfl, fun _ _ => rfl, fun k hk => absurd hk (Nat.not_lt_zero k)⟩ ?_ ?_
  · obtain ⟨⟨x, i', K⟩, hr, r1⟩ := hh
    exact ⟨x, i', K, hr, r1⟩
  · rintro j ⟨t0, t1, K⟩ hj ⟨a0, a1, a2, a3⟩
    dsimp only at a0 a1 a2 a3
    subst a0 a1
    have hm := Nat.mod_lt j hk.1
    have xj : ix (j : Int) = j := ix_nat (by omega)
    have xt : ix (t : Int) = t := ix_nat (by omega)
    have xm : ix ((j % k : Nat) : Int) = j % k := ix_nat (by omega)
    have e30 : K (30, 0, t) (j % k) = c (30, 0, t) (j % k) := by rw [a2 _ (by simp)]
    unfold fX11_send_l107 fX11_send_b107_157
    simp only [zlet_eq, xj, xt, xm, e30]
    rw [if_neg (by rw [w32_n (by omega), w32_n (by omega)]; omega), if_neg (by rw [w32_n (by omega)]; omega), if_pos (zin_nat ht (by decide)), if_pos (zin_nat (show j % k < 60 by omega) (by decide)), if_pos (zin_nat (show j < 60 by omega) (by decide)), w32_n (show k < 2147483648 by omega), w32_id (z := ((j % k : Nat) : Int) + 1) (by omega) (by omega)]
    have fin : (∀ q, q ≠ (28, 0, 0) → zst K (28, 0, 0) j (c (30, 0, t) (j % k)) q = c q) ∧ ∀ i, i < j + 1 → zst K (28, 0, 0) j (c (30, 0, t) (j % k)) (28, 0, 0) i = c (30, 0, t) (i % k) := ⟨fun q hq => by rw [zst_nq hq, a2 q hq], fun i hi => by
      by_cases c0 : i = j
      · subst c0; rw [zst_at]
      · rw [zst_nk c0]; exact a3 i (by omega)⟩
    by_cases c0 : k ≤ j % k + 1
    · rw [if_pos (by omega)]
      exact Or.inl ⟨_, rfl, by dsimp only; rw [mod_s hk.1, if_pos c0]; rfl, by dsimp only; omega, fin⟩
    · rw [if_neg (by omega)]
      exact Or.inl ⟨_, rfl, by dsimp only; rw [mod_s hk.1, if_neg c0]; omega, by dsimp only; omega, fin⟩
  · rintro ⟨t0, t1, K⟩ ⟨a0, a1, a2, a3⟩
    dsimp only at a0 a1 a2 a3
    subst a1
    unfold fX11_send_l107
    dsimp only
    rw [if_pos (by omega)]
    exact ⟨_, rfl, a2, a3⟩
theorem m_valsT {m : zMem} {t len k : Nat} (ht : t < 4) (hlen : len ≤ 60) (hk : 0 < k ∧ k ≤ 60) (a : Int) : ∃ i' K, zlp (fX12_send_l95 a (len : Int) (t : Int) (k : Int)) 5000 (0, m) = some (i', K) ∧ (∀ q, q ≠ (63, 0, 0) → K q = m q) ∧ ∀ i, i < len → K (63, 0, 0) i = m (63, 0, 0) i + m (67, 0, 0) (60 * t + i % k) := by
  have hh := zlp_inv (body := fX12_send_l95 a (len : Int) (t : Int) (k : Int)) (fun j st => st.1 = (j : Int) ∧ (∀ q, q ≠ (63, 0, 0) → st.2 q = m q) ∧ (∀ i, i < j → st.2 (63, 0, 0) i = m (63, 0, 0) i + m (67, 0, 0) (60 * t + i % k)) ∧ ∀ i, j ≤ i → st.2 (63, 0, 0) i = m (63, 0, 0) i) (fun st => (∀ q, q ≠ (63, 0, 0) → st.2 q = m q) ∧ ∀ i, i < len → st.2 (63, 0, 0) i = m (63, 0, 0) i + m (67, 0, 0) (60 * t + i % k)) len (N := 5000) (by omega) (s0 := (0, m)) ⟨rfl, fun _ _ => rfl, fun k hk => absurd hk (Nat.not_lt_zero k), fun _ _ => rfl⟩ ?_ ?_
  · obtain ⟨⟨i', K⟩, hr, r1⟩ := hh
    exact ⟨i', K, hr, r1⟩
  · rintro j ⟨t1, K⟩ hj ⟨a1, a2, a3, a4⟩
    dsimp only at a1 a2 a3 a4
    subst a1
    have hm := Nat.mod_lt j hk.1
    have xj : ix (j : Int) = j := ix_nat (by omega)
    have er : irem (j : Int) (k : Int) = ((j % k : Nat) : Int) := by rw [irem_of (by omega) (by omega) (by omega) (by omega), Int.natCast_emod]
    have x60 : ix (60 * (t : Int) + ((j % k : Nat) : Int)) = 60 * t + j % k := by rw [ix_of (by omega) (by omega)]; omega
    have e67 : K (67, 0, 0) (60 * t + j % k) = m (67, 0, 0) (60 * t + j % k) := by rw [a2 _ (by simp)]
    have e63 := a4 j (by omega)
    unfold fX12_send_l95
    simp only [zlet_eq, xj, er, x60, e67, e63]
    rw [if_neg (by rw [w32_n (by omega), w32_n (by omega)]; omega), if_neg (by rw [w32_n (by omega)]; omega), if_pos (zin_nat (show j < 60 by omega) (by decide)), if_pos (by rw [w32_n (by omega)]; omega), if_pos (zin_of (by omega) (by omega) (by decide))]
    refine Or.inl ⟨_, rfl, by dsimp only; omega, fun q hq => by dsimp only; rw [zst_nq hq, a2 q hq], fun i hi => ?_, fun i hi => by dsimp only; rw [zst_nk (by omega)]; exact a4 i (by omega)⟩
    dsimp only
    by_cases c0 : i = j
    · subst c0; rw [zst_at]
    · rw [zst_nk c0]; exact a3 i (by omega)
  · rintro ⟨t1, K⟩ ⟨a1, a2, a3, a4⟩
    dsimp only at a1 a2 a3 a4
    subst a1
    unfold fX12_send_l95
    dsimp only
    rw [if_pos (by omega)]
    exact ⟨_, rfl, a2, a3⟩
section
variable {n : Int} {e : Nat → Prop} {c m : zMem}
/-- a send that is able, with a noise that is laid -/
theorem r_sendB (h : RW n e c m) (hn : n ≤ 100000000) {p len : Nat} {t k0 : Int} {v : Nat → Int} {c1 : zMem} (hp : p < 8) (hlen : len ≤ 60) (hpn : (p : Int) < m (51, 0, 0) 0) (hask : m (51, 0, 0) (329 + 88 * p + 4) = 0) (hab : m (51, 0, 0) (329 + 88 * p) = -1 → m (51, 0, 0) 30 ≤ 0 → 0 < m (51, 0, 0) 7 ∧ (m (51, 0, 0) 28 - m (51, 0, 0) 29) % 8 < m (51, 0, 0) 1) (hc : ∀ q, q ≠ (28, 0, 0) → c1 q = c q) (hv : ∀ i, i < len → c1 (28, 0, 0) i = v i ∧ -300 ≤ v i ∧ v i ≤ 300) (hL : ∀ M : zMem, M (67, 0, 0) = m (67, 0, 0) → ∃ i' K, zlp (fX12_send_l95 (p : Int) (len : Int) t k0) 5000 (0, M) = some (i', K) ∧ (∀ q, q ≠ (63, 0, 0) → K q = M q) ∧ ∀ i, i < len → K (63, 0, 0) i = M (63, 0, 0) i + v i) : ∃ r c' m', zb (fX0_transmit 1 (p : Int) (len : Int) 1 c1) (fun r10 => some (r10.1, r10.2)) = some (r, c') ∧ zb (fX12_beginsSend (p : Int) (len : Int) m) (fun r6 => fX12_send_b90 (p : Int) (len : Int) t k0 r6) = some (r, m') ∧ RW (n + 60) e c' m' := by
  obtain ⟨M1, l1, l2, l3⟩ := r_trans (L := 1) (c := c1) (m := m) (v := v) (pass := 1) hp rfl (h.2.1.cc (fun r p' a1 a2 a3 => hc _ (by simp [a3]))) (by omega) (h.1.kp (hc _ (by simp)) (hc _ (by simp)) (hc _ (by simp)) (hc _ (by simp)) rfl rfl) hlen hpn hask hab hv (Or.inr rfl)
  obtain ⟨i', K, k1, k2, k3⟩ := hL M1 (l2.1 _ rfl)
  obtain ⟨r, c', m', t1, t2, t3, t4, t5, t6, t7, t8⟩ := l3 K (fun q a1 a2 => k2 q a2) k3
  generalize ho : 329 + 88 * p = o at *
  have x5 : ix ((o : Int) + 5) = o + 5 := io o 5 (by omega)
  have z5 : zin ((o : Int) + 5) 3099 := zo o 5 (by omega)
  have x8 : ix ((o : Int) + 8) = o + 8 := io o 8 (by omega)
  have z8 : zin ((o : Int) + 8) 3099 := zo o 8 (by omega)
  have hb := t3.2.2.2.2.1 p hp
  rw [ho] at hb
  obtain ⟨-, -, -, -, ⟨b1, b2, b3⟩, -⟩ := hb
  have w5 : w32 (m' (51, 0, 0) (o + 5)) = m' (51, 0, 0) (o + 5) := w32_id (by omega) (by omega)
  refine ⟨r, c', m', ?_, ?_, h.st (by omega) (t3.mo (by omega)) (fun q hq => ?_) ⟨fun q hq => t5 q (ko_kn hq) (ko_ne hq rfl), fun k hk => t7 k (by unfold G0; omega)⟩⟩
  · rw [t1, zb_some]
  · unfold fX12_send_b90
    rw [l1, zb_some, k1, zb_some]
    dsimp only
    rw [t2, zb_some]
    simp only [m_own ho.symm, zb_some, x5, x8, if_pos z5, if_pos z8, w5]
    by_cases c5 : m' (51, 0, 0) (o + 5) = 1
    · rw [if_pos c5] at t8 ⊢; rw [t8]
    · rw [if_neg c5] at t8 ⊢; rw [t8]
  · rw [t4 q (kl_ka hq).1 (kl_ka hq).2, hc q (kl_ne hq rfl)]
theorem Q_send (h : RW n e c m) (hn : n ≤ 100000000) {a l t : Int} (ha : i32 a) (hl : i32 l) (ht : i32 t) : okC n e (fX11_send a l t c) (fX12_send a l t m) := by
  have h0 := h.th
  have wt : w32 t = t := w32_id ht.1 ht.2
  unfold okC fX11_send fX12_send fX11_send_b50 fX12_send_b58 fX11_send_b92 fX0_quiet
  simp only [zlet_eq, wt]
  generalize zst m (50, 0, 0) 0 0 = m0 at h0 ⊢
  have hf := h0.mo (show n ≤ n + 60 by omega)
  obtain ⟨pn, n1, n2, n3, n4⟩ := h0.pn
  have e71 : c (7, 1, 0) 1 = m0 (51, 0, 0) 1 := h0.2.1.1.1 1 (by decide)
  rw [v_isProcess n2 n3 ha, vz, m_isProcess n2 n4 ha, vz]
  by_cases c0 : 0 ≤ a ∧ a < (pn : Int)
  · rw [if_pos c0, if_pos (show 0 ≤ a ∧ a ≤ (pn : Int) - 1 by omega), v_within ht (by decide) (by decide), vz]
    by_cases c1 : -1 ≤ t ∧ t ≤ 3
    · rw [if_neg (show ¬ t < -1 by omega), if_pos (show t < 4 by omega), if_pos c1, v_isLength hl, vz, m_isLength hl, vz]
      by_cases c2 : 1 ≤ l ∧ l ≤ 60
      · rw [if_pos c2, if_pos c2]
        obtain ⟨p, rfl⟩ := nat_of c0.1
        obtain ⟨len, rfl⟩ := nat_of (show 0 ≤ l by omega)
        have p8 : p < 8 := by omega
        obtain ⟨b, b1, b2, b3⟩ := r_able (L := 1) p8 rfl h0.2.1
        rw [s_fillI _ (by decide), zb_some, zb_some, e71, b1, b2]
        simp only [zb_some]
        have hz28 : ∀ q, q ≠ (28, 0, 0) → zmp c (28, 0, 0) 60 (fun _ => 0) q = c q := fun q hq => zmp_ne hq
        -- no noise: a size of 0
        have hex : ∀ (w : Int) (M : zMem), zlp (fX12_send_l95 (p : Int) (len : Int) w 0) 5000 (0, M) = some (0, M) := fun w M => zlp_ex (by decide) (by
          unfold fX12_send_l95
          dsimp only
          by_cases q0 : w32 (len : Int) ≤ w32 0
          · rw [if_pos q0]
          · rw [if_neg q0, if_pos (by decide)])
        have hexc : ∀ (w : Int) (C : zMem), zlp (fX11_send_l107 (p : Int) (len : Int) w 0) 5000 (0, 0, C) = some (0, 0, C) := fun w C => zlp_ex (by decide) (by
          unfold fX11_send_l107
          dsimp only
          by_cases q0 : w32 (len : Int) ≤ w32 0
          · rw [if_pos q0]
          · rw [if_neg q0, if_pos (by decide)])
        have quiet : b = 1 → ∀ w : Int, ∃ r c' m', zb (zlp (fX11_send_l107 (p : Int) (len : Int) w 0) 5000 (0, 0, zmp c (28, 0, 0) 60 (fun _ => 0))) (fun x9 => zb (fX0_transmit 1 (p : Int) (len : Int) 1 x9.2.2) (fun r10 => some (r10.1, r10.2))) = some (r, c') ∧ zb (fX12_beginsSend (p : Int) (len : Int) m0) (fun r6 => fX12_send_b90 (p : Int) (len : Int) w 0 r6) = some (r, m') ∧ RW (n + 60) e c' m' := fun hb w => by
          obtain ⟨hask, hab⟩ := (b3.resolve_left (by omega)).2
          obtain ⟨r, c', m', y1, y2, y3⟩ := r_sendB h0 hn (p := p) (len := len) (t := w) (k0 := 0) (v := fun _ => 0) (c1 := zmp c (28, 0, 0) 60 (fun _ => 0)) p8 (by omega) (by rw [n4]; omega) hask hab hz28 (fun i hi => ⟨zmp_in (by omega), by decide⟩) (fun M _ => ⟨0, M, hex w M, fun _ _ => rfl, fun i _ => (Int.add_zero _).symm⟩)
          exact ⟨r, c', m', by rw [hexc, zb_some]; exact y1, y2, y3⟩
        by_cases ct : t = -1
        · simp only [if_pos ct]
          rcases b3 with rfl | ⟨rfl, b4⟩
          · rw [if_pos w32_0, if_pos w32_0]; exact ⟨_, _, _, rfl, rfl, hf⟩
          · rw [if_neg (show ¬ w32 1 = 0 by decide), if_neg (show ¬ w32 1 = 0 by decide)]
            exact quiet rfl t
        · obtain ⟨s, rfl⟩ := nat_of (show 0 ≤ t by omega)
          have s4 : s < 4 := by omega
          have xs : ix (s : Int) = s := ix_nat (by omega)
          have zs : zin (s : Int) 4 := zin_nat s4 (by decide)
          obtain ⟨f1, f2, f3⟩ := h0.2.2.2 s s4
          have w66 : w32 (m0 (66, 0, 0) s) = m0 (66, 0, 0) s := w32_id (by omega) (by omega)
          rw [c_missing s4 f1 f2, zb_some]
          simp only [if_neg ct, xs, if_pos zs, w66, f1]
          by_cases cm : m0 (66, 0, 0) s = -1
          · rw [if_pos cm, if_neg (by decide), if_pos cm]; exact ⟨_, _, _, rfl, rfl, hf⟩
          · rw [if_neg cm, if_pos w32_0, if_neg cm]
            rcases b3 with rfl | ⟨rfl, hask, hab⟩
            · rw [if_pos w32_0, if_pos w32_0]; exact ⟨_, _, _, rfl, rfl, hf⟩
            · rw [if_neg (show ¬ w32 1 = 0 by decide), if_neg (show ¬ w32 1 = 0 by decide)]
              obtain ⟨k, ek⟩ := nat_of (show 0 ≤ m0 (66, 0, 0) s by omega)
              have e66 : ∀ M : zMem, fX12_beginsSend (p : Int) (len : Int) m0 = some M → M (66, 0, 0) s = k := fun M hM => by
                obtain ⟨M1, g1, g2, -⟩ := r_trans (L := 1) (c := zmp c (28, 0, 0) 60 (fun _ => 0)) (m := m0) (v := fun _ => 0) (pass := 1) (len := len) p8 rfl (h0.2.1.cc (fun r p' a1 a2 a3 => hz28 _ (by simp [a3]))) (by omega) (h0.1.kp (hz28 _ (by simp)) (hz28 _ (by simp)) (hz28 _ (by simp)) (hz28 _ (by simp)) rfl rfl) (by omega) (by rw [n4]; omega) hask hab (fun i hi => ⟨zmp_in (by omega), by decide⟩) (Or.inr rfl)
                rw [hM] at g1
                cases g1
                rw [g2.1 _ rfl, ek]
              have emod : zb (fX12_beginsSend (p : Int) (len : Int) m0) (fun r6 => fX12_send_b90 (p : Int) (len : Int) (s : Int) (r6 (66, 0, 0) s) r6) = zb (fX12_beginsSend (p : Int) (len : Int) m0) (fun r6 => fX12_send_b90 (p : Int) (len : Int) (s : Int) (k : Int) r6) := by
                cases hM : fX12_beginsSend (p : Int) (len : Int) m0 with
                | none => rw [zb_none, zb_none]
                | some M => rw [zb_some, zb_some, e66 M hM]
              rw [emod, ek]
              by_cases k0 : k = 0
              · have e0 : (k : Int) = 0 := by omega
                rw [e0]
                exact quiet rfl (s : Int)
              · have hk : 0 < k ∧ k ≤ 60 := by omega
                obtain ⟨x, i', K, y1, y2, y3⟩ := c_valsT (c := zmp c (28, 0, 0) 60 (fun _ => 0)) (t := s) (len := len) (k := k) s4 (by omega) hk (p : Int)
                obtain ⟨r, c', m', z1, z2, z3⟩ := r_sendB h0 hn (p := p) (len := len) (t := (s : Int)) (k0 := (k : Int)) (v := fun i => m0 (67, 0, 0) (60 * s + i % k)) (c1 := K) p8 (by omega) (by rw [n4]; omega) hask hab (fun q hq => by rw [y2 q hq, hz28 q hq]) (fun i hi => by
                  have hm := Nat.mod_lt i hk.1
                  have g := f3 (i % k) (by omega)
                  rw [y3 i hi, hz28 _ (by simp)]
                  exact ⟨g.1, by omega, by omega⟩) (fun M hM => by
                  obtain ⟨i2, K2, w1, w2, w3⟩ := m_valsT (m := M) (t := s) (len := len) (k := k) s4 (by omega) hk (p : Int)
                  exact ⟨i2, K2, w1, w2, fun i hi => by rw [w3 i hi, hM]⟩)
                rw [y1, zb_some]
                exact ⟨r, c', m', z1, z2, z3⟩
      · rw [if_neg c2, if_neg c2]; exact ⟨_, _, _, rfl, rfl, hf⟩
    · rw [if_neg c1]
      by_cases c2 : t < -1
      · rw [if_pos c2]; exact ⟨_, _, _, rfl, rfl, hf⟩
      · rw [if_neg c2, if_neg (by omega)]; exact ⟨_, _, _, rfl, rfl, hf⟩
  · rw [if_neg c0, if_neg (show ¬ (0 ≤ a ∧ a ≤ (pn : Int) - 1) by omega)]; exact ⟨_, _, _, rfl, rfl, hf⟩
theorem c_burstL {c : zMem} {t k : Nat} (ht : t < 4) (hk : k ≤ 60) (a b d : Int) : ∃ i' K, zlp (fX11_burst_l73 a b d (t : Int) (k : Int)) 5000 (0, c) = some (i', K) ∧ (∀ q, q ≠ (28, 0, 0) → K q = c q) ∧ ∀ i, i < k → K (28, 0, 0) i = c (30, 0, t) i := by
  have hh := zlp_inv (body := fX11_burst_l73 a b d (t : Int) (k : Int)) (fun j st => st.1 = (j : Int) ∧ (∀ q, q ≠ (28, 0, 0) → st.2 q = c q) ∧ ∀ i, i < j → st.2 (28, 0, 0) i = c (30, 0, t) i) (fun st => (∀ q, q ≠ (28, 0, 0) → st.2 q = c q) ∧ ∀ i, i < k → st.2 (28, 0, 0) i = c (30, 0, t) i) k (N := 5000) (by omega) (s0 := (0, c)) ⟨rfl, fun _ _ => rfl, fun k hk => absurd hk (Nat.not_lt_zero k)⟩ ?_ ?_
  · obtain ⟨⟨i', K⟩, hr, r1⟩ := hh
    exact ⟨i', K, hr, r1⟩
  · rintro j ⟨t1, K⟩ hj ⟨a1, a2, a3⟩
    dsimp only at a1 a2 a3
    subst a1
    have xj : ix (j : Int) = j := ix_nat (by omega)
    have xt : ix (t : Int) = t := ix_nat (by omega)
    have e30 : K (30, 0, t) j = c (30, 0, t) j := by rw [a2 _ (by simp)]
    unfold fX11_burst_l73
    simp only [zlet_eq, xj, xt, e30]
    rw [if_neg (by rw [w32_n (by omega), w32_n (by omega)]; omega), if_pos (zin_nat ht (by decide)), if_pos (zin_nat (show j < 60 by omega) (by decide))]
    refine Or.inl ⟨_, rfl, by dsimp only; omega, fun q hq => by dsimp only; rw [zst_nq hq, a2 q hq], fun i hi => ?_⟩
    dsimp only
    by_cases c0 : i = j
    · subst c0; rw [zst_at]
    · rw [zst_nk c0]; exact a3 i (by omega)
  · rintro ⟨t1, K⟩ ⟨a1, a2, a3⟩
    dsimp only at a1 a2 a3
    subst a1
    unfold fX11_burst_l73
    dsimp only
    rw [if_pos (by omega)]
    exact ⟨_, rfl, a2, a3⟩
theorem m_burstL {m : zMem} {t k : Nat} (ht : t < 4) (hk : k ≤ 60) (a b d : Int) : ∃ i' K, zlp (fX12_burst_l92 a b d (t : Int) (k : Int)) 5000 (0, m) = some (i', K) ∧ (∀ q, q ≠ (63, 0, 0) → K q = m q) ∧ ∀ i, i < k → K (63, 0, 0) i = m (67, 0, 0) (60 * t + i) := by
  have hh := zlp_inv (body := fX12_burst_l92 a b d (t : Int) (k : Int)) (fun j st => st.1 = (j : Int) ∧ (∀ q, q ≠ (63, 0, 0) → st.2 q = m q) ∧ ∀ i, i < j → st.2 (63, 0, 0) i = m (67, 0, 0) (60 * t + i)) (fun st => (∀ q, q ≠ (63, 0, 0) → st.2 q = m q) ∧ ∀ i, i < k → st.2 (63, 0, 0) i = m (67, 0, 0) (60 * t + i)) k (N := 5000) (by omega) (s0 := (0, m)) ⟨rfl, fun _ _ => rfl, fun k hk => absurd hk (Nat.not_lt_zero k)⟩ ?_ ?_
  · obtain ⟨⟨i', K⟩, hr, r1⟩ := hh
    exact ⟨i', K, hr, r1⟩
  · rintro j ⟨t1, K⟩ hj ⟨a1, a2, a3⟩
    dsimp only at a1 a2 a3
    subst a1
    have xj : ix (j : Int) = j := ix_nat (by omega)
    have x60 : ix (60 * (t : Int) + (j : Int)) = 60 * t + j := by rw [ix_of (by omega) (by omega)]; omega
    have e67 : K (67, 0, 0) (60 * t + j) = m (67, 0, 0) (60 * t + j) := by rw [a2 _ (by simp)]
    unfold fX12_burst_l92
    simp only [zlet_eq, xj, x60, e67]
    rw [if_neg (by rw [w32_n (by omega), w32_n (by omega)]; omega), if_pos (zin_of (by omega) (by omega) (by decide)), if_pos (zin_nat (show j < 60 by omega) (by decide))]
    refine Or.inl ⟨_, rfl, by dsimp only; omega, fun q hq => by dsimp only; rw [zst_nq hq, a2 q hq], fun i hi => ?_⟩
    dsimp only
    by_cases c0 : i = j
    · subst c0; rw [zst_at]
    · rw [zst_nk c0]; exact a3 i (by omega)
  · rintro ⟨t1, K⟩ ⟨a1, a2, a3⟩
    dsimp only at a1 a2 a3
    subst a1
    unfold fX12_burst_l92
    dsimp only
    rw [if_pos (by omega)]
    exact ⟨_, rfl, a2, a3⟩
theorem Q_burst (h : RW n e c m) (hn : n ≤ 100000000) {a v g t : Int} (ha : i32 a) (hv : i32 v) (hg : i32 g) (ht : i32 t) : okC n e (fX11_burst a v g t c) (fX12_burst a v g t m) := by
  have h0 := h.th
  have wt : w32 t = t := w32_id ht.1 ht.2
  have wg : w32 g = g := w32_id hg.1 hg.2
  have wv : w32 v = v := w32_id hv.1 hv.2
  unfold okC fX11_burst fX12_burst
  simp only [zlet_eq, wt, wg, wv]
  generalize zst m (50, 0, 0) 0 0 = m0 at h0 ⊢
  have hf := h0.mo (show n ≤ n + 60 by omega)
  obtain ⟨pn, n1, n2, n3, n4⟩ := h0.pn
  rw [v_isProcess n2 n3 ha, vz, m_isProcess n2 n4 ha, vz]
  by_cases c0 : 0 ≤ a ∧ a < (pn : Int)
  · rw [if_pos c0, if_pos (show 0 ≤ a ∧ a ≤ (pn : Int) - 1 by omega), v_isVersion hv, vz, v_within hv (by decide) (by decide), vz]
    by_cases c1 : 0 ≤ v ∧ v ≤ 3
    · rw [if_pos c1, if_pos c1, v_within hg (by decide) (by decide), vz]
      by_cases c2 : 0 ≤ g ∧ g ≤ 1
      · rw [if_neg (show ¬ g < 0 by omega), if_neg (show ¬ 1 < g by omega), if_pos c2, v_isTray ht, vz, v_within ht (by decide) (by decide), vz]
        by_cases c3 : 0 ≤ t ∧ t ≤ 3
        · rw [if_pos c3, if_pos c3]
          obtain ⟨p, rfl⟩ := nat_of c0.1
          obtain ⟨s, rfl⟩ := nat_of c3.1
          obtain ⟨ve, rfl⟩ := nat_of c1.1
          have p8 : p < 8 := by omega
          have s4 : s < 4 := by omega
          have xs : ix (s : Int) = s := ix_nat (by omega)
          have zs : zin (s : Int) 4 := zin_nat s4 (by decide)
          obtain ⟨f1, f2, f3⟩ := h0.2.2.2 s s4
          have w66 : w32 (m0 (66, 0, 0) s) = m0 (66, 0, 0) s := w32_id (by omega) (by omega)
          rw [c_missing s4 f1 f2, zb_some]
          simp only [xs, if_pos zs, w66, f1]
          by_cases cm : m0 (66, 0, 0) s = -1
          · rw [if_pos cm, if_neg (by decide), if_pos cm]; exact ⟨_, _, _, rfl, rfl, hf⟩
          · rw [if_neg cm, if_pos w32_0, if_neg cm]
            by_cases ck : m0 (66, 0, 0) s = 0
            · rw [if_pos ck, if_pos ck]; exact ⟨_, _, _, rfl, rfl, hf⟩
            · rw [if_neg ck, if_neg ck]
              obtain ⟨k, ek⟩ := nat_of (show 0 ≤ m0 (66, 0, 0) s by omega)
              rw [ek]
              obtain ⟨p0, -, -, -, -, ⟨p5a, p5b⟩, -⟩ := h0.2.1.1
              obtain ⟨room, er⟩ := nat_of (show 0 ≤ m0 (51, 0, 0) 4 by omega)
              obtain ⟨i1, K, k1, k2, k3⟩ := c_burstL (c := c) (t := s) (k := k) s4 (by omega) (p : Int) (ve : Int) g
              obtain ⟨J, j1, j2, j3⟩ := s_laysSending (m := m0) h0.1.2.2.2 (room := room) (v := ve) (len := k) (by omega) (by omega) er (by omega) (by omega)
              obtain ⟨i2, M, l1, l2, l3⟩ := m_burstL (m := J) (t := s) (k := k) s4 (by omega) (p : Int) (ve : Int) g
              have hRK : iRing K := ⟨fun k hk => by rw [k2 _ (by simp)]; exact h0.1.2.1.1 k hk, fun k hk => by rw [k2 _ (by simp)]; exact h0.1.2.1.2 k hk⟩
              have hlay := s_lay (I := K) hRK (room := room) (v := ve) (len := k) (by omega) (by omega) (by omega) (by omega)
              have e7 : K (7, 1, 0) 4 = room := by rw [k2 _ (by simp), p0 4 (by decide), er]
              have M51 : M (51, 0, 0) = m0 (51, 0, 0) := by rw [l2 _ (by simp), j2 _ (by simp)]
              have hC : ∀ q, q ≠ (20, 0, 0) → q ≠ (28, 0, 0) → zmp K (20, 0, 0) k (psq room ve) q = c q := fun q a1 a2 => by rw [zmp_ne a1, k2 q a2]
              have hsq := fun i => psq_rng (room := room) ve i (by omega) (by omega)
              obtain ⟨r, c', m', t1, t2, t3, t4, t5, t6⟩ := r_hear (L := 1) (tg := g) (len := k) (c := zmp K (20, 0, 0) k (psq room ve)) (m := M) (sq := psq room ve) (v := fun i => m0 (67, 0, 0) (60 * s + i)) p8 rfl c2 (by rw [M51]; exact h0.2.1.cc (fun r p' a1 a2 a3 => hC _ (by simp [a2]) (by simp [a3]))) (by omega) (by omega) (fun i hi => ⟨zmp_in hi, hsq i⟩) (fun i hi => by rw [l2 _ (by simp), j3 i hi]) (fun i hi => by
                have g3 := f3 i (by omega)
                rw [zmp_ne (by simp), k3 i hi, g3.1]
                exact ⟨rfl, by omega, by omega⟩) (fun i hi => by rw [l3 i hi, j2 _ (by simp)])
              generalize ho : 329 + 88 * p = o at *
              have x8 : ix ((o : Int) + 8) = o + 8 := io o 8 (by omega)
              have z8 : zin ((o : Int) + 8) 3099 := zo o 8 (by omega)
              rw [k1, zb_some]
              dsimp only
              rw [e7, hlay, zb_some, t1, zb_some, j1, zb_some, l1, zb_some]
              dsimp only
              rw [t2, zb_some, m_own ho.symm, zb_some, if_pos z8, x8, ← t6]
              refine ⟨_, _, _, rfl, rfl, h0.st (by omega) (t3.mo (by omega)) (fun q hq => ?_) ⟨fun q hq => ?_, fun k hk => ?_⟩⟩
              · rw [t4 q (kl_ka hq).1 (fun hh => (kl_ka hq).2 (PH_lk hh)), hC q (kl_ne hq rfl) (kl_ne hq rfl)]
              · rw [t5.1 q (ko_kn hq), l2 q (ko_ne hq rfl), j2 q (ko_ne hq rfl)]
              · rw [t5.2 k (by unfold GH; omega), M51]
        · rw [if_neg c3, if_neg c3]; exact ⟨_, _, _, rfl, rfl, hf⟩
      · rw [if_neg c2]
        by_cases c3 : g < 0
        · rw [if_pos c3]; exact ⟨_, _, _, rfl, rfl, hf⟩
        · rw [if_neg c3, if_pos (by omega)]; exact ⟨_, _, _, rfl, rfl, hf⟩
    · rw [if_neg c1, if_neg c1]; exact ⟨_, _, _, rfl, rfl, hf⟩
  · rw [if_neg c0, if_neg (show ¬ (0 ≤ a ∧ a ≤ (pn : Int) - 1) by omega)]; exact ⟨_, _, _, rfl, rfl, hf⟩
end
