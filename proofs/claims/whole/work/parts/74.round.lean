/-! ROUNDS -/
theorem RK.cc {L : Nat} {B : Int} {c c' : zMem} {g : Nat → Int} (h : RK L B c g) (hc : ∀ r p, r ≠ 5 → r ≠ 20 → r ≠ 28 → c' (r, L, p) = c (r, L, p)) : RK L B c' g := by
  obtain ⟨g1, g2, g3, g4, g5, g6⟩ := h
  exact ⟨g1.cg (fun k _ => by rw [hc 7 0 (by decide) (by decide) (by decide)]) (fun _ _ => rfl), g2.cg (hc 8 0 (by decide) (by decide) (by decide)) (hc 33 0 (by decide) (by decide) (by decide)) (hc 34 0 (by decide) (by decide) (by decide)) (hc 35 0 (by decide) (by decide) (by decide)) (hc 36 0 (by decide) (by decide) (by decide)) (fun _ _ _ => rfl), g3.cg (fun k _ _ => by rw [hc 9 0 (by decide) (by decide) (by decide)]) (hc 39 0 (by decide) (by decide) (by decide)) (hc 40 0 (by decide) (by decide) (by decide)) (fun _ _ _ _ _ _ _ => rfl), g4.cg (by rw [hc 9 0 (by decide) (by decide) (by decide)]) (by rw [hc 9 0 (by decide) (by decide) (by decide)]) rfl rfl rfl, fun p' hp' => (g5 p' hp').cg (hc 10 p' (by decide) (by decide) (by decide)) (hc 37 p' (by decide) (by decide) (by decide)) rfl rfl (fun _ _ _ _ => rfl) (fun _ _ _ => rfl), fun p' hp' => (g6 p' hp').cg (hc 11 p' (by decide) (by decide) (by decide)) (hc 41 p' (by decide) (by decide) (by decide)) (fun _ _ _ => rfl)⟩
/-- a step on link 1 with draws -/
def RZ (B : Int) (c m c' m' : zMem) : Prop := RK 1 B c' (m' (51, 0, 0)) ∧ sL 1 c c' ∧ sN m m' ∧ c' (5, 0, 0) 5 = m' (50, 0, 0) 14 ∧ ∀ k, k < 7 → m' (51, 0, 0) k = m (51, 0, 0) k
theorem RZ.tr {B B' : Int} {c m c1 m1 c' m' : zMem} (h1 : RZ B c m c1 m1) (h2 : RZ B' c1 m1 c' m') : RZ B' c m c' m' := ⟨h2.1, h1.2.1.tr h2.2.1, h1.2.2.1.tr h2.2.2.1, h2.2.2.2.1, fun k hk => (h2.2.2.2.2 k hk).trans (h1.2.2.2.2 k hk)⟩
theorem RS.Z {B : Int} {c m c' m' : zMem} (h : RS 1 B c m c' m') (hx : c (5, 0, 0) 5 = m (50, 0, 0) 14) : RZ B c m c' m' := ⟨h.1, h.2.1.L (fun q hq => hq), h.2.2.N (fun k hk => hk.2), by rw [h.2.1 (5, 0, 0) rfl (fun hh => by cases hh.1), h.2.2.1 (50, 0, 0) rfl]; exact hx, fun k hk => h.2.2.2 k (by unfold G0; omega)⟩
theorem RZ.mo {B B' : Int} {c m c' m' : zMem} (h : RZ B c m c' m') (hB : B ≤ B') : RZ B' c m c' m' := ⟨h.1.mo hB, h.2⟩
theorem RT.z {L : Nat} {c m c' m' : zMem} (h : RT c m) (hc : sL L c c') (hm : sN m m') : RT c' m' := h.kp (hc _ rfl) (hc _ rfl) (hc _ rfl) (hc _ rfl) (hm.1 _ rfl) (hm.1 _ rfl)
theorem m_b124 (a b d : Int) (m : zMem) : fX12_goesRound_b124 a b d m = fX12_ticks m := by
  unfold fX12_goesRound_b124
  cases fX12_ticks m <;> rfl
theorem r_roundB {p len : Nat} {B n k : Int} {c m : zMem} (hp : p < 8) (h : RK 1 B c (m (51, 0, 0))) (hB : B + 1 ≤ 1000000000) (ht : RT c m) (hlen : len ≤ 60) (hn : 0 ≤ n ∧ n ≤ 127) (hpn : (p : Int) < m (51, 0, 0) 0) (hx : c (5, 0, 0) 5 = m (50, 0, 0) 14) : ∃ c1 m1, fX0_drawnRound_b64 1 k (len : Int) n (p : Int) c = fX0_drawnRound_b144 1 k (len : Int) n c1 ∧ fX12_goesRound_b50 (p : Int) (len : Int) n m = fX12_ticks m1 ∧ RZ (B + 1) c m c1 m1 := by
  have e7 : c (7, 1, 0) 1 = m (51, 0, 0) 1 := h.1.1 1 (by decide)
  obtain ⟨b, b1, b2, b3⟩ := r_able hp rfl h
  unfold fX0_drawnRound_b64 fX12_goesRound_b50 fX0_drawnRound_b95 fX12_goesRound_b78
  simp only [m_b124]
  rw [e7, b1, zb_some, b2, zb_some]
  rcases b3 with rfl | ⟨rfl, hask, hab⟩
  · rw [if_pos w32_0, if_pos w32_0]
    exact ⟨c, m, rfl, rfl, (RS.rf (h.mo (by omega))).Z hx⟩
  · rw [if_neg (show ¬ w32 1 = 0 by decide), if_neg (show ¬ w32 1 = 0 by decide), c_draw, zb_some]
    dsimp only
    -- the class draws all of its noise first
    have key : ∀ pass : Int, pass = 0 ∨ pass = 1 → ∃ M1 c1 m1, fX12_beginsSend (p : Int) (len : Int) m = some M1 ∧ M1 (50, 0, 0) = m (50, 0, 0) ∧ zb (zlp (fX0_drawnRound_l100 1 k (len : Int) n (p : Int) pass) 5000 (0, zst c (5, 0, 0) 5 (1103515245 * c (5, 0, 0) 5 + 12345))) (fun x10 => zb (fX0_transmit 1 (p : Int) (len : Int) pass x10.2) (fun r11 => fX0_drawnRound_b144 1 k (len : Int) n r11.2)) = fX0_drawnRound_b144 1 k (len : Int) n c1 ∧ zb (zlp (fX12_goesRound_l83 (p : Int) (len : Int) n pass) 5000 (0, zst M1 (50, 0, 0) 14 (1103515245 * M1 (50, 0, 0) 14 + 12345))) (fun x12 => zb (fX12_endsSend (p : Int) (len : Int) pass x12.2) (fun r13 => fX12_ticks r13)) = fX12_ticks m1 ∧ RZ (B + 1) c m c1 m1 := fun pass hpass => by
      obtain ⟨i1, K, k1, k2, k3, k4, k5⟩ := c_noise (L := 1) (len := len) (n := n) (c := zst c (5, 0, 0) 5 (1103515245 * c (5, 0, 0) 5 + 12345)) hlen hn zst_at k (p : Int) pass
      have hK : ∀ q, q ≠ (5, 0, 0) → q ≠ (28, 0, 0) → K q = c q := fun q a1 a2 => by rw [k2 q a1 a2, zst_nq a1]
      have hRK : RK 1 B K (m (51, 0, 0)) := h.cc (fun r p' a1 a2 a3 => hK _ (by simp [a1]) (by simp [a3]))
      have hRT : RT K m := ht.kp (hK _ (by simp) (by simp)) (hK _ (by simp) (by simp)) (hK _ (by simp) (by simp)) (hK _ (by simp) (by simp)) rfl rfl
      obtain ⟨M1, l1, l2, l3⟩ := r_trans (v := pnz (1103515245 * c (5, 0, 0) 5 + 12345) n) (pass := pass) hp rfl hRK hB hRT hlen hpn hask hab (fun i hi => ⟨k5 i hi, by
        have := pnz_rng (n := n) (1103515245 * c (5, 0, 0) 5 + 12345) hn.1 i
        omega⟩) hpass
      have e50 : M1 (50, 0, 0) = m (50, 0, 0) := l2.1 _ rfl
      obtain ⟨i2, M2, s1, s2, s3, s4, s5⟩ := m_noise (len := len) (n := n) (m := zst M1 (50, 0, 0) 14 (1103515245 * M1 (50, 0, 0) 14 + 12345)) hlen hn zst_at (p : Int) pass
      obtain ⟨r, c', m', t1, t2, t3, t4, t5, t6, t7, t8⟩ := l3 M2 (fun q a1 a2 => by rw [s2 q a1 a2, zst_nq a1]) (fun i hi => by rw [s5 i hi, zst_nq (by simp), e50, ← hx])
      refine ⟨M1, c', m', l1, e50, ?_, ?_, t3, fun q hq => ?_, ⟨fun q hq => t5 q (ko_kn hq) (ko_ne hq rfl), fun k hk => t7 k (by unfold G0; omega)⟩, ?_, fun k hk => t7 k (by unfold G0; omega)⟩
      · rw [k1, zb_some]
        dsimp only
        rw [t1, zb_some]
      · rw [s1, zb_some]
        dsimp only
        rw [t2, zb_some]
      · rw [t4 q (kl_ka hq).1 (kl_ka hq).2, hK q (kl_ne hq rfl) (kl_ne hq rfl)]
      · rw [t4 (5, 0, 0) rfl (fun hh => by cases hh.1), k4, t6, s4, e50, ← hx]
    have hd := pdr_rng (c (5, 0, 0) 5)
    by_cases cd : pdr (c (5, 0, 0) 5) % 16 = 0
    · obtain ⟨M1, c1, m1, j1, j2, j3, j4, j5⟩ := key 0 (Or.inl rfl)
      rw [if_pos cd, j1, zb_some, m_draw (by decide), zb_some]
      dsimp only
      rw [j2, ← hx, if_pos (by rw [cd]; decide)]
      rw [j2, ← hx] at j4
      exact ⟨c1, m1, j3, j4, j5⟩
    · obtain ⟨M1, c1, m1, j1, j2, j3, j4, j5⟩ := key 1 (Or.inr rfl)
      rw [if_neg cd, j1, zb_some, m_draw (by decide), zb_some]
      dsimp only
      rw [j2, ← hx, if_neg (by rw [w32_id (by omega) (by omega)]; exact cd)]
      rw [j2, ← hx] at j4
      exact ⟨c1, m1, j3, j4, j5⟩
theorem zmax1 {n : Nat} (h : 1 ≤ n ∧ n ≤ 8) : zmax 1 (n : Int) = n := by
  unfold zmax
  rw [w32_n (show n < 2147483648 by omega), show w32 1 = 1 by decide]
  by_cases c : (1 : Int) < (n : Int)
  · rw [if_pos c]
  · rw [if_neg c]; omega
theorem r_round {len k : Nat} {B n : Int} {c m : zMem} (h : RK 1 B c (m (51, 0, 0))) (hB : B + 1 ≤ 1000000000) (ht : RT c m) (hlen : len ≤ 60) (hk : k < 1000) (hn : 0 ≤ n ∧ n ≤ 127) (hx : c (5, 0, 0) 5 = m (50, 0, 0) 14) : ∃ c' m1 m', fX0_drawnRound 1 (k : Int) (len : Int) n c = some c' ∧ fX12_goesRound (irem (k : Int) (m (51, 0, 0) 0)) (len : Int) n m = some m1 ∧ (if k % 8 = 7 then fX12_reports m1 = some m' else m' = m1) ∧ RZ (B + 1) c m c' m' := by
  obtain ⟨p0, ⟨p1a, p1b⟩, -⟩ := h.1
  obtain ⟨pn, epn⟩ := nat_of (show 0 ≤ m (51, 0, 0) 0 by omega)
  have e0 : c (7, 1, 0) 0 = pn := by rw [p0 0 (by decide), epn]
  have er : irem (k : Int) (pn : Int) = ((k % pn : Nat) : Int) := by rw [irem_of (by omega) (by omega) (by omega) (by omega), Int.natCast_emod]
  have hp8 : k % pn < pn := Nat.mod_lt _ (by omega)
  generalize hp : k % pn = p at *
  have p8 : p < 8 := by omega
  have xp : ix (p : Int) = p := ix_nat (by omega)
  have hl := (h.2.2.2.2.1 p p8)
  obtain ⟨-, -, -, ⟨b4, b5, b6⟩, -⟩ := hl
  have w4 : w32 (m (51, 0, 0) (329 + 88 * p + 4)) = m (51, 0, 0) (329 + 88 * p + 4) := w32_id (by omega) (by omega)
  -- behind the answer
  have tail : ∀ (c0 m0 : zMem), RK 1 B c0 (m0 (51, 0, 0)) → RT c0 m0 → c0 (5, 0, 0) 5 = m0 (50, 0, 0) 14 → m0 (51, 0, 0) 0 = pn → ∃ c' m1 m', fX0_drawnRound_b64 1 (k : Int) (len : Int) n (p : Int) c0 = some c' ∧ fX12_goesRound_b50 (p : Int) (len : Int) n m0 = some m1 ∧ (if k % 8 = 7 then fX12_reports m1 = some m' else m' = m1) ∧ RZ (B + 1) c0 m0 c' m' := fun c0 m0 g1 g2 g3 g4 => by
    obtain ⟨c1, m1, j1, j2, j3⟩ := r_roundB (k := (k : Int)) p8 g1 hB g2 hlen hn (by rw [g4]; omega) g3
    obtain ⟨c2, m2, j4, j5, j6⟩ := r_tickS j3.1 hB
    have j7 := j3.tr (j6.Z j3.2.2.2.1)
    rw [j1, j2]
    unfold fX0_drawnRound_b144
    rw [j4, zb_some]
    by_cases c7 : k % 8 = 7
    · obtain ⟨c3, m3, j8, j9, j10⟩ := r_learnS j7.1
      rw [if_pos (by omega), j8, zb_some]
      exact ⟨c3, m2, m3, rfl, j5, by rw [if_pos c7]; exact j9, j7.tr (j10.Z j7.2.2.2.1)⟩
    · rw [if_neg (by omega)]
      exact ⟨c2, m2, m2, rfl, j5, by rw [if_neg c7], j7⟩
  unfold fX0_drawnRound fX12_goesRound
  have z4 : zin (((329 + 88 * p : Nat) : Int) + 4) 3099 := zo _ 4 (by omega)
  have x4 : ix (((329 + 88 * p : Nat) : Int) + 4) = 329 + 88 * p + 4 := io _ 4 (by omega)
  simp only [zlet_eq, e0, epn, zmax1 (n := pn) (by omega), er, xp, m_own (p := p) rfl, zb_some, x4, w4, b4]
  rw [if_pos (by rw [w32_n (by omega)]; omega), if_pos (zin_nat p8 (by decide)), if_pos z4]
  by_cases c4 : m (51, 0, 0) (329 + 88 * p + 4) = 0
  · rw [if_pos c4, if_neg (show ¬ m (51, 0, 0) (329 + 88 * p + 4) = 1 by omega)]
    exact tail c m h ht hx epn
  · have c4' : m (51, 0, 0) (329 + 88 * p + 4) = 1 := by omega
    have hd := pdr_rng (c (5, 0, 0) 5)
    rw [if_neg c4, if_pos c4', c_draw, zb_some, m_draw (by decide), zb_some]
    dsimp only
    rw [← hx, w32_emod _ _ (by decide)]
    have hRK : RK 1 B (zst c (5, 0, 0) 5 (1103515245 * c (5, 0, 0) 5 + 12345)) (zst m (50, 0, 0) 14 (1103515245 * c (5, 0, 0) 5 + 12345) (51, 0, 0)) := by
      rw [zst_nq (q := (50, 0, 0)) (by simp)]
      exact h.cc (fun r p' a1 a2 a3 => zst_nq (by simp [a1]))
    have hRT : RT (zst c (5, 0, 0) 5 (1103515245 * c (5, 0, 0) 5 + 12345)) (zst m (50, 0, 0) 14 (1103515245 * c (5, 0, 0) 5 + 12345)) := ht.kp (zst_nq (by simp)) (zst_nq (by simp)) (zst_nq (by simp)) (zst_nq (by simp)) (zst_nq (by simp)) (zst_nq (by simp))
    have z0 : RZ B c m (zst c (5, 0, 0) 5 (1103515245 * c (5, 0, 0) 5 + 12345)) (zst m (50, 0, 0) 14 (1103515245 * c (5, 0, 0) 5 + 12345)) := ⟨hRK, fun q hq => zst_nq (kl_ne hq rfl), ⟨fun q hq => zst_nq (ko_ne hq rfl), fun k hk => by rw [zst_nq (by simp)]⟩, by rw [zst_at, zst_at], fun k hk => by rw [zst_nq (by simp)]⟩
    have key : ∀ how : Int, 0 ≤ how ∧ how ≤ 2 → ∃ c' m1 m', fX0_drawnRound_b60 1 (k : Int) (len : Int) n (p : Int) how (p : Int) (zst c (5, 0, 0) 5 (1103515245 * c (5, 0, 0) 5 + 12345)) = some c' ∧ fX12_goesRound_b46 (p : Int) (len : Int) n how (p : Int) (zst m (50, 0, 0) 14 (1103515245 * c (5, 0, 0) 5 + 12345)) = some m1 ∧ (if k % 8 = 7 then fX12_reports m1 = some m' else m' = m1) ∧ RZ (B + 1) c m c' m' := fun how hhow => by
      obtain ⟨w, c1, m1, j1, j2, j3, j4⟩ := r_readsS p8 rfl hRK (by rw [zst_nq (by simp)]; exact c4') hhow
      have j5 := z0.tr (j3.Z z0.2.2.2.1)
      obtain ⟨c2, m2, m3, j6, j7, j8, j9⟩ := tail c1 m1 j5.1 (ht.z j5.2.1 j5.2.2.1) j5.2.2.2.1 (by rw [j5.2.2.2.2 0 (by decide), epn])
      unfold fX0_drawnRound_b60 fX12_goesRound_b46
      rw [j1, zb_some, j2, zb_some]
      exact ⟨c2, m2, m3, j6, j7, j8, j5.tr j9⟩
    by_cases d0 : pdr (c (5, 0, 0) 5) % 8 = 0
    · rw [if_pos d0, if_pos d0]; exact key 1 (by decide)
    · rw [if_neg d0, if_neg d0]
      by_cases d1 : pdr (c (5, 0, 0) 5) % 8 = 1
      · rw [if_pos d1, if_pos d1]; exact key 2 (by decide)
      · rw [if_neg d1, if_neg d1]; exact key 0 (by decide)
