/-! REPORTS: what is to be sent again -/
theorem m_onp {M : zMem} {s : Int} {pn : Nat} (hs : 0 ≤ s ∧ s ≤ 7) (hpn : M (51, 0, 0) 0 = pn) (p8 : pn ≤ 8) (hb : ∀ p, p < 8 → -1 ≤ M (51, 0, 0) (329 + 88 * p) ∧ M (51, 0, 0) (329 + 88 * p) ≤ 7) : ∃ r, fX12_isOnProcess s M = some r ∧ ((r = 1 ∧ ∃ p, p < pn ∧ M (51, 0, 0) (329 + 88 * p) = s) ∨ (r = 0 ∧ ∀ p, p < pn → ¬ M (51, 0, 0) (329 + 88 * p) = s)) := by
  have ws : w32 s = s := w32_id (by omega) (by omega)
  have hh := zlp_inv (body := fX12_isOnProcess_l2 s M) (fun j st => st = (j : Int) ∧ ∀ p, p < j → ¬ M (51, 0, 0) (329 + 88 * p) = s) (fun r => (∃ x, r = .inl x ∧ ∀ p, p < pn → ¬ M (51, 0, 0) (329 + 88 * p) = s) ∨ (r = .inr 1 ∧ ∃ p, p < pn ∧ M (51, 0, 0) (329 + 88 * p) = s)) pn (N := 5000) (by omega) (s0 := 0) ⟨rfl, fun k hk => absurd hk (Nat.not_lt_zero k)⟩ ?_ ?_
  · obtain ⟨r, h1, h2⟩ := hh
    unfold fX12_isOnProcess
    rw [h1]
    rcases h2 with ⟨x, rfl, h3⟩ | ⟨rfl, h3⟩
    · exact ⟨0, rfl, Or.inr ⟨rfl, h3⟩⟩
    · exact ⟨1, rfl, Or.inl ⟨rfl, h3⟩⟩
  · rintro j st hj ⟨a1, a2⟩
    subst a1
    generalize ho : 329 + 88 * j = o at *
    have hbj := hb j (by omega)
    rw [ho] at hbj
    have x0 : ix ((o : Int) + 0) = o := io o 0 (by omega)
    have z0 : zin ((o : Int) + 0) 3099 := zo o 0 (by omega)
    have w0 : w32 (M (51, 0, 0) o) = M (51, 0, 0) o := w32_id (by omega) (by omega)
    unfold fX12_isOnProcess_l2
    simp only [m_own ho.symm, zb_some, x0, hpn, w0, ws]
    rw [if_neg (by rw [w32_n (by omega), w32_n (by omega)]; omega), if_pos z0]
    by_cases c0 : M (51, 0, 0) o = s
    · rw [if_pos c0]
      exact Or.inr ⟨_, rfl, Or.inr ⟨rfl, j, hj, by rw [ho]; exact c0⟩⟩
    · rw [if_neg c0]
      refine Or.inl ⟨_, rfl, by omega, fun p hp => ?_⟩
      rcases (show p = j ∨ p < j by omega) with e | e
      · subst e; rw [ho]; exact c0
      · exact a2 p e
  · rintro st ⟨a1, a2⟩
    subst a1
    unfold fX12_isOnProcess_l2
    rw [if_pos (by rw [hpn]; omega)]
    exact ⟨_, rfl, Or.inl ⟨_, rfl, a2⟩⟩
/-- only the sender's own numbers and rows changed, what is kept not -/
theorem RK.snd2 {L : Nat} {B : Int} {c c' : zMem} {g g' : Nat → Int} (h : RK L B c g) (hs : Rs L c' g') (hc : ∀ r p, r ≠ 8 → r ≠ 33 → r ≠ 34 → r ≠ 35 → r ≠ 36 → c' (r, L, p) = c (r, L, p)) (hg : ∀ k, k < 7 ∨ 39 ≤ k ∧ k < 47 ∨ 55 ≤ k ∧ k ≠ 70 ∧ k ≠ 71 ∨ k = 28 ∨ k = 29 → g' k = g k) : RK L B c' g' := by
  obtain ⟨h1, h2, h3, h4, h5, h6⟩ := h
  refine ⟨h1.cg (fun k _ => by rw [hc 7 0 (by decide) (by decide) (by decide) (by decide) (by decide)]) (fun k hk => hg k (by omega)), hs, h3.cg (fun k _ _ => by rw [hc 9 0 (by decide) (by decide) (by decide) (by decide) (by decide)]) (hc 39 0 (by decide) (by decide) (by decide) (by decide) (by decide)) (hc 40 0 (by decide) (by decide) (by decide) (by decide) (by decide)) (fun k k1 k2 k3 k4 k5 k6 => hg k (by omega)), h4.cg (by rw [hc 9 0 (by decide) (by decide) (by decide) (by decide) (by decide)]) (by rw [hc 9 0 (by decide) (by decide) (by decide) (by decide) (by decide)]) (hg 55 (by omega)) (hg 64 (by omega)) (hg 65 (by omega)), fun p' hp => ?_, fun p' hp => (h6 p' hp).cg (hc 11 p' (by decide) (by decide) (by decide) (by decide) (by decide)) (hc 41 p' (by decide) (by decide) (by decide) (by decide) (by decide)) (fun k k1 k2 => hg k (by omega))⟩
  have hl := h5 p' hp
  have r0 := hl.1.2
  exact hl.cg2 (hc 10 p' (by decide) (by decide) (by decide) (by decide) (by decide)) (hc 37 p' (by decide) (by decide) (by decide) (by decide) (by decide)) (hg 0 (by omega)) (hg 3 (by omega)) (fun e1 e2 => ⟨(pky_cg (hg 28 (by omega)) (hg 29 (by omega)) _).mpr e2, hg _ (by omega)⟩) (fun k k1 k2 => hg k (by omega))
theorem RK.conf {L : Nat} {B v : Int} {c m : zMem} {s : Nat} (h : RK L B c (m (51, 0, 0))) (s8 : s < 8) : RK L B (zst c (35, L, 0) s v) (zst m (51, 0, 0) (47 + s) v (51, 0, 0)) := by
  have g : ∀ k, k < 47 ∨ 55 ≤ k → zst m (51, 0, 0) (47 + s) v (51, 0, 0) k = m (51, 0, 0) k := fun k hk => zst_nk (by omega)
  have hk : ∀ x, pky (zst m (51, 0, 0) (47 + s) v (51, 0, 0)) x ↔ pky (m (51, 0, 0)) x := pky_cg (g _ (by decide)) (g _ (by decide))
  refine h.snd2 ?_ (fun r p a1 a2 a3 a4 a5 => zst_nq (by simp [a4])) (fun k hk => g k (by omega))
  obtain ⟨a1, a2, a3, a4, a5, a6, a7, a8, a9⟩ := h.2.1
  refine ⟨by rw [g 7 (by decide), zst_nq (by simp)]; exact a1, fun i hi => ?_, by rw [g 30 (by decide), zst_nq (by simp)]; exact a3, fun i hi => ?_, by rw [g 28 (by decide), zst_nq (by simp)]; exact a5, by rw [g 29 (by decide), zst_nq (by simp)]; exact a6, fun x hx => ?_, by rw [g 70 (by decide), zst_nq (by simp)]; exact a8, by rw [g 71 (by decide), zst_nq (by simp)]; exact a9⟩
  · rw [g 7 (by decide)] at hi
    rw [g (8 + i) (by omega), zst_nq (by simp)]; exact a2 i hi
  · rw [g 30 (by decide)] at hi
    rw [hk, g (31 + i) (by omega), zst_nq (by simp)]; exact a4 i hi
  · rw [hk, g (39 + x) (by omega), zst_nq (q' := (34, L, 0)) (by simp)]
    refine ⟨fun hh => ?_, (a7 x hx).2⟩
    obtain ⟨f1, f2, f3⟩ := (a7 x hx).1 hh
    refine ⟨f1, f2, ?_⟩
    by_cases e : x = s
    · subst e; rw [zst_at, zst_at]
    · rw [zst_nk e, zst_nk (by omega)]; exact f3
theorem RK.app {L : Nat} {B : Int} {c m : zMem} {s a : Nat} (h : RK L B c (m (51, 0, 0))) (s8 : s < 8) (ha : m (51, 0, 0) 30 = a) (a8 : a < 8) (hp : pky (m (51, 0, 0)) s) : RK L B (zst (zst c (36, L, 0) a (s : Int)) (8, L, 0) 6 ((a : Int) + 1)) (zst (zst m (51, 0, 0) (31 + a) (s : Int)) (51, 0, 0) 30 ((a : Int) + 1) (51, 0, 0)) := by
  have g : ∀ k, k < 30 ∨ 39 ≤ k → zst (zst m (51, 0, 0) (31 + a) (s : Int)) (51, 0, 0) 30 ((a : Int) + 1) (51, 0, 0) k = m (51, 0, 0) k := fun k hk => by rw [zst_nk (by omega), zst_nk (by omega)]
  have hk : ∀ x, pky (zst (zst m (51, 0, 0) (31 + a) (s : Int)) (51, 0, 0) 30 ((a : Int) + 1) (51, 0, 0)) x ↔ pky (m (51, 0, 0)) x := pky_cg (g _ (by decide)) (g _ (by decide))
  refine h.snd2 ?_ (fun r p a1 a2 a3 a4 a5 => by rw [zst_nq (by simp [a1]), zst_nq (by simp [a5])]) (fun k hk => g k (by omega))
  obtain ⟨a1, a2, a3, a4, a5, a6, a7, a8', a9⟩ := h.2.1
  have c8 : ∀ k, k ≠ 6 → zst (zst c (36, L, 0) a (s : Int)) (8, L, 0) 6 ((a : Int) + 1) (8, L, 0) k = c (8, L, 0) k := fun k hk => by rw [zst_nk hk, zst_nq (by simp)]
  refine ⟨by rw [g 7 (by decide), c8 _ (by decide)]; exact a1, fun i hi => ?_, by rw [zst_at, zst_at]; omega, fun i hi => ?_, by rw [g 28 (by decide), c8 _ (by decide)]; exact a5, by rw [g 29 (by decide), c8 _ (by decide)]; exact a6, fun x hx => ?_, by rw [g 70 (by decide), c8 _ (by decide)]; exact a8', by rw [g 71 (by decide), c8 _ (by decide)]; exact a9⟩
  · rw [g 7 (by decide)] at hi
    rw [g (8 + i) (by omega), zst_nq (by simp), zst_nq (by simp)]; exact a2 i hi
  · rw [zst_at] at hi
    rw [hk, zst_nq (q' := (36, L, 0)) (by simp), zst_nk (k := 30) (j := 31 + i) (by omega)]
    by_cases e : i = a
    · subst e
      rw [zst_at, zst_at]
      exact ⟨rfl, by omega, hp⟩
    · rw [zst_nk e, zst_nk (k := 31 + a) (j := 31 + i) (by omega)]; exact a4 i (by omega)
  · rw [hk, g (39 + x) (by omega), g (47 + x) (by omega), zst_nq (q' := (34, L, 0)) (by simp), zst_nq (q' := (35, L, 0)) (by simp), zst_nq (q' := (34, L, 0)) (by simp), zst_nq (q' := (35, L, 0)) (by simp)]
    exact a7 x hx
def PG (L : Nat) (q : zPl) : Prop := q = (8, L, 0) ∨ q = (35, L, 0) ∨ q = (36, L, 0)
def GG (k : Nat) : Prop := (30 ≤ k ∧ k < 39) ∨ (47 ≤ k ∧ k < 55)
theorem r_again {L L2 b pn : Nat} {B w4 : Int} (e t : Nat) (e8 : e < 8) (t8 : t < 8) (p8 : pn ≤ 8) (hw : w4 = (t : Int)) : ∀ (r d N N' : Nat) (c m : zMem), d + r = t → RK L B c (m (51, 0, 0)) → L2 = L → m (51, 0, 0) 29 = e → m (51, 0, 0) 28 = ((e : Int) + t) % 8 → m (51, 0, 0) 30 ≤ (d : Int) → m (51, 0, 0) 0 = pn → b < 256 → (∀ s : Nat, s < 8 → (b / 2 ^ s % 2 = 1 ↔ ∃ p, p < pn ∧ m (51, 0, 0) (329 + 88 * p) = s)) → r < N → r < N' → ∃ i1 i2 c' m', zlp (fX7_learn_l127 L L2 (b : Int) w4) N ((d : Int), c) = some (i1, c') ∧ zlp fX12_reports_l176 N' ((((e : Int) + d) % 8), m) = some (i2, m') ∧ RK L B c' (m' (51, 0, 0)) ∧ (∀ q, ¬ PG L q → c' q = c q) ∧ (∀ q, q ≠ (51, 0, 0) → m' q = m q) ∧ ∀ k, ¬ GG k → m' (51, 0, 0) k = m (51, 0, 0) k := by
  intro r
  induction r with
  | zero =>
    intro d N N' c m hd h e2 h29 h28 h30 h0 hb hbs hN hN'
    obtain ⟨n, rfl⟩ : ∃ n, N = n + 1 := ⟨N - 1, by omega⟩
    obtain ⟨n', rfl⟩ : ∃ n, N' = n + 1 := ⟨N' - 1, by omega⟩
    refine ⟨d, ((e : Int) + d) % 8, c, m, zlp_out ?_, zlp_out ?_, h, fun _ _ => rfl, fun _ _ => rfl, fun _ _ => rfl⟩
    · unfold fX7_learn_l127
      dsimp only
      rw [if_pos (by rw [hw, show d = t by omega]; exact Int.le_refl _)]
    · unfold fX12_reports_l176
      dsimp only
      rw [if_pos (by rw [h28, show d = t by omega])]
  | succ r ih =>
    intro d N N' c m hd h e2 h29 h28 h30 h0 hb hbs hN hN'
    obtain ⟨n, rfl⟩ : ∃ n, N = n + 1 := ⟨N - 1, by omega⟩
    obtain ⟨n', rfl⟩ : ∃ n, N' = n + 1 := ⟨N' - 1, by omega⟩
    subst e2
    obtain ⟨s, es⟩ := nat_of (show 0 ≤ ((e : Int) + d) % 8 by omega)
    have s8 : s < 8 := by omega
    have hp : pky (m (51, 0, 0)) s := by unfold pky; rw [h28, h29]; omega
    have hs := h.2.2.1.1.2.2.1 s s8
    have hc8 : c (8, L2, 0) 8 = e := by rw [h.2.1.2.2.2.2.2.1.1, h29]
    obtain ⟨-, -, ⟨s4, s5, s6⟩, -⟩ := h.2.1
    obtain ⟨a, ea⟩ := nat_of s5
    have a8 : a < 8 := by omega
    have xs : ix (s : Int) = s := ix_nat (by omega)
    have xa : ix (a : Int) = a := ix_nat (by omega)
    have x47 : ix (47 + (s : Int)) = 47 + s := by rw [ix_of (by omega) (by omega)]; omega
    have z47 : zin (47 + (s : Int)) 3099 := zin_of (by omega) (by omega) (by decide)
    have x56 : ix (56 + (s : Int)) = 56 + s := by rw [ix_of (by omega) (by omega)]; omega
    have z56 : zin (56 + (s : Int)) 3099 := zin_of (by omega) (by omega) (by decide)
    have x31 : ix (31 + (a : Int)) = 31 + a := by rw [ix_of (by omega) (by omega)]; omega
    have z31 : zin (31 + (a : Int)) 3099 := zin_of (by omega) (by omega) (by decide)
    have zs : zin (s : Int) 8 := zin_nat s8 (by decide)
    have za : zin (a : Int) 8 := zin_nat a8 (by decide)
    have w56 : w32 (m (51, 0, 0) (56 + s)) = m (51, 0, 0) (56 + s) := w32_id (by omega) (by omega)
    have ws : w32 (s : Int) = s := w32_n (by omega)
    have w28 : w32 (((e : Int) + t) % 8) = ((e : Int) + t) % 8 := w32_emod _ _ (by decide)
    have hslots : ∀ p, p < 8 → -1 ≤ m (51, 0, 0) (329 + 88 * p) ∧ m (51, 0, 0) (329 + 88 * p) ≤ 7 := fun p hp => (h.2.2.2.2.1 p hp).1.2
    have enx : ((s : Int) + 1) % 8 = ((e : Int) + ((d + 1 : Nat) : Int)) % 8 := by omega
    have edx : (d : Int) + 1 = ((d + 1 : Nat) : Int) := by omega
    -- one step, with what is confirmed
    have step : ∀ v : Int, (v = 0 ∨ v = 1) → ∃ c1 m1, fX7_learn_b127_168 L2 L2 (b : Int) w4 (d : Int) (s : Int) v (s : Int) c = some (.inl (((d + 1 : Nat) : Int), c1)) ∧ fX12_reports_b176_213 (s : Int) v (47 + (s : Int)) m = some (.inl ((((e : Int) + ((d + 1 : Nat) : Int)) % 8), m1)) ∧ RK L2 B c1 (m1 (51, 0, 0)) ∧ m1 (51, 0, 0) 30 ≤ ((d + 1 : Nat) : Int) ∧ (∀ q, ¬ PG L2 q → c1 q = c q) ∧ (∀ q, q ≠ (51, 0, 0) → m1 q = m q) ∧ ∀ k, ¬ GG k → m1 (51, 0, 0) k = m (51, 0, 0) k := fun v hv => by
      have hK := h.conf (v := v) s8
      have g : ∀ k, k < 47 ∨ 55 ≤ k → zst m (51, 0, 0) (47 + s) v (51, 0, 0) k = m (51, 0, 0) k := fun k hk => zst_nk (by omega)
      have cq : ∀ q, ¬ PG L2 q → zst c (35, L2, 0) s v q = c q := fun q hq => zst_nq (fun e => hq (Or.inr (Or.inl e)))
      have mq : ∀ q, q ≠ (51, 0, 0) → zst m (51, 0, 0) (47 + s) v q = m q := fun q hq => zst_nq hq
      have gq : ∀ k, ¬ GG k → zst m (51, 0, 0) (47 + s) v (51, 0, 0) k = m (51, 0, 0) k := fun k hk => g k (by unfold GG at hk; omega)
      have e6 : zst c (35, L2, 0) s v (8, L2, 0) 6 = (a : Int) := by rw [zst_nq (by simp), s4, ea]
      have e30 : zst m (51, 0, 0) (47 + s) v (51, 0, 0) 30 = (a : Int) := by rw [g 30 (by decide), ea]
      obtain ⟨q, o1, o2⟩ := m_onp (M := zst m (51, 0, 0) (47 + s) v) (s := (s : Int)) (pn := pn) (by omega) (by rw [g 0 (by decide), h0]) p8 (fun p hp => by rw [g _ (by omega)]; exact hslots p hp)
      have ob : (q = 1 ∧ b / 2 ^ s % 2 = 1) ∨ (q = 0 ∧ b / 2 ^ s % 2 = 0) := by
        rcases o2 with ⟨q1, p, p1, p2⟩ | ⟨q1, p1⟩
        · exact Or.inl ⟨q1, (hbs s s8).mpr ⟨p, p1, by rw [← p2, g _ (by omega)]⟩⟩
        · refine Or.inr ⟨q1, ?_⟩
          have : ¬ b / 2 ^ s % 2 = 1 := fun hc => by
            obtain ⟨p, p2, p3⟩ := (hbs s s8).mp hc
            exact p1 p p2 (by rw [g _ (by omega)]; exact p3)
          omega
      have eb : ishr (b : Int) (s : Int) = ((b / 2 ^ s : Nat) : Int) := ishr_nat (by omega) (by omega)
      unfold fX7_learn_b127_168 fX7_learn_b127_209 fX12_reports_b176_213 fX12_reports_b176_265
      simp only [zlet_eq, xs, x47, zst_at, e6, xa, e30, x31, o1, zb_some, eb, enx, edx]
      rw [if_pos zs, if_pos zs, if_pos z47, if_pos z47]
      rcases hv with rfl | rfl
      · rw [if_pos w32_0, if_neg (show ¬ w32 0 = 1 by decide)]
        rcases ob with ⟨q1, b1⟩ | ⟨q1, b1⟩
        · subst q1
          rw [if_neg (by omega), if_neg (by decide)]
          exact ⟨_, _, rfl, rfl, hK, by rw [g 30 (by decide)]; omega, cq, mq, gq⟩
        · subst q1
          rw [if_pos (by omega), if_pos za, if_pos w32_0, if_pos z31]
          have e6' : zst (zst c (35, L2, 0) s 0) (36, L2, 0) a (s : Int) (8, L2, 0) 6 = (a : Int) := by rw [zst_nq (by simp), e6]
          have e30' : zst (zst m (51, 0, 0) (47 + s) 0) (51, 0, 0) (31 + a) (s : Int) (51, 0, 0) 30 = (a : Int) := by rw [zst_nk (by omega), e30]
          rw [e6', e30']
          refine ⟨_, _, rfl, rfl, hK.app s8 e30 a8 ((pky_cg (g _ (by decide)) (g _ (by decide)) _).mpr hp), by rw [zst_at]; omega, fun q hq => by rw [zst_nq (fun e => hq (Or.inl e)), zst_nq (fun e => hq (Or.inr (Or.inr e))), cq q hq], fun q hq => by rw [zst_nq hq, zst_nq hq, mq q hq], fun k hk => ?_⟩
          rw [zst_nk (by unfold GG at hk; omega), zst_nk (by unfold GG at hk; omega)]
          exact gq k hk
      · rw [if_neg (show ¬ w32 1 = 0 by decide), if_pos (show w32 1 = 1 by decide)]
        exact ⟨_, _, rfl, rfl, hK, by rw [g 30 (by decide)]; omega, cq, mq, gq⟩
    have glue : ∀ v : Int, (v = 0 ∨ v = 1) → fX7_learn_l127 L2 L2 (b : Int) w4 ((d : Int), c) = fX7_learn_b127_168 L2 L2 (b : Int) w4 (d : Int) (s : Int) v (s : Int) c → fX12_reports_l176 ((((e : Int) + d) % 8), m) = fX12_reports_b176_213 (s : Int) v (47 + (s : Int)) m → ∃ i1 i2 c' m', zlp (fX7_learn_l127 L2 L2 (b : Int) w4) (n + 1) ((d : Int), c) = some (i1, c') ∧ zlp fX12_reports_l176 (n' + 1) ((((e : Int) + d) % 8), m) = some (i2, m') ∧ RK L2 B c' (m' (51, 0, 0)) ∧ (∀ q, ¬ PG L2 q → c' q = c q) ∧ (∀ q, q ≠ (51, 0, 0) → m' q = m q) ∧ ∀ k, ¬ GG k → m' (51, 0, 0) k = m (51, 0, 0) k := fun v hv g1 g2 => by
      obtain ⟨c1, m1, k1, k2, k3, k4, k5, k6, k7⟩ := step v hv
      have kk : ∀ k, k < 30 ∨ 39 ≤ k ∧ k < 47 ∨ 55 ≤ k → m1 (51, 0, 0) k = m (51, 0, 0) k := fun k hk => k7 k (by unfold GG; omega)
      obtain ⟨i1, i2, c2, m2, l1, l2, l3, l4, l5, l6⟩ := ih (d + 1) n n' c1 m1 (by omega) k3 rfl (by rw [kk _ (by decide), h29]) (by rw [kk _ (by decide), h28]) k4 (by rw [kk _ (by decide), h0]) hb (fun s hs => (hbs s hs).trans ⟨fun ⟨p, p1, p2⟩ => ⟨p, p1, by rw [kk _ (by omega)]; exact p2⟩, fun ⟨p, p1, p2⟩ => ⟨p, p1, by rw [← p2, kk _ (by omega)]⟩⟩) (by omega) (by omega)
      exact ⟨i1, i2, c2, m2, by rw [zlp_in (g1.trans k1)]; exact l1, by rw [zlp_in (g2.trans k2)]; exact l2, l3, fun q hq => by rw [l4 q hq, k5 q hq], fun q hq => by rw [l5 q hq, k6 q hq], fun k hk => by rw [l6 k hk, k7 k hk]⟩
    by_cases c0 : m (51, 0, 0) (56 + s) = -1
    · refine glue 0 (Or.inl rfl) ?_ ?_
      · unfold fX7_learn_l127
        simp only [zlet_eq, hc8, es, xs, hs.1, w56]
        rw [if_neg (by rw [hw, w32_n (by omega), w32_n (by omega)]; omega), if_pos zs, if_pos c0]
      · unfold fX12_reports_l176
        simp only [es, x56, w56, h28, ws, w28]
        rw [if_neg (by omega), if_pos z56, if_pos c0]
    · refine glue 1 (Or.inr rfl) ?_ ?_
      · unfold fX7_learn_l127
        simp only [zlet_eq, hc8, es, xs, hs.1, w56]
        rw [if_neg (by rw [hw, w32_n (by omega), w32_n (by omega)]; omega), if_pos zs, if_neg c0]
      · unfold fX12_reports_l176
        simp only [es, x56, w56, h28, ws, w28]
        rw [if_neg (by omega), if_pos z56, if_neg c0]
