/-! THE SENDER: able, answers -/
/-- only a slot changed -/
theorem RK.slot {L : Nat} {B : Int} {c c' : zMem} {g g' : Nat → Int} (h : RK L B c g) {p : Nat} (hl : Rl L p (329 + 88 * p) c' g') (hc : sK (fun q => q = (10, L, p) ∨ q = (37, L, p)) c c') (hg : ∀ k, k < 329 + 88 * p ∨ 329 + 88 * p + 6 ≤ k → k < 329 + 88 * p + 49 ∨ 329 + 88 * p + 88 ≤ k → g' k = g k) : RK L B c' g' := by
  obtain ⟨h1, h2, h3, h4, h5, h6⟩ := h
  have e : ∀ r p', r ≠ 10 → r ≠ 37 → kab r = true → c' (r, L, p') = c (r, L, p') := fun r p' a1 a2 a3 => hc _ a3 (by simp [a1, a2])
  have e2 : ∀ r p', p' ≠ p → kab r = true → c' (r, L, p') = c (r, L, p') := fun r p' a1 a3 => hc _ a3 (by simp [a1])
  refine ⟨h1.cg (fun k _ => by rw [e 7 0 (by decide) (by decide) rfl]) (fun k hk => hg k (by omega) (by omega)), h2.cg (e 8 0 (by decide) (by decide) rfl) (e 33 0 (by decide) (by decide) rfl) (e 34 0 (by decide) (by decide) rfl) (e 35 0 (by decide) (by decide) rfl) (e 36 0 (by decide) (by decide) rfl) (fun k k1 k2 => hg k (by omega) (by omega)), h3.cg (fun k _ _ => by rw [e 9 0 (by decide) (by decide) rfl]) (e 39 0 (by decide) (by decide) rfl) (e 40 0 (by decide) (by decide) rfl) (fun k k1 k2 _ _ _ _ => hg k (by omega) (by omega)), h4.cg (by rw [e 9 0 (by decide) (by decide) rfl]) (by rw [e 9 0 (by decide) (by decide) rfl]) (hg 55 (by omega) (by omega)) (hg 64 (by omega) (by omega)) (hg 65 (by omega) (by omega)), fun p' hp => ?_, fun p' hp => (h6 p' hp).cg (e 11 p' (by decide) (by decide) rfl) (e 41 p' (by decide) (by decide) rfl) (fun k k1 k2 => hg k (by omega) (by omega))⟩
  by_cases ep : p' = p
  · rw [ep]; exact hl
  · exact (h5 p' hp).cg (e2 10 p' ep rfl) (e2 37 p' ep rfl) (hg 0 (by omega) (by omega)) (hg 3 (by omega) (by omega)) (fun k k1 k2 k3 => hg k (by omega) (by omega)) (fun k k1 k2 => hg k (by omega) (by omega))
theorem r_able {L p o : Nat} {B : Int} {c m : zMem} (hp : p < 8) (ho : o = 329 + 88 * p) (h : RK L B c (m (51, 0, 0))) : ∃ b, fX7_isAble L (p : Int) (m (51, 0, 0) 1) c = some b ∧ fX12_canSend (p : Int) m = some b ∧ (b = 0 ∨ b = 1 ∧ m (51, 0, 0) (o + 4) = 0 ∧ (m (51, 0, 0) o = -1 → m (51, 0, 0) 30 ≤ 0 → 0 < m (51, 0, 0) 7 ∧ (m (51, 0, 0) 28 - m (51, 0, 0) 29) % 8 < m (51, 0, 0) 1)) := by
  have hl := h.2.2.2.2.1 p hp
  rw [← ho] at hl
  obtain ⟨⟨b1, b2, b3⟩, -, -, ⟨b5, b6, b7⟩, -⟩ := hl
  obtain ⟨-, -, ⟨p2a, p2b⟩, -⟩ := h.1
  obtain ⟨⟨s1, s2, s3⟩, -, ⟨s4, s5, s6⟩, -, ⟨s7, s8, s9⟩, ⟨s10, s11, s12⟩, -⟩ := h.2.1
  have x0 : ix ((o : Int) + 0) = o := io o 0 (by omega)
  have z0 : zin ((o : Int) + 0) 3099 := zo o 0 (by omega)
  have x4 : ix ((o : Int) + 4) = o + 4 := io o 4 (by omega)
  have z4 : zin ((o : Int) + 4) 3099 := zo o 4 (by omega)
  have xp : ix (p : Int) = p := ix_nat (by omega)
  have w0 : w32 (m (51, 0, 0) o) = m (51, 0, 0) o := w32_id (by omega) (by omega)
  have w4 : w32 (m (51, 0, 0) (o + 4)) = m (51, 0, 0) (o + 4) := w32_id (by omega) (by omega)
  have w30 : w32 (m (51, 0, 0) 30) = m (51, 0, 0) 30 := w32_id (by omega) (by omega)
  have w7 : w32 (m (51, 0, 0) 7) = m (51, 0, 0) 7 := w32_id (by omega) (by omega)
  have w1 : w32 (m (51, 0, 0) 1) = m (51, 0, 0) 1 := w32_id (by omega) (by omega)
  have wk : w32 ((m (51, 0, 0) 28 - m (51, 0, 0) 29) % 8) = (m (51, 0, 0) 28 - m (51, 0, 0) 29) % 8 := w32_emod _ _ (by decide)
  unfold fX7_isAble fX12_canSend fX7_isAble_b46 fX7_isAble_b50 fX12_canSend_b86 fX7_howManyKept fX12_past
  simp only [m_own ho, zb_some, xp, x0, x4, b1, b5, s1, s4, s7, s10, w0, w4, w30, w7, w1, wk]
  rw [if_pos (zin_nat hp (by decide)), if_pos z4]
  by_cases c4 : m (51, 0, 0) (o + 4) = 0
  · rw [if_pos c4, if_neg (show ¬ m (51, 0, 0) (o + 4) = 1 by omega), if_pos z0]
    by_cases c0 : m (51, 0, 0) o = -1
    · rw [if_pos c0, if_pos c0]
      by_cases c30 : m (51, 0, 0) 30 ≤ 0
      · rw [if_neg (show ¬ 0 < m (51, 0, 0) 30 by omega), if_pos c30]
        by_cases c7 : m (51, 0, 0) 7 ≤ 0
        · simp only [if_pos c7]
          exact ⟨0, rfl, rfl, Or.inl rfl⟩
        · simp only [if_neg c7]
          by_cases c1 : m (51, 0, 0) 1 ≤ (m (51, 0, 0) 28 - m (51, 0, 0) 29) % 8
          · simp only [if_pos c1]
            exact ⟨0, rfl, rfl, Or.inl rfl⟩
          · simp only [if_neg c1]
            exact ⟨1, rfl, rfl, Or.inr ⟨rfl, c4, fun _ _ => ⟨by omega, by omega⟩⟩⟩
      · rw [if_pos (show 0 < m (51, 0, 0) 30 by omega), if_neg c30]
        exact ⟨1, rfl, rfl, Or.inr ⟨rfl, c4, fun _ e => absurd e c30⟩⟩
    · rw [if_neg c0, if_neg c0]
      exact ⟨1, rfl, rfl, Or.inr ⟨rfl, c4, fun e _ => absurd e c0⟩⟩
  · rw [if_neg c4, if_pos (show m (51, 0, 0) (o + 4) = 1 by omega)]
    exact ⟨0, rfl, rfl, Or.inl rfl⟩
theorem c_letGo (L p : Nat) (c : zMem) : fX8_letGo L p c = some (zst (zst (zst c (10, L, p) 0 (-1)) (10, L, p) 2 0) (10, L, p) 3 0) := by
  unfold fX8_letGo; simp only [zlet_eq]
theorem m_isIdle {p o : Nat} (hp : p < 8) (ho : o = 329 + 88 * p) (m : zMem) : fX12_isIdle (p : Int) m = some (zst (zst (zst m (51, 0, 0) o (-1)) (51, 0, 0) (o + 3) 0) (51, 0, 0) (o + 4) 0) := by
  have x0 : ix ((o : Int) + 0) = o := io o 0 (by omega)
  have z0 : zin ((o : Int) + 0) 3099 := zo o 0 (by omega)
  have x3 : ix ((o : Int) + 3) = o + 3 := io o 3 (by omega)
  have z3 : zin ((o : Int) + 3) 3099 := zo o 3 (by omega)
  have x4 : ix ((o : Int) + 4) = o + 4 := io o 4 (by omega)
  have z4 : zin ((o : Int) + 4) 3099 := zo o 4 (by omega)
  unfold fX12_isIdle
  simp only [zlet_eq, m_own ho, zb_some, x0, x3, x4]
  rw [if_pos z0, if_pos z3, if_pos z4]
theorem RK.idle {L p o : Nat} {B : Int} {c m : zMem} (hp : p < 8) (ho : o = 329 + 88 * p) (h : RK L B c (m (51, 0, 0))) : RK L B (zst (zst (zst c (10, L, p) 0 (-1)) (10, L, p) 2 0) (10, L, p) 3 0) (zst (zst (zst m (51, 0, 0) o (-1)) (51, 0, 0) (o + 3) 0) (51, 0, 0) (o + 4) 0 (51, 0, 0)) := by
  have hl := h.2.2.2.2.1 p hp
  refine h.slot (p := p) ?_ (fun q a1 a2 => by rw [zst_nq (fun e => a2 (Or.inl e)), zst_nq (fun e => a2 (Or.inl e)), zst_nq (fun e => a2 (Or.inl e))]) (fun k k1 k2 => by rw [zst_nk (by omega), zst_nk (by omega), zst_nk (by omega)])
  rw [← ho] at hl ⊢
  obtain ⟨a1, a2, a3, a4, a5, a6, a7, a8⟩ := hl
  have e0 : zst (zst (zst m (51, 0, 0) o (-1)) (51, 0, 0) (o + 3) 0) (51, 0, 0) (o + 4) 0 (51, 0, 0) o = -1 := by rw [zst_nk (by omega), zst_nk (by omega), zst_at]
  have e3 : zst (zst (zst m (51, 0, 0) o (-1)) (51, 0, 0) (o + 3) 0) (51, 0, 0) (o + 4) 0 (51, 0, 0) (o + 3) = 0 := by rw [zst_nk (by omega), zst_at]
  have e4 : zst (zst (zst m (51, 0, 0) o (-1)) (51, 0, 0) (o + 3) 0) (51, 0, 0) (o + 4) 0 (51, 0, 0) (o + 4) = 0 := zst_at
  rw [Rl, e0, e3, e4]
  exact ⟨⟨by rw [zst_nk (by omega), zst_nk (by omega), zst_at], by decide, by decide⟩, by rw [zst_nk (by omega), zst_nk (by omega), zst_nk (by omega), zst_nk (by omega), zst_nk (by omega), zst_nk (by omega)]; exact a2, ⟨by rw [zst_nk (by omega), zst_at], by decide, by decide⟩, ⟨zst_at, by decide, by decide⟩, by rw [zst_nk (by omega), zst_nk (by omega), zst_nk (by omega), zst_nk (by omega), zst_nk (by omega), zst_nk (by omega)]; exact a5, fun _ => ⟨rfl, rfl⟩, fun e => absurd rfl e, fun _ => rfl⟩
theorem Rs.drop {L : Nat} {c m : zMem} (h : Rs L c (m (51, 0, 0))) : Rs L (zst c (8, L, 0) 9 (c (8, L, 0) 9 + 1)) (zst m (51, 0, 0) 70 (m (51, 0, 0) 70 + 1) (51, 0, 0)) := by
  obtain ⟨a1, a2, a3, a4, a5, a6, a7, a8, a9⟩ := h
  refine ⟨by rw [zst_nk (by omega), zst_nk (by omega)]; exact a1, fun i hi => ?_, by rw [zst_nk (by omega), zst_nk (by omega)]; exact a3, fun i hi => ?_, by rw [zst_nk (by omega), zst_nk (by omega)]; exact a5, by rw [zst_nk (by omega), zst_nk (by omega)]; exact a6, fun s hs => ?_, by rw [zst_at, zst_at, a8], by rw [zst_nk (by omega), zst_nk (by omega)]; exact a9⟩
  · rw [zst_nk (by omega)] at hi
    rw [zst_nq (by simp), zst_nk (by omega)]; exact a2 i hi
  · rw [zst_nk (by omega)] at hi
    rw [zst_nq (by simp), zst_nk (by omega), pky_cg (g := m (51, 0, 0)) (by rw [zst_nk (by omega)]) (by rw [zst_nk (by omega)])]; exact a4 i hi
  · rw [pky_cg (g := m (51, 0, 0)) (by rw [zst_nk (by omega)]) (by rw [zst_nk (by omega)]), zst_nq (q' := (34, L, 0)) (by simp), zst_nq (q' := (35, L, 0)) (by simp), zst_nk (j := 39 + s) (by omega), zst_nk (j := 47 + s) (by omega)]; exact a7 s hs
/-- only the sender's own numbers and rows changed, what is kept not -/
theorem RK.snd {L : Nat} {B : Int} {c c' : zMem} {g g' : Nat → Int} (h : RK L B c g) (hs : Rs L c' g') (hc : sK (fun q => q = (8, L, 0)) c c') (hg : ∀ k, k ≠ 70 → g' k = g k) : RK L B c' g' := by
  obtain ⟨h1, h2, h3, h4, h5, h6⟩ := h
  have e : ∀ r p', r ≠ 8 → kab r = true → c' (r, L, p') = c (r, L, p') := fun r p' a1 a3 => hc _ a3 (by simp [a1])
  exact ⟨h1.cg (fun k _ => by rw [e 7 0 (by decide) rfl]) (fun k hk => hg k (by omega)), hs, h3.cg (fun k _ _ => by rw [e 9 0 (by decide) rfl]) (e 39 0 (by decide) rfl) (e 40 0 (by decide) rfl) (fun k k1 k2 _ _ _ _ => hg k (by omega)), h4.cg (by rw [e 9 0 (by decide) rfl]) (by rw [e 9 0 (by decide) rfl]) (hg 55 (by omega)) (hg 64 (by omega)) (hg 65 (by omega)), fun p' hp => (h5 p' hp).cg (e 10 p' (by decide) rfl) (e 37 p' (by decide) rfl) (hg 0 (by omega)) (hg 3 (by omega)) (fun k k1 k2 k3 => hg k (by omega)) (fun k k1 k2 => hg k (by omega)), fun p' hp => (h6 p' hp).cg (e 11 p' (by decide) rfl) (e 41 p' (by decide) rfl) (fun k k1 k2 => hg k (by omega))⟩
def PA (L p : Nat) (q : zPl) : Prop := q = (10, L, p) ∨ q = (37, L, p) ∨ q = (8, L, 0)
def GA (o k : Nat) : Prop := (o ≤ k ∧ k < o + 6) ∨ k = 70
theorem r_readsB {L p o : Nat} {B a how w : Int} {c m : zMem} (hp : p < 8) (ho : o = 329 + 88 * p) (h : RK L B c (m (51, 0, 0))) (hask : m (51, 0, 0) (o + 4) = 1) (hw : -1 ≤ w ∧ w ≤ 1) : ∃ c' m', fX4_readAnswer_b65 L a how p w c = some (w, c') ∧ fX12_reads_b58 (p : Int) how (o : Int) w m = some (w, m') ∧ RK L B c' (m' (51, 0, 0)) ∧ sK (PA L p) c c' ∧ sJ (GA o) m m' := by
  have hl := h.2.2.2.2.1 p hp
  have hl0 := hl
  rw [← ho] at hl
  obtain ⟨a1, a2, a3, a4, a5, a6, a7, a8⟩ := hl
  obtain ⟨p0, -, -, -, ⟨p3a, p3b⟩, -⟩ := h.1
  have hn : ¬ m (51, 0, 0) o = -1 := fun e => by have := (a6 e).2; omega
  obtain ⟨d1, d2, d3, d4, d5⟩ := a7 hn
  have x3 : ix ((o : Int) + 3) = o + 3 := io o 3 (by omega)
  have z3 : zin ((o : Int) + 3) 3099 := zo o 3 (by omega)
  have x4 : ix ((o : Int) + 4) = o + 4 := io o 4 (by omega)
  have z4 : zin ((o : Int) + 4) 3099 := zo o 4 (by omega)
  have ww : w32 w = w := w32_id (by omega) (by omega)
  have w3 : w32 (m (51, 0, 0) (o + 3)) = m (51, 0, 0) (o + 3) := w32_id (by omega) (by omega)
  have wt : w32 (m (51, 0, 0) 3) = m (51, 0, 0) 3 := w32_id (by omega) (by omega)
  have r1 : zst c (10, L, p) 3 0 (10, L, p) 2 = m (51, 0, 0) (o + 3) := by rw [zst_nk (by omega)]; exact a3.1
  have r2 : zst c (10, L, p) 3 0 (7, L, 0) 3 = m (51, 0, 0) 3 := by rw [zst_nq (by simp)]; exact p0 3 (by decide)
  have r3 : zst m (51, 0, 0) (o + 4) 0 (51, 0, 0) (o + 3) = m (51, 0, 0) (o + 3) := by rw [zst_nk (by omega)]
  have r4 : zst m (51, 0, 0) (o + 4) 0 (51, 0, 0) 3 = m (51, 0, 0) 3 := by rw [zst_nk (by omega)]
  have hI := RK.idle hp ho h
  have cI : zst (zst (zst (zst c (10, L, p) 3 0) (10, L, p) 0 (-1)) (10, L, p) 2 0) (10, L, p) 3 0 = zst (zst (zst c (10, L, p) 0 (-1)) (10, L, p) 2 0) (10, L, p) 3 0 := by
    funext q k
    by_cases c1 : q = (10, L, p)
    · subst c1
      by_cases c2 : k = 3
      · subst c2; rw [zst_at, zst_at]
      · rw [zst_nk c2, zst_nk c2]
        by_cases c3 : k = 2
        · subst c3; rw [zst_at, zst_at]
        · rw [zst_nk c3, zst_nk c3]
          by_cases c4 : k = 0
          · subst c4; rw [zst_at, zst_at]
          · rw [zst_nk c4, zst_nk c4, zst_nk c2]
    · rw [zst_nq c1, zst_nq c1, zst_nq c1, zst_nq c1, zst_nq c1, zst_nq c1, zst_nq c1]
  have mI : zst (zst (zst (zst m (51, 0, 0) (o + 4) 0) (51, 0, 0) o (-1)) (51, 0, 0) (o + 3) 0) (51, 0, 0) (o + 4) 0 = zst (zst (zst m (51, 0, 0) o (-1)) (51, 0, 0) (o + 3) 0) (51, 0, 0) (o + 4) 0 := by
    funext q k
    by_cases c1 : q = (51, 0, 0)
    · subst c1
      by_cases c2 : k = o + 4
      · subst c2; rw [zst_at, zst_at]
      · rw [zst_nk c2, zst_nk c2]
        by_cases c3 : k = o + 3
        · subst c3; rw [zst_at, zst_at]
        · rw [zst_nk c3, zst_nk c3]
          by_cases c4 : k = o
          · subst c4; rw [zst_at, zst_at]
          · rw [zst_nk c4, zst_nk c4, zst_nk c2]
    · rw [zst_nq c1, zst_nq c1, zst_nq c1, zst_nq c1, zst_nq c1, zst_nq c1, zst_nq c1]
  have sI : sK (PA L p) c (zst (zst (zst c (10, L, p) 0 (-1)) (10, L, p) 2 0) (10, L, p) 3 0) := fun q e1 e2 => by rw [zst_nq (fun e => e2 (Or.inl e)), zst_nq (fun e => e2 (Or.inl e)), zst_nq (fun e => e2 (Or.inl e))]
  have jI : sJ (GA o) m (zst (zst (zst m (51, 0, 0) o (-1)) (51, 0, 0) (o + 3) 0) (51, 0, 0) (o + 4) 0) := ⟨fun q hq => by rw [zst_nq (kn_ne hq rfl), zst_nq (kn_ne hq rfl), zst_nq (kn_ne hq rfl)], fun k hk => by
    unfold GA at hk
    rw [zst_nk (by omega), zst_nk (by omega), zst_nk (by omega)]⟩
  unfold fX4_readAnswer_b65 fX12_reads_b58
  simp only [zlet_eq, c_letGo, m_isIdle hp ho, zb_some, x3, x4, ww, r1, r2, r3, r4, w3, wt, cI, mI]
  rw [if_pos z4]
  by_cases c1 : w = 1
  · rw [if_pos c1, if_pos c1]
    exact ⟨_, _, rfl, rfl, hI, sI, jI⟩
  · rw [if_neg c1, if_neg c1, if_pos z3]
    by_cases c2 : m (51, 0, 0) (o + 3) < m (51, 0, 0) 3
    · rw [if_pos c2, if_neg (show ¬ m (51, 0, 0) (o + 3) = m (51, 0, 0) 3 by omega)]
      refine ⟨_, _, rfl, rfl, ?_, fun q e1 e2 => zst_nq (fun e => e2 (Or.inl e)), ⟨fun q hq => zst_nq (kn_ne hq rfl), fun k hk => zst_nk (by unfold GA at hk; omega)⟩⟩
      refine h.slot (p := p) ?_ (fun q e1 e2 => zst_nq (fun e => e2 (Or.inl e))) (fun k k1 k2 => zst_nk (by omega))
      rw [← ho]
      refine ⟨by rw [zst_nk (by omega), zst_nk (by omega)]; exact a1, by rw [zst_nk (by omega), zst_nk (by omega)]; exact a2, by rw [zst_nk (by omega), zst_nk (by omega)]; exact a3, by rw [zst_at, zst_at]; decide, by rw [zst_nk (by omega), zst_nk (by omega)]; exact a5, by rw [zst_nk (by omega), zst_nk (by omega), zst_at]; exact fun e => ⟨(a6 e).1, rfl⟩, fun _ => ?_, by rw [zst_nk (by omega), zst_nk (by omega)]; exact a8⟩
      have g39 : zst m (51, 0, 0) (o + 4) 0 (51, 0, 0) o = m (51, 0, 0) o := by rw [zst_nk (by omega)]
      rw [g39, zst_at, pky_cg (g := m (51, 0, 0)) (by rw [zst_nk (by omega)]) (by rw [zst_nk (by omega)]), zst_nk (k := o + 4) (j := o + 1) (by omega), zst_nk (k := o + 4) (j := 39 + (m (51, 0, 0) o).toNat) (by omega), r3, r4]
      refine ⟨d1, d2, d3, fun _ => c2, fun k hk => ?_⟩
      rw [zst_nq (by simp), zst_nk (by omega)]; exact d5 k hk
    · rw [if_neg c2, if_pos (show m (51, 0, 0) (o + 3) = m (51, 0, 0) 3 by omega)]
      refine ⟨_, _, rfl, rfl, hI.snd hI.2.1.drop (fun q e1 e2 => zst_nq e2) (fun k hk => zst_nk hk), sI.tr (fun q e1 e2 => zst_nq (fun e => e2 (Or.inr (Or.inr e)))), jI.tr ⟨fun q hq => zst_nq (kn_ne hq rfl), fun k hk => zst_nk (by unfold GA at hk; omega)⟩⟩
theorem r_reads {L p o : Nat} {B how : Int} {c m : zMem} (hp : p < 8) (ho : o = 329 + 88 * p) (h : RK L B c (m (51, 0, 0))) (hask : m (51, 0, 0) (o + 4) = 1) (hh : 0 ≤ how ∧ how ≤ 2) : ∃ w c' m', fX4_readAnswer L (p : Int) how c = some (w, c') ∧ fX12_reads (p : Int) how m = some (w, m') ∧ RK L B c' (m' (51, 0, 0)) ∧ sK (PA L p) c c' ∧ sJ (GA o) m m' := by
  have hl := h.2.2.2.2.1 p hp
  have hr := h.2.2.2.2.2 p hp
  rw [← ho] at hl hr
  obtain ⟨-, -, -, -, ⟨a5, a6, a7⟩, -⟩ := hl
  obtain ⟨-, -, ⟨b5, b6, b7⟩, -⟩ := hr
  have x5 : ix ((o : Int) + 5) = o + 5 := io o 5 (by omega)
  have z5 : zin ((o : Int) + 5) 3099 := zo o 5 (by omega)
  have x8 : ix ((o : Int) + 8) = o + 8 := io o 8 (by omega)
  have z8 : zin ((o : Int) + 8) 3099 := zo o 8 (by omega)
  have xp : ix (p : Int) = p := ix_nat (by omega)
  have wh : w32 how = how := w32_id (by omega) (by omega)
  have w5 : w32 (m (51, 0, 0) (o + 5)) = m (51, 0, 0) (o + 5) := w32_id (by omega) (by omega)
  have w8 : w32 (m (51, 0, 0) (o + 8)) = m (51, 0, 0) (o + 8) := w32_id (by omega) (by omega)
  have wm : w32 (-1) = -1 := by decide
  have w00 : w32 0 = 0 := by decide
  have w11 : w32 1 = 1 := by decide
  unfold fX4_readAnswer fX4_readAnswer_b45 fX4_readAnswer_b47 fX4_readAnswer_b63 fX12_reads fX12_reads_b30 fX12_reads_b48 fX12_reads_b50
  simp only [m_own ho, zb_some, xp, x5, x8, a5, b5, wh, w5, w8, wm, w00, w11]
  rw [if_pos (zin_nat hp (by decide)), if_pos z5, if_pos z8]
  by_cases e2 : how = 2
  · subst e2
    obtain ⟨c', m', k1, k2, k3⟩ := r_readsB (a := (p : Int)) (how := 2) (w := -1) hp ho h hask (by decide)
    refine ⟨-1, c', m', ?_, ?_, k3⟩
    · rw [if_pos rfl, if_neg (by decide)]; exact k1
    · by_cases e5 : m (51, 0, 0) (o + 5) = 0
      · rw [if_pos e5, if_neg (by decide), if_pos rfl]; exact k2
      · rw [if_neg e5, if_neg (by decide), if_pos rfl]; exact k2
  · simp only [if_neg e2]
    by_cases e5 : m (51, 0, 0) (o + 5) = 0
    · simp only [if_pos e5]
      by_cases e1 : how = 1
      · simp only [if_pos e1, if_neg (show ¬ (-1 : Int) = 1 by decide)]
        obtain ⟨c', m', k1, k2, k3⟩ := r_readsB (a := (p : Int)) (how := how) (w := 1) hp ho h hask (by decide)
        exact ⟨1, c', m', k1, k2, k3⟩
      · simp only [if_neg e1]
        obtain ⟨c', m', k1, k2, k3⟩ := r_readsB (a := (p : Int)) (how := how) (w := -1) hp ho h hask (by decide)
        exact ⟨-1, c', m', k1, k2, k3⟩
    · simp only [if_neg e5]
      by_cases e8 : m (51, 0, 0) (o + 8) = 0
      · rw [if_pos e8]
        simp only [e8]
        by_cases e1 : how = 1
        · simp only [if_pos e1, if_neg (show ¬ (0 : Int) = 1 by decide)]
          obtain ⟨c', m', k1, k2, k3⟩ := r_readsB (a := (p : Int)) (how := how) (w := 1) hp ho h hask (by decide)
          exact ⟨1, c', m', k1, k2, k3⟩
        · simp only [if_neg e1]
          obtain ⟨c', m', k1, k2, k3⟩ := r_readsB (a := (p : Int)) (how := how) (w := 0) hp ho h hask (by decide)
          exact ⟨0, c', m', k1, k2, k3⟩
      · have e8' : m (51, 0, 0) (o + 8) = 1 := by omega
        rw [if_neg e8]
        simp only [e8']
        by_cases e1 : how = 1
        · simp only [if_pos e1, if_true]
          obtain ⟨c', m', k1, k2, k3⟩ := r_readsB (a := (p : Int)) (how := how) (w := 0) hp ho h hask (by decide)
          exact ⟨0, c', m', k1, k2, k3⟩
        · simp only [if_neg e1]
          obtain ⟨c', m', k1, k2, k3⟩ := r_readsB (a := (p : Int)) (how := how) (w := 1) hp ho h hask (by decide)
          exact ⟨1, c', m', k1, k2, k3⟩
