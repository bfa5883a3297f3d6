/-! REPORTS: loops of the class and of the model -/
theorem c_isKept {L : Nat} {c : zMem} {n e : Int} (hn : c (8, L, 0) 7 = n) (he : c (8, L, 0) 8 = e) (s : Int) : fX7_isKept L s c = some (if (s - e) % 8 < (n - e) % 8 then 1 else 0) := by
  have wk : w32 ((n - e) % 8) = (n - e) % 8 := w32_emod _ _ (by decide)
  unfold fX7_isKept fX7_howManyKept
  rw [zb_some, hn, he, wk]
  by_cases c0 : (s - e) % 8 < (n - e) % 8
  · rw [if_pos c0, if_neg (by omega)]
  · rw [if_neg c0, if_pos (by omega)]
theorem bit_or {b s t : Nat} : (b ||| 2 ^ s) / 2 ^ t % 2 = 1 ↔ b / 2 ^ t % 2 = 1 ∨ s = t := by
  have h := Nat.testBit_or b (2 ^ s) t
  rw [Nat.testBit_eq_decide_div_mod_eq, Nat.testBit_eq_decide_div_mod_eq, Nat.testBit_two_pow] at h
  constructor
  · intro h1
    rw [decide_eq_true h1] at h
    rcases (Bool.or_eq_true _ _).mp h.symm with h2 | h2
    · exact Or.inl (of_decide_eq_true h2)
    · exact Or.inr (of_decide_eq_true h2)
  · intro h1
    apply of_decide_eq_true
    rw [h]
    apply (Bool.or_eq_true _ _).mpr
    rcases h1 with h2 | h2
    · exact Or.inl (decide_eq_true h2)
    · exact Or.inr (decide_eq_true h2)
/-- a slot whose block isn't kept any more -/
def dI (sl : Nat → Int) (n e : Int) (p : Nat) : Prop := ¬ sl p = -1 ∧ ¬ (sl p - e) % 8 < (n - e) % 8
theorem c_slots {L L2 : Nat} {c : zMem} {n e : Int} {sl : Nat → Int} (hn : c (8, L, 0) 7 = n) (he : c (8, L, 0) 8 = e) (hs : ∀ p, p < 8 → c (10, L, p) 0 = sl p ∧ -1 ≤ sl p ∧ sl p ≤ 7) : ∃ (b : Nat) (i' : Int) (K : zMem), zlp (fX7_learn_l51 L L2) 5000 (0, 0, c) = some ((b : Int), i', K) ∧ b < 256 ∧ (∀ s : Nat, s < 8 → (b / 2 ^ s % 2 = 1 ↔ ∃ p, p < 8 ∧ sl p = s ∧ ¬ dI sl n e p)) ∧ (∀ q, (∀ p, q ≠ (10, L, p)) → K q = c q) ∧ ∀ p, p < 8 → (¬ dI sl n e p → K (10, L, p) = c (10, L, p)) ∧ (dI sl n e p → K (10, L, p) = zst (zst (zst c (10, L, p) 0 (-1)) (10, L, p) 2 0) (10, L, p) 3 0 (10, L, p)) := by
  have hh := zlp_inv (body := fX7_learn_l51 L L2) (fun j st => (∃ b : Nat, st.1 = (b : Int) ∧ b < 256 ∧ ∀ s : Nat, s < 8 → (b / 2 ^ s % 2 = 1 ↔ ∃ p, p < j ∧ sl p = s ∧ ¬ dI sl n e p)) ∧ st.2.1 = (j : Int) ∧ (∀ q, (∀ p, q ≠ (10, L, p)) → st.2.2 q = c q) ∧ (∀ p, p < j → (¬ dI sl n e p → st.2.2 (10, L, p) = c (10, L, p)) ∧ (dI sl n e p → st.2.2 (10, L, p) = zst (zst (zst c (10, L, p) 0 (-1)) (10, L, p) 2 0) (10, L, p) 3 0 (10, L, p))) ∧ ∀ p, j ≤ p → st.2.2 (10, L, p) = c (10, L, p)) (fun st => (∃ b : Nat, st.1 = (b : Int) ∧ b < 256 ∧ ∀ s : Nat, s < 8 → (b / 2 ^ s % 2 = 1 ↔ ∃ p, p < 8 ∧ sl p = s ∧ ¬ dI sl n e p)) ∧ (∀ q, (∀ p, q ≠ (10, L, p)) → st.2.2 q = c q) ∧ ∀ p, p < 8 → (¬ dI sl n e p → st.2.2 (10, L, p) = c (10, L, p)) ∧ (dI sl n e p → st.2.2 (10, L, p) = zst (zst (zst c (10, L, p) 0 (-1)) (10, L, p) 2 0) (10, L, p) 3 0 (10, L, p))) 8 (N := 5000) (by decide) (s0 := (0, 0, c)) ⟨⟨0, rfl, by decide, fun s hs => ⟨fun h => by simp at h, fun ⟨p, hp, _⟩ => absurd hp (Nat.not_lt_zero p)⟩⟩, rfl, fun _ _ => rfl, fun p hp => absurd hp (Nat.not_lt_zero p), fun _ _ => rfl⟩ ?_ ?_
  · obtain ⟨⟨b0, i', K⟩, hr, ⟨b, r1, r2, r3⟩, r4, r5⟩ := hh
    dsimp only at r1 r4 r5
    subst r1
    exact ⟨b, i', K, hr, r2, r3, r4, r5⟩
  · rintro j ⟨b0, t1, K⟩ hj ⟨⟨b, a1, a2, a3⟩, a4, a5, a6, a7⟩
    dsimp only at a1 a4 a5 a6 a7
    subst a1 a4
    obtain ⟨s1, s2, s3⟩ := hs j hj
    have xj : ix (j : Int) = j := ix_nat (by omega)
    have e0 : K (10, L, j) 0 = sl j := by rw [a7 j (by omega), s1]
    have w0 : w32 (sl j) = sl j := w32_id (by omega) (by omega)
    have k7 : K (8, L, 0) 7 = n := by rw [a5 _ (by simp), hn]
    have k8 : K (8, L, 0) 8 = e := by rw [a5 _ (by simp), he]
    -- a slot that keeps its block
    have stay : ∀ b' : Nat, b' < 256 → (∀ s : Nat, s < 8 → (b' / 2 ^ s % 2 = 1 ↔ ∃ p, p < j + 1 ∧ sl p = s ∧ ¬ dI sl n e p)) → ¬ dI sl n e j → (∃ b : Nat, ((b' : Int)) = (b : Int) ∧ b < 256 ∧ ∀ s : Nat, s < 8 → (b / 2 ^ s % 2 = 1 ↔ ∃ p, p < j + 1 ∧ sl p = s ∧ ¬ dI sl n e p)) ∧ (j : Int) + 1 = ((j + 1 : Nat) : Int) ∧ (∀ q, (∀ p, q ≠ (10, L, p)) → K q = c q) ∧ (∀ p, p < j + 1 → (¬ dI sl n e p → K (10, L, p) = c (10, L, p)) ∧ (dI sl n e p → K (10, L, p) = zst (zst (zst c (10, L, p) 0 (-1)) (10, L, p) 2 0) (10, L, p) 3 0 (10, L, p))) ∧ ∀ p, j + 1 ≤ p → K (10, L, p) = c (10, L, p) := fun b' g1 g2 g3 => ⟨⟨b', rfl, g1, g2⟩, by omega, a5, fun p hp => by
      by_cases ep : p = j
      · subst ep; exact ⟨fun _ => a7 p (by omega), fun h => absurd h g3⟩
      · exact a6 p (by omega), fun p hp => a7 p (by omega)⟩
    unfold fX7_learn_l51 fX7_learn_b51_93 fX7_learn_b51_112
    simp only [zlet_eq]
    rw [if_neg (by rw [w32_n (by omega)]; omega)]
    simp only [xj, e0, w0]
    rw [if_pos (zin_nat hj (by decide))]
    by_cases c0 : sl j = -1
    · have hd : ¬ dI sl n e j := fun h => h.1 c0
      rw [if_pos c0, if_pos c0]
      exact Or.inl ⟨_, rfl, stay b a2 (fun s hs => (a3 s hs).trans ⟨fun ⟨p, h1, h2⟩ => ⟨p, by omega, h2⟩, fun ⟨p, h1, h2, h3⟩ => ⟨p, by
        rcases (show p = j ∨ p < j by omega) with e | e
        · subst e; omega
        · exact e, h2, h3⟩⟩) hd⟩
    · obtain ⟨x, ex⟩ := nat_of (show 0 ≤ sl j by omega)
      have x8 : x < 8 := by omega
      rw [if_neg c0, c_isKept k7 k8, zb_some]
      by_cases c1 : (sl j - e) % 8 < (n - e) % 8
      · have hd : ¬ dI sl n e j := fun h => h.2 c1
        have eo : ior (b : Int) (ishl 1 (sl j)) = ((b ||| 2 ^ x : Nat) : Int) := by
          have hp : 2 ^ x < 2147483648 := Nat.lt_of_le_of_lt (Nat.pow_le_pow_right (by decide) (show x ≤ 7 by omega)) (by decide)
          rw [ex, show (1 : Int) = ((1 : Nat) : Int) from rfl, ishl_nat (by omega), Nat.one_mul, ior_nat (by omega) hp]
        rw [if_pos c1, if_neg (by decide), if_neg c0, eo]
        refine Or.inl ⟨_, rfl, stay (b ||| 2 ^ x) (Nat.or_lt_two_pow (n := 8) a2 (Nat.pow_lt_pow_right (by decide) (by omega))) (fun s hs => ?_) hd⟩
        rw [bit_or, a3 s hs]
        constructor
        · rintro (⟨p, h1, h2⟩ | h1)
          · exact ⟨p, by omega, h2⟩
          · exact ⟨j, by omega, by omega, hd⟩
        · rintro ⟨p, h1, h2, h3⟩
          rcases (show p = j ∨ p < j by omega) with e | e
          · subst e; exact Or.inr (by omega)
          · exact Or.inl ⟨p, e, h2, h3⟩
      · have hd : dI sl n e j := ⟨c0, c1⟩
        have r0 : zst (zst (zst K (10, L, j) 0 (-1)) (10, L, j) 2 0) (10, L, j) 3 0 (10, L, j) 0 = -1 := by rw [zst_nk (by decide), zst_nk (by decide), zst_at]
        rw [if_neg c1, if_pos w32_0, c_letGo, zb_some, r0, if_pos (by decide)]
        refine Or.inl ⟨_, rfl, ⟨b, rfl, a2, fun s hs => (a3 s hs).trans ⟨fun ⟨p, h1, h2⟩ => ⟨p, by omega, h2⟩, fun ⟨p, h1, h2, h3⟩ => ⟨p, by
          rcases (show p = j ∨ p < j by omega) with e | e
          · subst e; exact absurd hd h3
          · exact e, h2, h3⟩⟩⟩, by dsimp only; omega, fun q hq => by dsimp only; rw [zst_nq (hq j), zst_nq (hq j), zst_nq (hq j), a5 q hq], fun p hp => ?_, fun p hp => ?_⟩
        · dsimp only
          by_cases ep : p = j
          · subst ep
            refine ⟨fun h => absurd hd h, fun _ => ?_⟩
            funext k
            have ek := congrFun (a7 p (by omega)) k
            simp only [zst_ap, ek]
          · have hne : ((10, L, p) : zPl) ≠ (10, L, j) := by simp [ep]
            rw [zst_nq hne, zst_nq hne, zst_nq hne]; exact a6 p (by omega)
        · dsimp only
          have hne : ((10, L, p) : zPl) ≠ (10, L, j) := by simp; omega
          rw [zst_nq hne, zst_nq hne, zst_nq hne]; exact a7 p (by omega)
  · rintro ⟨b0, t1, K⟩ ⟨a1, a4, a5, a6, a7⟩
    dsimp only at a1 a4 a5 a6 a7
    subst a4
    unfold fX7_learn_l51
    dsimp only
    rw [if_pos (by decide)]
    exact ⟨_, rfl, a1, a5, a6⟩
/-- what the slots of the model are behind a report -/
def mS (sl : Nat → Int) (n e : Int) (m M : zMem) (j : Nat) : Prop := (∀ q, q ≠ (51, 0, 0) → M q = m q) ∧ (∀ k, k < 329 ∨ 1033 ≤ k → M (51, 0, 0) k = m (51, 0, 0) k) ∧ (∀ p r, p < 8 → r < 88 → r ≠ 0 → r ≠ 3 → r ≠ 4 → M (51, 0, 0) (329 + 88 * p + r) = m (51, 0, 0) (329 + 88 * p + r)) ∧ (∀ p, p < j → (¬ dI sl n e p → M (51, 0, 0) (329 + 88 * p) = m (51, 0, 0) (329 + 88 * p) ∧ M (51, 0, 0) (329 + 88 * p + 3) = m (51, 0, 0) (329 + 88 * p + 3) ∧ M (51, 0, 0) (329 + 88 * p + 4) = m (51, 0, 0) (329 + 88 * p + 4)) ∧ (dI sl n e p → M (51, 0, 0) (329 + 88 * p) = -1 ∧ M (51, 0, 0) (329 + 88 * p + 3) = 0 ∧ M (51, 0, 0) (329 + 88 * p + 4) = 0)) ∧ ∀ p, j ≤ p → p < 8 → M (51, 0, 0) (329 + 88 * p) = m (51, 0, 0) (329 + 88 * p) ∧ M (51, 0, 0) (329 + 88 * p + 3) = m (51, 0, 0) (329 + 88 * p + 3) ∧ M (51, 0, 0) (329 + 88 * p + 4) = m (51, 0, 0) (329 + 88 * p + 4)
theorem mS.z {sl : Nat → Int} {n e : Int} (m : zMem) : mS sl n e m m 0 := ⟨fun _ _ => rfl, fun _ _ => rfl, fun _ _ _ _ _ _ _ => rfl, fun p hp => absurd hp (Nat.not_lt_zero p), fun _ _ _ => ⟨rfl, rfl, rfl⟩⟩
theorem mS.stay {sl : Nat → Int} {n e : Int} {m M : zMem} {j : Nat} (hj : j < 8) (h : mS sl n e m M j) (hd : ¬ dI sl n e j) : mS sl n e m M (j + 1) := by
  obtain ⟨a1, a2, a3, a4, a5⟩ := h
  refine ⟨a1, a2, a3, fun p hp => ?_, fun p hp => a5 p (by omega)⟩
  by_cases ep : p = j
  · subst ep; exact ⟨fun _ => a5 p (by omega) hj, fun h => absurd h hd⟩
  · exact a4 p (by omega)
theorem mS.idle {sl : Nat → Int} {n e : Int} {m M : zMem} {j o : Nat} (hj : j < 8) (ho : o = 329 + 88 * j) (h : mS sl n e m M j) (hd : dI sl n e j ∨ m (51, 0, 0) o = -1 ∧ m (51, 0, 0) (o + 3) = 0 ∧ m (51, 0, 0) (o + 4) = 0) : mS sl n e m (zst (zst (zst M (51, 0, 0) o (-1)) (51, 0, 0) (o + 3) 0) (51, 0, 0) (o + 4) 0) (j + 1) := by
  obtain ⟨a1, a2, a3, a4, a5⟩ := h
  refine ⟨fun q hq => by rw [zst_nq hq, zst_nq hq, zst_nq hq, a1 q hq], fun k hk => by rw [zst_nk (by omega), zst_nk (by omega), zst_nk (by omega)]; exact a2 k hk, fun p r h1 h2 h3 h4 h5 => by rw [zst_nk (by omega), zst_nk (by omega), zst_nk (by omega)]; exact a3 p r h1 h2 h3 h4 h5, fun p hp => ?_, fun p h1 h2 => by rw [zst_nk (by omega), zst_nk (by omega), zst_nk (by omega), zst_nk (by omega), zst_nk (by omega), zst_nk (by omega), zst_nk (by omega), zst_nk (by omega), zst_nk (by omega)]; exact a5 p (by omega) h2⟩
  by_cases ep : p = j
  · subst ep
    rw [← ho]
    have r0 : zst (zst (zst M (51, 0, 0) o (-1)) (51, 0, 0) (o + 3) 0) (51, 0, 0) (o + 4) 0 (51, 0, 0) o = -1 := by rw [zst_nk (by omega), zst_nk (by omega), zst_at]
    have r3 : zst (zst (zst M (51, 0, 0) o (-1)) (51, 0, 0) (o + 3) 0) (51, 0, 0) (o + 4) 0 (51, 0, 0) (o + 3) = 0 := by rw [zst_nk (by omega), zst_at]
    have r4 : zst (zst (zst M (51, 0, 0) o (-1)) (51, 0, 0) (o + 3) 0) (51, 0, 0) (o + 4) 0 (51, 0, 0) (o + 4) = 0 := zst_at
    rw [r0, r3, r4]
    refine ⟨fun hn => ?_, fun _ => ⟨rfl, rfl, rfl⟩⟩
    obtain ⟨g1, g2, g3⟩ := hd.resolve_left hn
    exact ⟨g1.symm, g2.symm, g3.symm⟩
  · rw [zst_nk (by omega), zst_nk (by omega), zst_nk (by omega), zst_nk (by omega), zst_nk (by omega), zst_nk (by omega), zst_nk (by omega), zst_nk (by omega), zst_nk (by omega)]; exact a4 p (by omega)
theorem m_slots {m : zMem} {n e : Int} {pn : Nat} {sl : Nat → Int} (hpn : m (51, 0, 0) 0 = pn) (hp8 : pn ≤ 8) (hs : ∀ p, p < 8 → m (51, 0, 0) (329 + 88 * p) = sl p ∧ -1 ≤ sl p ∧ sl p ≤ 7) (hk : ∀ s : Nat, s < 8 → -1 ≤ m (51, 0, 0) (39 + s) ∧ m (51, 0, 0) (39 + s) ≤ 31 ∧ (m (51, 0, 0) (39 + s) = -1 ↔ ¬ ((s : Int) - e) % 8 < (n - e) % 8)) : ∃ i' M, zlp fX12_reports_l99 5000 (0, m) = some (i', M) ∧ mS sl n e m M pn := by
  have hh := zlp_inv (body := fX12_reports_l99) (fun j st => st.1 = (j : Int) ∧ mS sl n e m st.2 j) (fun st => mS sl n e m st.2 pn) pn (N := 5000) (by omega) (s0 := (0, m)) ⟨rfl, mS.z m⟩ ?_ ?_
  · obtain ⟨⟨i', M⟩, hr, r1⟩ := hh
    exact ⟨i', M, hr, r1⟩
  · rintro j ⟨t1, M⟩ hj ⟨a1, a2⟩
    dsimp only at a1 a2
    subst a1
    have j8 : j < 8 := by omega
    obtain ⟨s1, s2, s3⟩ := hs j j8
    generalize ho : 329 + 88 * j = o at *
    have x0 : ix ((o : Int) + 0) = o := io o 0 (by omega)
    have z0 : zin ((o : Int) + 0) 3099 := zo o 0 (by omega)
    have e0 : M (51, 0, 0) o = sl j := by rw [← ho, (a2.2.2.2.2 j (by omega) j8).1, ho, s1]
    have en : M (51, 0, 0) 0 = pn := by rw [a2.2.1 0 (by omega), hpn]
    have w0 : w32 (sl j) = sl j := w32_id (by omega) (by omega)
    unfold fX12_reports_l99 fX12_reports_b99_154
    simp only [m_own ho.symm, zb_some, x0, e0, en, w0]
    rw [if_neg (by rw [w32_n (by omega), w32_n (by omega)]; omega), if_pos z0]
    by_cases c0 : sl j = -1
    · rw [if_pos c0]
      exact Or.inl ⟨_, rfl, by dsimp only; omega, a2.stay j8 (fun h => h.1 c0)⟩
    · obtain ⟨x, ex⟩ := nat_of (show 0 ≤ sl j by omega)
      have x8 : x < 8 := by omega
      obtain ⟨k1, k2, k3⟩ := hk x x8
      have x39 : ix (39 + sl j) = 39 + x := by rw [ex, ix_of (by omega) (by omega)]; omega
      have z39 : zin (39 + sl j) 3099 := zin_of (by omega) (by omega) (by decide)
      have e39 : w32 (M (51, 0, 0) (39 + x)) = m (51, 0, 0) (39 + x) := by rw [a2.2.1 _ (by omega)]; exact w32_id (by omega) (by omega)
      simp only [x39, e39, m_isIdle j8 ho.symm, zb_some]
      rw [if_neg c0, if_pos z0, if_pos z39]
      by_cases c1 : m (51, 0, 0) (39 + x) = -1
      · rw [if_pos c1]
        exact Or.inl ⟨_, rfl, by dsimp only; omega, a2.idle j8 ho.symm (Or.inl ⟨c0, by rw [ex]; exact k3.mp c1⟩)⟩
      · rw [if_neg c1]
        refine Or.inl ⟨_, rfl, by dsimp only; omega, a2.stay j8 (fun h => c1 (k3.mpr ?_))⟩
        have := h.2
        rw [ex] at this
        exact this
  · rintro ⟨t1, M⟩ ⟨a1, a2⟩
    dsimp only at a1 a2
    subst a1
    unfold fX12_reports_l99
    dsimp only
    rw [if_pos (by rw [a2.2.1 0 (by omega), hpn]; omega)]
    exact ⟨_, rfl, a2⟩
theorem m_slotsR {m : zMem} {n e : Int} {pn : Nat} {sl : Nat → Int} (hpn : m (51, 0, 0) 0 = pn) (hp8 : pn ≤ 8) (hs : ∀ p, p < 8 → dI sl n e p ∨ m (51, 0, 0) (329 + 88 * p) = -1 ∧ m (51, 0, 0) (329 + 88 * p + 3) = 0 ∧ m (51, 0, 0) (329 + 88 * p + 4) = 0) : ∃ i' M, zlp fX12_resets_l73 5000 (0, m) = some (i', M) ∧ mS sl n e m M pn := by
  have hh := zlp_inv (body := fX12_resets_l73) (fun j st => st.1 = (j : Int) ∧ mS sl n e m st.2 j) (fun st => mS sl n e m st.2 pn) pn (N := 5000) (by omega) (s0 := (0, m)) ⟨rfl, mS.z m⟩ ?_ ?_
  · obtain ⟨⟨i', M⟩, hr, r1⟩ := hh
    exact ⟨i', M, hr, r1⟩
  · rintro j ⟨t1, M⟩ hj ⟨a1, a2⟩
    dsimp only at a1 a2
    subst a1
    have j8 : j < 8 := by omega
    have en : M (51, 0, 0) 0 = pn := by rw [a2.2.1 0 (by omega), hpn]
    unfold fX12_resets_l73
    simp only [en, m_isIdle j8 rfl, zb_some]
    rw [if_neg (by rw [w32_n (by omega), w32_n (by omega)]; omega)]
    exact Or.inl ⟨_, rfl, by dsimp only; omega, a2.idle j8 rfl (hs j j8)⟩
  · rintro ⟨t1, M⟩ ⟨a1, a2⟩
    dsimp only at a1 a2
    subst a1
    unfold fX12_resets_l73
    dsimp only
    rw [if_pos (by rw [a2.2.1 0 (by omega), hpn]; omega)]
    exact ⟨_, rfl, a2⟩
