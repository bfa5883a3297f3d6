/-! THE RECEIVER: one step on -/
theorem zlet_eq {α β : Type} (x : α) (F : α → β) : zlet x F = F x := Eq.trans rfl rfl
theorem zst_ap (I : zMem) (q : zPl) (k : Nat) (z : Int) (q' : zPl) (k' : Nat) : zst I q k z q' k' = if q' = q ∧ k' = k then z else I q' k' := rfl
theorem zcp_ap (I : zMem) (a : zPl) (sp : Nat) (b : zPl) (dp n : Nat) (q : zPl) (k : Nat) : zcp I a sp b dp n q k = if q = b ∧ dp ≤ k ∧ k < dp + n then I a (sp + (k - dp)) else I q k := rfl
theorem zcp_nq {I : zMem} {a b q : zPl} {sp dp n : Nat} (h : q ≠ b) : zcp I a sp b dp n q = I q := funext fun k => if_neg (fun c => h c.1)
theorem zsm_one {f f' : Nat → Int} {e : Nat} : ∀ {n : Nat}, e < n → (∀ k, k < n → k ≠ e → f' k = f k) → zsm f' n = zsm f n - f e + f' e
  | 0, h, _ => absurd h (Nat.not_lt_zero _)
  | n + 1, h, hf => by
    rw [zsm, zsm]
    by_cases c : e = n
    · subst c
      rw [zsm_cong (fun k hk => hf k (by omega) (by omega))]; omega
    · rw [zsm_one (n := n) (by omega) (fun k hk hn => hf k (by omega) hn), hf n (by omega) (by omega)]; omega
theorem zsm_01 {f : Nat → Int} : ∀ {n : Nat}, (∀ k, k < n → 0 ≤ f k ∧ f k ≤ 1) → 0 ≤ zsm f n ∧ zsm f n ≤ n
  | 0, _ => by simp [zsm]
  | n + 1, h => by
    have h1 := zsm_01 (f := f) (n := n) (fun k hk => h k (by omega))
    have h2 := h n (by omega)
    rw [zsm]; omega
/-- how many are stored -/
def psr (g : Nat → Int) : Int := zsm (fun k => if g (56 + k) = -1 then 0 else 1) 8
theorem psr_rng (g : Nat → Int) : 0 ≤ psr g ∧ psr g ≤ 8 := zsm_01 (fun k _ => by split <;> decide)
theorem psr_set {g g' : Nat → Int} {e : Nat} (he : e < 8) (h : ∀ k, k < 8 → k ≠ e → g' (56 + k) = g (56 + k)) : psr g' = psr g - (if g (56 + e) = -1 then 0 else 1) + (if g' (56 + e) = -1 then 0 else 1) := zsm_one he (fun k hk hn => by rw [h k hk hn])
theorem psr_cong {g g' : Nat → Int} (h : ∀ k, k < 8 → g' (56 + k) = g (56 + k)) : psr g' = psr g := zsm_cong (fun k hk => by rw [h k hk])
theorem psr_pos {g : Nat → Int} {e : Nat} (he : e < 8) (h : ¬ g (56 + e) = -1) : 1 ≤ psr g := by
  have h1 := psr_set (g := g) (g' := fun j => if j = 56 + e then -1 else g j) he (fun k hk hn => if_neg (by omega))
  have h2 := psr_rng (fun j => if j = 56 + e then -1 else g j)
  rw [if_neg h, if_pos rfl, if_pos rfl] at h1
  omega
/-- the timer of the class behind a step on -/
def tC (L : Nat) (c c' : zMem) : Prop := if c (9, L, 0) 4 ≤ 0 then c' (9, L, 0) 4 = c (9, L, 0) 4 ∧ c' (9, L, 0) 5 = c (9, L, 0) 5 else c' (9, L, 0) 5 = c (9, L, 0) 5 - 1 ∧ c' (9, L, 0) 4 = if 0 < c (9, L, 0) 5 - 1 then c (9, L, 0) 4 else 0
/-- the timer of the model behind a step on -/
def tM (g g' : Nat → Int) : Prop := if g 64 = -1 then g' 64 = g 64 ∧ g' 65 = g 65 else if (g 55 + 1) % 8 = g 65 then g' 64 = -1 ∧ g' 65 = -1 else g' 64 = g 64 ∧ g' 65 = g 65
theorem tC.of {L : Nat} {c I J : zMem} (h : tC L I J) (h4 : I (9, L, 0) 4 = c (9, L, 0) 4) (h5 : I (9, L, 0) 5 = c (9, L, 0) 5) : tC L c J := by
  unfold tC at h ⊢
  rw [h4, h5] at h; exact h
theorem tM.of {g i j : Nat → Int} (h : tM i j) (h4 : i 64 = g 64) (h5 : i 65 = g 65) (h6 : i 55 = g 55) : tM g j := by
  unfold tM at h ⊢
  rw [h4, h5, h6] at h; exact h
theorem c_b62 {L : Nat} {I : zMem} (h4 : i32 (I (9, L, 0) 4)) (h5 : -5 ≤ I (9, L, 0) 5 ∧ I (9, L, 0) 5 ≤ 20) : ∃ J, fX5_moveOn_b62 L I = some J ∧ (∀ q, q ≠ (9, L, 0) → J q = I q) ∧ (∀ k, k ≠ 3 → k ≠ 4 → k ≠ 5 → J (9, L, 0) k = I (9, L, 0) k) ∧ J (9, L, 0) 3 = (I (9, L, 0) 3 + 1) % 8 ∧ tC L I J := by
  unfold fX5_moveOn_b62 tC
  dsimp only [zlet]
  have w4 : w32 (I (9, L, 0) 4) = I (9, L, 0) 4 := w32_id h4.1 h4.2
  have w5 : w32 (I (9, L, 0) 5 - 1) = I (9, L, 0) 5 - 1 := w32_id (by omega) (by omega)
  simp only [zst_ap, Prod.mk.injEq, and_false, false_and, and_true, true_and, and_self, if_true, if_false, w4, w5, Nat.reduceEqDiff, reduceCtorEq]
  by_cases c4 : I (9, L, 0) 4 ≤ 0
  · simp only [if_pos c4]
    refine ⟨_, rfl, fun q hq => by rw [zst_nq hq], fun k k3 k4 k5 => by rw [zst_nk k3], by rw [zst_at], by rw [zst_nk (by decide)], by rw [zst_nk (by decide)]⟩
  · simp only [if_neg c4]
    by_cases c5 : 0 < I (9, L, 0) 5 - 1
    · simp only [if_pos c5]
      refine ⟨_, rfl, fun q hq => by rw [zst_nq hq, zst_nq hq], fun k k3 k4 k5 => by rw [zst_nk k5, zst_nk k3], by rw [zst_nk (by decide), zst_at], by rw [zst_at], by rw [zst_nk (by decide), zst_nk (by decide)]⟩
    · simp only [if_neg c5]
      refine ⟨_, rfl, fun q hq => by rw [zst_nq hq, zst_nq hq, zst_nq hq], fun k k3 k4 k5 => by rw [zst_nk k4, zst_nk k5, zst_nk k3], by rw [zst_nk (by decide), zst_nk (by decide), zst_at], by rw [zst_nk (by decide), zst_at], by rw [zst_at]⟩
theorem m_goesOn {I : zMem} (h4 : i32 (I (51, 0, 0) 64)) (h5 : i32 (I (51, 0, 0) 65)) : ∃ J, fX12_goesOn I = some J ∧ (∀ q, q ≠ (51, 0, 0) → J q = I q) ∧ (∀ k, k ≠ 55 → k ≠ 64 → k ≠ 65 → J (51, 0, 0) k = I (51, 0, 0) k) ∧ J (51, 0, 0) 55 = (I (51, 0, 0) 55 + 1) % 8 ∧ tM (I (51, 0, 0)) (J (51, 0, 0)) := by
  unfold fX12_goesOn tM
  dsimp only [zlet]
  have w4 : w32 (I (51, 0, 0) 64) = I (51, 0, 0) 64 := w32_id h4.1 h4.2
  have w5 : w32 (I (51, 0, 0) 65) = I (51, 0, 0) 65 := w32_id h5.1 h5.2
  have w6 : w32 ((I (51, 0, 0) 55 + 1) % 8) = (I (51, 0, 0) 55 + 1) % 8 := w32_emod _ _ (by decide)
  simp only [zst_ap, Prod.mk.injEq, and_false, false_and, and_true, true_and, and_self, if_true, if_false, w4, w5, w6, Nat.reduceEqDiff, reduceCtorEq]
  by_cases c4 : I (51, 0, 0) 64 = -1
  · simp only [if_pos c4]
    refine ⟨_, rfl, fun q hq => by rw [zst_nq hq], fun k k3 k4 k5 => by rw [zst_nk k3], by rw [zst_at], by rw [zst_nk (by decide)], by rw [zst_nk (by decide)]⟩
  · simp only [if_neg c4]
    by_cases c5 : (I (51, 0, 0) 55 + 1) % 8 = I (51, 0, 0) 65
    · simp only [if_pos c5]
      refine ⟨_, rfl, fun q hq => by rw [zst_nq hq, zst_nq hq, zst_nq hq], fun k k3 k4 k5 => by rw [zst_nk k5, zst_nk k4, zst_nk k3], by rw [zst_nk (by decide), zst_nk (by decide), zst_at, c5], by rw [zst_nk (by decide), zst_at], by rw [zst_at]⟩
    · simp only [if_neg c5]
      refine ⟨_, rfl, fun q hq => by rw [zst_nq hq], fun k k3 k4 k5 => by rw [zst_nk k3], by rw [zst_at], by rw [zst_nk (by decide)], by rw [zst_nk (by decide)]⟩
theorem c_move {L : Nat} {c : zMem} {e n : Nat} (he : c (9, L, 0) 3 = e) (e8 : e < 8) (hn : c (9, L, 0) 6 = n) (hs : -1 ≤ c (39, L, 0) e ∧ c (39, L, 0) e ≤ 31) (h4 : i32 (c (9, L, 0) 4)) (h5 : -5 ≤ c (9, L, 0) 5 ∧ c (9, L, 0) 5 ≤ 20) : ∃ c', fX5_moveOn L c = some c' ∧ (∀ q, q ≠ (9, L, 0) → q ≠ (39, L, 0) → q ≠ (40, L, 0) → c' q = c q) ∧ (∀ k, c' (39, L, 0) k = if k = e then -1 else c (39, L, 0) k) ∧ c' (9, L, 0) 3 = ((e : Int) + 1) % 8 ∧ (∀ k, 8 ≤ k → c' (9, L, 0) k = c (9, L, 0) k) ∧ (if c (39, L, 0) e = -1 then c' (9, L, 0) 7 = c (9, L, 0) 7 + 1 ∧ c' (9, L, 0) 6 = n ∧ c' (40, L, 0) = c (40, L, 0) else c' (9, L, 0) 7 = c (9, L, 0) 7 ∧ c' (9, L, 0) 6 = (n : Int) + 1 ∧ ∀ j, c' (40, L, 0) j = if j = n % 256 then c (39, L, 0) e else c (40, L, 0) j) ∧ tC L c c' := by
  unfold fX5_moveOn
  simp only [zlet_eq]
  have wl : w32 (c (39, L, 0) e) = c (39, L, 0) e := w32_id (by omega) (by omega)
  have zn : (n : Int) % 256 = ((n % 256 : Nat) : Int) := by omega
  have x1 : ix (e : Int) = e := ix_nat (by omega)
  have hr : n % 256 < 256 := by omega
  have z2 : zin ((n % 256 : Nat) : Int) 256 := zin_nat hr (by decide)
  have x2 : ix ((n % 256 : Nat) : Int) = n % 256 := ix_nat (by omega)
  generalize n % 256 = r at *
  simp only [zst_ap, Prod.mk.injEq, and_false, false_and, and_true, true_and, and_self, if_true, if_false, Nat.reduceEqDiff, reduceCtorEq, he, hn, zn, x1, x2, wl]
  rw [if_pos (zin_nat e8 (by decide))]
  by_cases c0 : c (39, L, 0) e = -1
  · simp only [if_pos c0]
    obtain ⟨J, j1, j2, j3, j4, j5⟩ := c_b62 (L := L) (I := zst c (9, L, 0) 7 (c (9, L, 0) 7 + 1)) (by rw [zst_nk (by decide)]; exact h4) (by rw [zst_nk (by decide)]; exact h5)
    refine ⟨J, j1, fun q h1 h2 h3 => by rw [j2 q h1, zst_nq h1], fun k => ?_, by rw [j4, zst_nk (by decide), he], fun k hk => by rw [j3 k (by omega) (by omega) (by omega), zst_nk (by omega)], ⟨by rw [j3 7 (by decide) (by decide) (by decide), zst_at], by rw [j3 6 (by decide) (by decide) (by decide), zst_nk (by decide), hn], by rw [j2 _ (by simp), zst_nq (by simp)]⟩, ?_⟩
    · rw [j2 _ (by simp), zst_nq (by simp)]
      by_cases e1 : k = e
      · rw [if_pos e1, e1, c0]
      · rw [if_neg e1]
    · exact j5.of (zst_nk (by decide)) (zst_nk (by decide))
  · simp only [if_neg c0]
    rw [if_pos z2, if_pos (zin_nat e8 (by decide))]
    obtain ⟨J, j1, j2, j3, j4, j5⟩ := c_b62 (L := L) (I := zst (zst (zst c (40, L, 0) r (c (39, L, 0) e)) (9, L, 0) 6 ((n : Int) + 1)) (39, L, 0) e (-1)) (by rw [zst_nq (by simp), zst_nk (by decide), zst_nq (by simp)]; exact h4) (by rw [zst_nq (by simp), zst_nk (by decide), zst_nq (by simp)]; exact h5)
    refine ⟨J, j1, fun q h1 h2 h3 => by rw [j2 q h1, zst_nq h2, zst_nq h1, zst_nq h3], fun k => ?_, by rw [j4, zst_nq (by simp), zst_nk (by decide), zst_nq (by simp), he], fun k hk => by rw [j3 k (by omega) (by omega) (by omega), zst_nq (by simp), zst_nk (by omega), zst_nq (by simp)], ⟨by rw [j3 7 (by decide) (by decide) (by decide), zst_nq (by simp), zst_nk (by decide), zst_nq (by simp)], by rw [j3 6 (by decide) (by decide) (by decide), zst_nq (by simp), zst_at], fun j => ?_⟩, ?_⟩
    · rw [j2 _ (by simp)]
      by_cases e1 : k = e
      · rw [if_pos e1, e1, zst_at]
      · rw [if_neg e1, zst_nk e1, zst_nq (by simp), zst_nq (by simp)]
    · rw [j2 _ (by simp), zst_nq (by simp), zst_nq (by simp)]
      by_cases e1 : j = r
      · rw [if_pos e1, e1, zst_at]
      · rw [if_neg e1, zst_nk e1]
    · exact j5.of (by rw [zst_nq (by simp), zst_nk (by decide), zst_nq (by simp)]) (by rw [zst_nq (by simp), zst_nk (by decide), zst_nq (by simp)])
theorem m_passes {m : zMem} {e n : Nat} (he : m (51, 0, 0) 55 = e) (e8 : e < 8) (hn : m (51, 0, 0) 66 = n) (n1 : n < 2147483647) (hs : -1 ≤ m (51, 0, 0) (56 + e) ∧ m (51, 0, 0) (56 + e) ≤ 31) (h4 : i32 (m (51, 0, 0) 64)) (h5 : i32 (m (51, 0, 0) 65)) : ∃ m', fX12_passes m = some m' ∧ (∀ q, q ≠ (51, 0, 0) → m' q = m q) ∧ (∀ k, k < 55 ∨ 329 ≤ k ∨ 68 ≤ k ∧ k < 73 → m' (51, 0, 0) k = m (51, 0, 0) k) ∧ (∀ k, k < 8 → m' (51, 0, 0) (56 + k) = if k = e then -1 else m (51, 0, 0) (56 + k)) ∧ m' (51, 0, 0) 55 = ((e : Int) + 1) % 8 ∧ (if m (51, 0, 0) (56 + e) = -1 then m' (51, 0, 0) 67 = m (51, 0, 0) 67 + 1 ∧ m' (51, 0, 0) 66 = n ∧ ∀ j, j < 256 → m' (51, 0, 0) (73 + j) = m (51, 0, 0) (73 + j) else m' (51, 0, 0) 67 = m (51, 0, 0) 67 ∧ m' (51, 0, 0) 66 = (n : Int) + 1 ∧ ∀ j, j < 256 → m' (51, 0, 0) (73 + j) = if j = n % 256 then m (51, 0, 0) (56 + e) else m (51, 0, 0) (73 + j)) ∧ tM (m (51, 0, 0)) (m' (51, 0, 0)) := by
  unfold fX12_passes fX12_passes_b78
  simp only [zlet_eq]
  have wl : w32 (m (51, 0, 0) (56 + e)) = m (51, 0, 0) (56 + e) := w32_id (by omega) (by omega)
  have zn : irem (n : Int) 256 = ((n % 256 : Nat) : Int) := by rw [irem_of (by omega) (by omega) (by decide) (by decide)]; omega
  have x1 : ix (56 + (e : Int)) = 56 + e := by rw [ix_of (by omega) (by omega)]; omega
  have x2 : ix (73 + ((n % 256 : Nat) : Int)) = 73 + n % 256 := by rw [ix_of (by omega) (by omega)]; omega
  have d1 : ¬ 66 = 56 + e := by omega
  have d2 : ¬ 67 = 56 + e := by omega
  simp only [zst_ap, Prod.mk.injEq, and_false, false_and, and_true, true_and, and_self, if_true, if_false, Nat.reduceEqDiff, reduceCtorEq, he, hn, x1, wl, d1, d2, zn, x2]
  rw [if_pos (zin_of (by omega) (by omega) (by decide))]
  by_cases c0 : m (51, 0, 0) (56 + e) = -1
  · simp only [if_pos c0]
    obtain ⟨J, j1, j2, j3, j4, j5⟩ := m_goesOn (I := zst (zst m (51, 0, 0) (56 + e) (-1)) (51, 0, 0) 67 (m (51, 0, 0) 67 + 1)) (by rw [zst_nk (by decide), zst_nk (by omega)]; exact h4) (by rw [zst_nk (by decide), zst_nk (by omega)]; exact h5)
    rw [j1, zb_some]
    refine ⟨J, rfl, fun q h1 => by rw [j2 q h1, zst_nq h1, zst_nq h1], fun k hk => by rw [j3 k (by omega) (by omega) (by omega), zst_nk (by omega), zst_nk (by omega)], fun k hk => ?_, by rw [j4, zst_nk (by decide), zst_nk (by omega), he], ⟨by rw [j3 67 (by decide) (by decide) (by decide), zst_at], by rw [j3 66 (by decide) (by decide) (by decide), zst_nk (by decide), zst_nk (by omega), hn], fun j hj => by rw [j3 _ (by omega) (by omega) (by omega), zst_nk (by omega), zst_nk (by omega)]⟩, ?_⟩
    · rw [j3 _ (by omega) (by omega) (by omega), zst_nk (by omega)]
      by_cases e1 : k = e
      · rw [if_pos e1, e1, zst_at]
      · rw [if_neg e1, zst_nk (by omega)]
    · exact j5.of (by rw [zst_nk (by decide), zst_nk (by omega)]) (by rw [zst_nk (by decide), zst_nk (by omega)]) (by rw [zst_nk (by decide), zst_nk (by omega)])
  · simp only [if_neg c0]
    rw [if_pos (zin_of (by omega) (by omega) (by decide))]
    obtain ⟨J, j1, j2, j3, j4, j5⟩ := m_goesOn (I := zst (zst (zst m (51, 0, 0) (56 + e) (-1)) (51, 0, 0) (73 + n % 256) (m (51, 0, 0) (56 + e))) (51, 0, 0) 66 (zst (zst m (51, 0, 0) (56 + e) (-1)) (51, 0, 0) (73 + n % 256) (m (51, 0, 0) (56 + e)) (51, 0, 0) 66 + 1)) (by rw [zst_nk (by decide), zst_nk (by omega), zst_nk (by omega)]; exact h4) (by rw [zst_nk (by decide), zst_nk (by omega), zst_nk (by omega)]; exact h5)
    have e6 : zst (zst m (51, 0, 0) (56 + e) (-1)) (51, 0, 0) (73 + n % 256) (m (51, 0, 0) (56 + e)) (51, 0, 0) 66 = (n : Int) := by rw [zst_nk (by omega), zst_nk (by omega), hn]
    have d3 : ¬ 66 = 73 + n % 256 := by omega
    rw [e6] at j1 j2 j3 j4 j5
    simp only [d3, if_false]
    rw [j1, zb_some]
    refine ⟨J, rfl, fun q h1 => by rw [j2 q h1, zst_nq h1, zst_nq h1, zst_nq h1], fun k hk => by rw [j3 k (by omega) (by omega) (by omega), zst_nk (by omega), zst_nk (by omega), zst_nk (by omega)], fun k hk => ?_, by rw [j4, zst_nk (by decide), zst_nk (by omega), zst_nk (by omega), he], ⟨by rw [j3 67 (by decide) (by decide) (by decide), zst_nk (by decide), zst_nk (by omega), zst_nk (by omega)], by rw [j3 66 (by decide) (by decide) (by decide), zst_at], fun j hj => ?_⟩, ?_⟩
    · rw [j3 _ (by omega) (by omega) (by omega), zst_nk (by omega), zst_nk (by omega)]
      by_cases e1 : k = e
      · rw [if_pos e1, e1, zst_at]
      · rw [if_neg e1, zst_nk (by omega)]
    · rw [j3 _ (by omega) (by omega) (by omega), zst_nk (by omega)]
      by_cases e1 : j = n % 256
      · rw [if_pos e1, e1, zst_at]
      · rw [if_neg e1, zst_nk (by omega), zst_nk (by omega)]
    · exact j5.of (by rw [zst_nk (by decide), zst_nk (by omega), zst_nk (by omega)]) (by rw [zst_nk (by decide), zst_nk (by omega), zst_nk (by omega)]) (by rw [zst_nk (by decide), zst_nk (by omega), zst_nk (by omega)])
