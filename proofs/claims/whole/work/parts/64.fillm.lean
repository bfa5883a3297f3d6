/-! THE SENDER: an idle process gets its block, the model, and both -/
theorem m_b67 {p o n : Nat} {len : Int} {M0 : zMem} (ho : 329 ≤ o ∧ o ≤ 945) (n8 : n < 8) : ∃ M, fX12_beginsSend_b67 (p : Int) len (o : Int) (n : Int) ((o : Int) + 0) M0 = fX12_beginsSend_b121 (p : Int) len (o : Int) M ∧ (∀ q, q ≠ (51, 0, 0) → M q = M0 q) ∧ M (51, 0, 0) o = n ∧ M (51, 0, 0) (o + 1) = M0 (51, 0, 0) (39 + n) ∧ (∀ j, j < 39 → M (51, 0, 0) (o + 49 + j) = 0) ∧ ∀ k, k ≠ o → k ≠ o + 1 → k < o + 49 ∨ o + 88 ≤ k → M (51, 0, 0) k = M0 (51, 0, 0) k := by
  have x0 : ix ((o : Int) + 0) = o := io o 0 (by omega)
  have z0 : zin ((o : Int) + 0) 3099 := zo o 0 (by omega)
  have x1 : ix ((o : Int) + 1) = o + 1 := io o 1 (by omega)
  have z1 : zin ((o : Int) + 1) 3099 := zo o 1 (by omega)
  have x39 : ix (39 + (n : Int)) = 39 + n := by rw [ix_of (by omega) (by omega)]; omega
  have z39 : zin (39 + (n : Int)) 3099 := zin_of (by omega) (by omega) (by decide)
  have r39 : zst M0 (51, 0, 0) o (n : Int) (51, 0, 0) (39 + n) = M0 (51, 0, 0) (39 + n) := zst_nk (by omega)
  obtain ⟨i', K, k1, k2, k3, k4⟩ := m_zero49 (o := o) (m := zst (zst M0 (51, 0, 0) o (n : Int)) (51, 0, 0) (o + 1) (M0 (51, 0, 0) (39 + n))) ho (p : Int) len
  unfold fX12_beginsSend_b67
  simp only [zlet_eq, x0, x1, zst_at, x39, r39]
  rw [if_pos z0, if_pos z0, if_pos z39, if_pos z1, k1, zb_some]
  refine ⟨K, rfl, fun q hq => by rw [k2 q hq, zst_nq hq, zst_nq hq], by rw [k3 o (by omega), zst_nk (by omega), zst_at], by rw [k3 (o + 1) (by omega), zst_at], k4, fun k e1 e2 e3 => by rw [k3 k e3, zst_nk e2, zst_nk e1]⟩
theorem ixor1 {x : Int} (h : 0 ≤ x ∧ x ≤ 1) : ixor x 1 = 1 - x := by
  rcases (show x = 0 ∨ x = 1 by omega) with e | e
  · subst e; decide
  · subst e; decide
theorem m_beginNew {p o n k : Nat} {len : Int} {m : zMem} (ho : o = 329 + 88 * p) (hp : p < 8) (hid : m (51, 0, 0) o = -1) (h30 : m (51, 0, 0) 30 = 0) (hn : m (51, 0, 0) 28 = n) (n8 : n < 8) (hk : m (51, 0, 0) 7 = (k : Int) + 1) (k20 : k < 20) (ht : 0 ≤ m (51, 0, 0) (o + 2) ∧ m (51, 0, 0) (o + 2) ≤ 1) : ∃ M, fX12_beginsSend (p : Int) len m = fX12_beginsSend_b121 (p : Int) len (o : Int) M ∧ (∀ q, q ≠ (51, 0, 0) → M q = m q) ∧ M (51, 0, 0) o = n ∧ M (51, 0, 0) (o + 1) = m (51, 0, 0) 8 ∧ M (51, 0, 0) (o + 2) = 1 - m (51, 0, 0) (o + 2) ∧ M (51, 0, 0) (o + 3) = 0 ∧ (∀ j, j < 39 → M (51, 0, 0) (o + 49 + j) = 0) ∧ M (51, 0, 0) 28 = ((n : Int) + 1) % 8 ∧ M (51, 0, 0) 7 = k ∧ (∀ j, j < 8 → M (51, 0, 0) (39 + j) = if j = n then m (51, 0, 0) 8 else m (51, 0, 0) (39 + j)) ∧ (∀ j, j < 8 → M (51, 0, 0) (47 + j) = if j = n then 0 else m (51, 0, 0) (47 + j)) ∧ (∀ j, j < k → M (51, 0, 0) (8 + j) = m (51, 0, 0) (8 + j + 1)) ∧ ∀ j, (j < 7 ∨ 29 ≤ j ∧ j < 39 ∨ 55 ≤ j) → j < o ∨ o + 4 ≤ j → j < o + 49 ∨ o + 88 ≤ j → M (51, 0, 0) j = m (51, 0, 0) j := by
  have x0 : ix ((o : Int) + 0) = o := io o 0 (by omega)
  have z0 : zin ((o : Int) + 0) 3099 := zo o 0 (by omega)
  have x2 : ix ((o : Int) + 2) = o + 2 := io o 2 (by omega)
  have z2 : zin ((o : Int) + 2) 3099 := zo o 2 (by omega)
  have x3 : ix ((o : Int) + 3) = o + 3 := io o 3 (by omega)
  have z3 : zin ((o : Int) + 3) 3099 := zo o 3 (by omega)
  have x39 : ix (39 + (n : Int)) = 39 + n := by rw [ix_of (by omega) (by omega)]; omega
  have z39 : zin (39 + (n : Int)) 3099 := zin_of (by omega) (by omega) (by decide)
  have x47 : ix (47 + (n : Int)) = 47 + n := by rw [ix_of (by omega) (by omega)]; omega
  have z47 : zin (47 + (n : Int)) 3099 := zin_of (by omega) (by omega) (by decide)
  have wm : w32 (-1) = -1 := by decide
  have w6 : w32 0 ≤ 0 := by decide
  have ek : (k : Int) + 1 - 1 = (k : Int) := by omega
  have dd : ∀ a b : Nat, a < 100 → ¬ a = o + b := fun a b h => by omega
  have d8 : ∀ b : Nat, ¬ 8 = 39 + b := fun b => by omega
  have d7 : ¬ 7 = 39 + n := by omega
  have d7' : ¬ 7 = 47 + n := by omega
  have d8' : ¬ 8 = 28 := by decide
  obtain ⟨i', K, k1, k2, k3, k4⟩ := m_shL (n := k) (m := zst (zst (zst (zst (zst (zst m (51, 0, 0) (o + 2) (1 - m (51, 0, 0) (o + 2))) (51, 0, 0) (o + 3) 0) (51, 0, 0) 28 (((n : Int) + 1) % 8)) (51, 0, 0) (39 + n) (m (51, 0, 0) 8)) (51, 0, 0) (47 + n) 0) (51, 0, 0) 7 (k : Int)) (by omega) zst_at (n : Int)
  obtain ⟨M, l1, l2, l3, l4, l5, l6⟩ := m_b67 (p := p) (o := o) (n := n) (len := len) (M0 := K) (by omega) n8
  refine ⟨M, ?_, ?_⟩
  · unfold fX12_beginsSend fX12_takesNew
    simp only [zlet_eq, m_own ho, zb_some, x0, x2, x3, hid, ixor1 ht]
    rw [if_pos z0, if_pos wm, if_pos z2, if_pos z3]
    have r30 : zst (zst m (51, 0, 0) (o + 2) (1 - m (51, 0, 0) (o + 2))) (51, 0, 0) (o + 3) 0 (51, 0, 0) 30 = 0 := by rw [zst_nk (by omega), zst_nk (by omega), h30]
    have r28 : zst (zst m (51, 0, 0) (o + 2) (1 - m (51, 0, 0) (o + 2))) (51, 0, 0) (o + 3) 0 (51, 0, 0) 28 = n := by rw [zst_nk (by omega), zst_nk (by omega), hn]
    have r8 : zst (zst (zst m (51, 0, 0) (o + 2) (1 - m (51, 0, 0) (o + 2))) (51, 0, 0) (o + 3) 0) (51, 0, 0) 28 (((n : Int) + 1) % 8) (51, 0, 0) 8 = m (51, 0, 0) 8 := by rw [zst_nk (by omega), zst_nk (by omega), zst_nk (by omega)]
    simp only [r30, r28, x39, x47, r8]
    have r7 : zst (zst (zst (zst (zst m (51, 0, 0) (o + 2) (1 - m (51, 0, 0) (o + 2))) (51, 0, 0) (o + 3) 0) (51, 0, 0) 28 (((n : Int) + 1) % 8)) (51, 0, 0) (39 + n) (m (51, 0, 0) 8)) (51, 0, 0) (47 + n) 0 (51, 0, 0) 7 - 1 = k := by rw [zst_nk (by omega), zst_nk (by omega), zst_nk (by omega), zst_nk (by omega), zst_nk (by omega), hk, ek]
    simp only [r7]
    rw [if_pos w6, if_pos z39, if_pos z47, k1, zb_some, zb_some]
    exact l1
  · have rK : ∀ j, j < 8 ∨ 8 + k ≤ j → K (51, 0, 0) j = zst (zst (zst (zst (zst (zst m (51, 0, 0) (o + 2) (1 - m (51, 0, 0) (o + 2))) (51, 0, 0) (o + 3) 0) (51, 0, 0) 28 (((n : Int) + 1) % 8)) (51, 0, 0) (39 + n) (m (51, 0, 0) 8)) (51, 0, 0) (47 + n) 0) (51, 0, 0) 7 (k : Int) (51, 0, 0) j := k3
    refine ⟨fun q hq => by rw [l2 q hq, k2 q hq, zst_nq hq, zst_nq hq, zst_nq hq, zst_nq hq, zst_nq hq, zst_nq hq], l3, ?_, ?_, ?_, l5, ?_, ?_, fun j hj => ?_, fun j hj => ?_, fun j hj => ?_, fun j e1 e2 e3 => ?_⟩
    · rw [l4, rK _ (by omega), zst_nk (by omega), zst_nk (by omega), zst_at]
    · rw [l6 _ (by omega) (by omega) (by omega), rK _ (by omega), zst_nk (by omega), zst_nk (by omega), zst_nk (by omega), zst_nk (by omega), zst_nk (by omega), zst_at]
    · rw [l6 _ (by omega) (by omega) (by omega), rK _ (by omega), zst_nk (by omega), zst_nk (by omega), zst_nk (by omega), zst_nk (by omega), zst_at]
    · rw [l6 _ (by omega) (by omega) (by omega), rK _ (by omega), zst_nk (by omega), zst_nk (by omega), zst_nk (by omega), zst_at]
    · rw [l6 _ (by omega) (by omega) (by omega), rK _ (by omega), zst_at]
    · rw [l6 _ (by omega) (by omega) (by omega), rK _ (by omega), zst_nk (by omega), zst_nk (by omega)]
      by_cases e : j = n
      · subst e; rw [zst_at, if_pos rfl]
      · rw [if_neg e, zst_nk (by omega), zst_nk (by omega), zst_nk (by omega), zst_nk (by omega)]
    · rw [l6 _ (by omega) (by omega) (by omega), rK _ (by omega), zst_nk (by omega)]
      by_cases e : j = n
      · subst e; rw [zst_at, if_pos rfl]
      · rw [if_neg e, zst_nk (by omega), zst_nk (by omega), zst_nk (by omega), zst_nk (by omega), zst_nk (by omega)]
    · rw [l6 _ (by omega) (by omega) (by omega), k4 j hj, zst_nk (by omega), zst_nk (by omega), zst_nk (by omega), zst_nk (by omega), zst_nk (by omega), zst_nk (by omega)]
    · rw [l6 _ (by omega) (by omega) (by omega), rK _ (by omega), zst_nk (by omega), zst_nk (by omega), zst_nk (by omega), zst_nk (by omega), zst_nk (by omega), zst_nk (by omega)]
theorem m_beginAgain {p o n a : Nat} {len : Int} {m : zMem} (ho : o = 329 + 88 * p) (hp : p < 8) (hid : m (51, 0, 0) o = -1) (h30 : m (51, 0, 0) 30 = (a : Int) + 1) (a8 : a < 8) (hn : m (51, 0, 0) 31 = n) (n8 : n < 8) (ht : 0 ≤ m (51, 0, 0) (o + 2) ∧ m (51, 0, 0) (o + 2) ≤ 1) : ∃ M, fX12_beginsSend (p : Int) len m = fX12_beginsSend_b121 (p : Int) len (o : Int) M ∧ (∀ q, q ≠ (51, 0, 0) → M q = m q) ∧ M (51, 0, 0) o = n ∧ M (51, 0, 0) (o + 1) = m (51, 0, 0) (39 + n) ∧ M (51, 0, 0) (o + 2) = 1 - m (51, 0, 0) (o + 2) ∧ M (51, 0, 0) (o + 3) = 0 ∧ (∀ j, j < 39 → M (51, 0, 0) (o + 49 + j) = 0) ∧ M (51, 0, 0) 30 = a ∧ (∀ j, j < a → M (51, 0, 0) (31 + j) = m (51, 0, 0) (31 + j + 1)) ∧ ∀ j, (j < 30 ∨ 39 ≤ j) → j < o ∨ o + 4 ≤ j → j < o + 49 ∨ o + 88 ≤ j → M (51, 0, 0) j = m (51, 0, 0) j := by
  have x0 : ix ((o : Int) + 0) = o := io o 0 (by omega)
  have z0 : zin ((o : Int) + 0) 3099 := zo o 0 (by omega)
  have x2 : ix ((o : Int) + 2) = o + 2 := io o 2 (by omega)
  have z2 : zin ((o : Int) + 2) 3099 := zo o 2 (by omega)
  have x3 : ix ((o : Int) + 3) = o + 3 := io o 3 (by omega)
  have z3 : zin ((o : Int) + 3) 3099 := zo o 3 (by omega)
  have wm : w32 (-1) = -1 := by decide
  have w6 : ¬ w32 ((a : Int) + 1) ≤ 0 := by rw [w32_id (by omega) (by omega)]; omega
  have ek : (a : Int) + 1 - 1 = (a : Int) := by omega
  obtain ⟨i', K, k1, k2, k3, k4⟩ := m_shA (n := a) (m := zst (zst (zst m (51, 0, 0) (o + 2) (1 - m (51, 0, 0) (o + 2))) (51, 0, 0) (o + 3) 0) (51, 0, 0) 30 (a : Int)) (by omega) zst_at (n : Int)
  obtain ⟨M, l1, l2, l3, l4, l5, l6⟩ := m_b67 (p := p) (o := o) (n := n) (len := len) (M0 := K) (by omega) n8
  refine ⟨M, ?_, ?_⟩
  · unfold fX12_beginsSend fX12_takesAgain
    simp only [zlet_eq, m_own ho, zb_some, x0, x2, x3, hid, ixor1 ht]
    rw [if_pos z0, if_pos wm, if_pos z2, if_pos z3]
    have r30 : zst (zst m (51, 0, 0) (o + 2) (1 - m (51, 0, 0) (o + 2))) (51, 0, 0) (o + 3) 0 (51, 0, 0) 30 = (a : Int) + 1 := by rw [zst_nk (by omega), zst_nk (by omega), h30]
    have r31 : zst (zst m (51, 0, 0) (o + 2) (1 - m (51, 0, 0) (o + 2))) (51, 0, 0) (o + 3) 0 (51, 0, 0) 31 = n := by rw [zst_nk (by omega), zst_nk (by omega), hn]
    simp only [r30, r31, ek]
    rw [if_neg w6, k1, zb_some, zb_some]
    exact l1
  · refine ⟨fun q hq => by rw [l2 q hq, k2 q hq, zst_nq hq, zst_nq hq, zst_nq hq], l3, ?_, ?_, ?_, l5, ?_, fun j hj => ?_, fun j e1 e2 e3 => ?_⟩
    · rw [l4, k3 _ (by omega), zst_nk (by omega), zst_nk (by omega), zst_nk (by omega)]
    · rw [l6 _ (by omega) (by omega) (by omega), k3 _ (by omega), zst_nk (by omega), zst_nk (by omega), zst_at]
    · rw [l6 _ (by omega) (by omega) (by omega), k3 _ (by omega), zst_nk (by omega), zst_at]
    · rw [l6 _ (by omega) (by omega) (by omega), k3 _ (by omega), zst_at]
    · rw [l6 _ (by omega) (by omega) (by omega), k4 j hj, zst_nk (by omega), zst_nk (by omega), zst_nk (by omega)]
    · rw [l6 _ (by omega) (by omega) (by omega), k3 _ (by omega), zst_nk (by omega), zst_nk (by omega), zst_nk (by omega)]
