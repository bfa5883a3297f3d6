/-! THE BEST BUT ONE -/
def pbut (f : Nat → Int) (x : Int) (n : Nat) (r : Int) : Prop := ∃ w : Nat, r = (w : Int) ∧ w < n ∧ (w : Int) ≠ x ∧ ∀ w' : Nat, w' < n → (w' : Int) ≠ x → pT f w' < pT f w ∨ (pT f w' = pT f w ∧ w ≤ w')
theorem pbut_one {f : Nat → Int} {x a b : Int} {n : Nat} (ha : pbut f x n a) (hb : pbut f x n b) : a = b := by
  obtain ⟨v, rfl, v1, v0, v2⟩ := ha
  obtain ⟨w, rfl, w1, w0, w2⟩ := hb
  have h1 := v2 w w1 w0
  have h2 := w2 v v1 v0
  omega
theorem pbut_best {f : Nat → Int} {r : Int} (h : pbut f (-1) 2048 r) : pbest f r := by
  obtain ⟨w, e, w1, -, w2⟩ := h
  exact ⟨w, e, w1, fun w' h' => w2 w' h' (by omega)⟩
theorem pbut_skip {f : Nat → Int} {x r : Int} {n : Nat} (h : pbut f x n r) (e : (n : Int) = x) : pbut f x (n + 1) r := by
  obtain ⟨w, e1, w1, w0, w2⟩ := h
  refine ⟨w, e1, by omega, w0, fun w' h1 h2 => ?_⟩
  by_cases c : w' = n
  · subst c; exact absurd e h2
  · exact w2 w' (by omega) h2
theorem pbut_old {f : Nat → Int} {x : Int} {w n : Nat} (h : pbut f x n (w : Int)) (e : pT f n ≤ pT f w) : pbut f x (n + 1) (w : Int) := by
  obtain ⟨v, e1, w1, w0, w2⟩ := h
  have : v = w := by omega
  subst this
  refine ⟨v, rfl, by omega, w0, fun w' h1 h2 => ?_⟩
  by_cases c : w' = n
  · subst c; omega
  · exact w2 w' (by omega) h2
theorem pbut_new {f : Nat → Int} {x : Int} {w n : Nat} (h : pbut f x n (w : Int)) (hx : (n : Int) ≠ x) (e : pT f w < pT f n) : pbut f x (n + 1) (n : Int) := by
  obtain ⟨v, e1, w1, w0, w2⟩ := h
  have : v = w := by omega
  subst this
  refine ⟨n, rfl, by omega, hx, fun w' h1 h2 => ?_⟩
  by_cases c : w' = n
  · subst c; exact Or.inr ⟨rfl, Nat.le_refl _⟩
  · have := w2 w' (by omega) h2; omega
theorem s_greatestBut {f : Nat → Int} (hf : pbd f) {I : zMem} (hI : ∀ w, w < 2048 → I (23, 0, 0) w = pT f w) {x : Int} (hx : -1 ≤ x ∧ x < 2048) : ∃ r, fX2_greatestBut x I = some r ∧ pbut f x 2048 r := by
  have wx : w32 x = x := w32_id (by omega) (by omega)
  have key : ∀ k0 : Nat, k0 ≤ 1 → (k0 : Int) ≠ x → (∀ w' : Nat, w' < k0 → (w' : Int) = x) → ∃ r, fX2_greatestBut_b9 x I (k0 : Int) = some r ∧ pbut f x 2048 r := fun k0 hk hne hbe => by
    unfold fX2_greatestBut_b9
    dsimp only [zlet]
    have hh := zlp_inv (body := fX2_greatestBut_l14 x I) (fun j st => st.2 = ((k0 + 1 + j : Nat) : Int) ∧ pbut f x (k0 + 1 + j) st.1) (fun st => pbut f x 2048 st.1) (2047 - k0) (N := 5000) (by omega) (s0 := ((k0 : Int), (k0 : Int) + 1)) ⟨rfl, k0, rfl, by omega, hne, fun w' h1 h2 => by
        by_cases c : w' = k0
        · subst c; exact Or.inr ⟨rfl, Nat.le_refl _⟩
        · exact absurd (hbe w' (by omega)) h2⟩ ?_ ?_
    · obtain ⟨R, hr, hq⟩ := hh
      rw [hr, zb_some]
      exact ⟨_, rfl, hq⟩
    · rintro j ⟨t1, t2⟩ hj ⟨a1, a2⟩
      dsimp only at a1 a2
      subst a1
      have a2' := a2
      obtain ⟨w, rfl, w1, w0, w2⟩ := a2
      generalize hn : k0 + 1 + j = n at *
      have bw := pT_bd hf w
      have bn := pT_bd hf n
      unfold fX2_greatestBut_l14 fX2_greatestBut_b14_43
      dsimp only
      rw [if_neg (by rw [w32_n (by omega)]; omega)]
      by_cases c : (n : Int) = x
      · rw [if_pos (by rw [w32_n (by omega), wx]; exact c)]
        exact Or.inl ⟨_, rfl, by dsimp only; omega, by rw [show k0 + 1 + (j + 1) = n + 1 by omega]; exact pbut_skip a2' c⟩
      · rw [if_neg (by rw [w32_n (by omega), wx]; exact c), if_pos (zin_of (by omega) (by omega) (by decide)), if_pos (zin_of (by omega) (by omega) (by decide)), ix_nat (by omega), ix_nat (by omega), hI n (by omega), hI w (by omega), w32_id (z := pT f n) (by omega) (by omega), w32_id (z := pT f w) (by omega) (by omega)]
        by_cases c2 : pT f n ≤ pT f w
        · rw [if_pos c2]
          exact Or.inl ⟨_, rfl, by dsimp only; omega, by rw [show k0 + 1 + (j + 1) = n + 1 by omega]; exact pbut_old a2' c2⟩
        · rw [if_neg c2]
          exact Or.inl ⟨_, rfl, by dsimp only; omega, by rw [show k0 + 1 + (j + 1) = n + 1 by omega]; exact pbut_new a2' c (by omega)⟩
    · rintro ⟨t1, t2⟩ ⟨a1, a2⟩
      dsimp only at a1 a2
      rw [show k0 + 1 + (2047 - k0) = 2048 by omega] at a1 a2
      subst a1
      unfold fX2_greatestBut_l14
      dsimp only
      rw [if_pos (by decide)]
      exact ⟨_, rfl, a2⟩
  unfold fX2_greatestBut
  rw [wx]
  by_cases c : x = 0
  · rw [if_pos c]
    exact key 1 (by decide) (by omega) (fun w' h => by omega)
  · rw [if_neg c]
    exact key 0 (by decide) (by omega) (fun w' h => absurd h (Nat.not_lt_zero _))
theorem s_secondNow {f : Nat → Int} (hf : pbd f) {m : zMem} (hC : iCodeM m) (hS : ∀ c, c < 39 → m (58, 0, 0) c = f c) {x : Int} (hx : -1 ≤ x ∧ x < 2048) : ∃ r, fX12_secondNow x m = some r ∧ pbut f x 2048 r := by
  have wx : w32 x = x := w32_id (by omega) (by omega)
  unfold fX12_secondNow
  have hh := zlp_inv (body := fX12_secondNow_l7 x m) (fun j st => st.2.2 = (j : Int) ∧ ((st.1 = -1 ∧ ∀ w' : Nat, w' < j → (w' : Int) = x) ∨ ∃ w : Nat, st.1 = (w : Int) ∧ st.2.1 = pT f w ∧ w < 2048 ∧ pbut f x j (w : Int))) (fun st => pbut f x 2048 st.1) 2048 (N := 5000) (by decide) (s0 := ((-1), 0, 0)) ⟨rfl, Or.inl ⟨rfl, fun w' h => absurd h (Nat.not_lt_zero _)⟩⟩ ?_ ?_
  · obtain ⟨R, hr, hq⟩ := hh
    rw [hr, zb_some]
    exact ⟨_, rfl, hq⟩
  · rintro n ⟨t1, t2, t3⟩ hn ⟨a1, a2⟩
    dsimp only at a1 a2
    subst a1
    have bn := pT_bd hf n
    unfold fX12_secondNow_l7 fX12_secondNow_b7_46 fX12_secondNow_b7_52
    dsimp only
    rw [if_neg (by rw [w32_n (by omega)]; omega), w32_n (n := n) (by omega), wx]
    by_cases c : (n : Int) = x
    · rw [if_pos c]
      refine Or.inl ⟨_, rfl, by dsimp only; omega, ?_⟩
      rcases a2 with ⟨b1, b2⟩ | ⟨w, b1, b2, b3, b4⟩
      · refine Or.inl ⟨b1, fun w' h => ?_⟩
        by_cases e : w' = n
        · subst e; exact c
        · exact b2 w' (by omega)
      · exact Or.inr ⟨w, b1, b2, b3, pbut_skip b4 c⟩
    · rw [if_neg c, s_sumNow hC hS hn, zb_some]
      rcases a2 with ⟨b1, b2⟩ | ⟨w, b1, b2, b3, b4⟩
      · subst b1
        rw [if_pos (by decide)]
        refine Or.inl ⟨_, rfl, by dsimp only; omega, Or.inr ⟨n, rfl, rfl, hn, n, rfl, by omega, c, fun w' h1 h2 => ?_⟩⟩
        by_cases e : w' = n
        · subst e; exact Or.inr ⟨rfl, Nat.le_refl _⟩
        · exact absurd (b2 w' (by omega)) h2
      · subst b1 b2
        have bw := pT_bd hf w
        rw [if_neg (by rw [w32_n (by omega)]; omega), w32_id (z := pT f n) (by omega) (by omega), w32_id (z := pT f w) (by omega) (by omega)]
        by_cases c2 : pT f w < pT f n
        · rw [if_pos c2]
          exact Or.inl ⟨_, rfl, by dsimp only; omega, Or.inr ⟨n, rfl, rfl, hn, pbut_new b4 c c2⟩⟩
        · rw [if_neg c2]
          exact Or.inl ⟨_, rfl, by dsimp only; omega, Or.inr ⟨w, rfl, rfl, b3, pbut_old b4 (by omega)⟩⟩
  · rintro ⟨t1, t2, t3⟩ ⟨a1, a2⟩
    dsimp only at a1 a2
    subst a1
    unfold fX12_secondNow_l7
    dsimp only
    rw [if_pos (by decide)]
    rcases a2 with ⟨-, b2⟩ | ⟨w, b1, -, -, b4⟩
    · have h0 := b2 0 (by decide)
      have h1 := b2 1 (by decide)
      omega
    · subst b1
      exact ⟨_, rfl, b4⟩
