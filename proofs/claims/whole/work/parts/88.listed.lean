/-! LISTED -/
def pkey (f : Nat → Int) (n : Nat) : Int := (pT f (pww n) + 1000000) * 2048 + (2047 - (pww n : Int))
/-- how many keys reach x -/
def pge (f : Nat → Int) (x : Int) : Int := zsm (fun n => if pkey f n < x then 0 else 1) 256
theorem pkey_rng {f : Nat → Int} (hf : pbd f) {n : Nat} (hn : n < 256) : 0 < pkey f n ∧ pkey f n < 4294967296 := by
  have h1 := pT_bd hf (pww n)
  have h2 := pww_lt hn
  unfold pkey
  omega
theorem pkey_gt {f : Nat → Int} {a b : Nat} (ha : a < 256) (hb : b < 256) : pkey f a < pkey f b ↔ pT f (pww a) < pT f (pww b) ∨ (pT f (pww b) = pT f (pww a) ∧ b < a) := by
  have h1 := pww_lt ha
  have h2 := pww_lt hb
  have h3 := pww_div ha
  have h4 := pww_div hb
  have hab : a = b → pww a = pww b := fun e => by rw [e]
  unfold pkey
  constructor
  · intro h
    by_cases c0 : pT f (pww a) < pT f (pww b)
    · exact Or.inl c0
    · have e : pT f (pww b) = pT f (pww a) := by omega
      exact Or.inr ⟨e, by omega⟩
  · rintro (h | ⟨h, h'⟩)
    · omega
    · omega
theorem pkey_inj {f : Nat → Int} {a b : Nat} (ha : a < 256) (hb : b < 256) (h : pkey f a = pkey f b) : a = b := by
  have h1 := pww_lt ha
  have h2 := pww_lt hb
  have h3 := pww_div ha
  have h4 := pww_div hb
  unfold pkey at h
  omega
theorem zsm_lt {f g : Nat → Int} {e : Nat} : ∀ {n : Nat}, e < n → (∀ k, k < n → f k ≤ g k) → f e < g e → zsm f n < zsm g n
  | 0, h, _, _ => absurd h (Nat.not_lt_zero _)
  | n + 1, h, hf, he => by
    rw [zsm, zsm]
    have hle : ∀ n, (∀ k, k < n → f k ≤ g k) → zsm f n ≤ zsm g n := fun n => by
      induction n with
      | zero => intro _; exact Int.le_refl _
      | succ n ih => intro h; rw [zsm, zsm]; have := ih (fun k hk => h k (by omega)); have := h n (by omega); omega
    by_cases c : e = n
    · subst c
      have := hle e (fun k hk => hf k (by omega))
      omega
    · have := zsm_lt (n := n) (by omega) (fun k hk => hf k (by omega)) he
      have := hf n (by omega)
      omega
theorem pge_rng (f : Nat → Int) (x : Int) : 0 ≤ pge f x ∧ pge f x ≤ 256 := zsm_01 (fun k _ => by split <;> decide)
theorem c_keyCount {c : zMem} {f : Nat → Int} (hf : pbd f) (hk : ∀ n, n < 256 → c (15, 0, 0) n = pkey f n) {x : Int} (hx : 0 ≤ x ∧ x < 17179869184) (a b d : Int) : zlp (fX11_keyAt_l25 a c b d x) 5000 (0, 0) = some (pge f x, 256) := by
  have hh := zlp_0 (body := fX11_keyAt_l25 a c b d x) (S := fun j => (zsm (fun n => if pkey f n < x then 0 else 1) j, (j : Int))) (r := (pge f x, 256)) 256 (N := 5000) (by decide) ?_ ?_
  · exact hh
  · intro j hj
    have hr := pkey_rng hf hj
    have wk : w64 (pkey f j) = pkey f j := w64_id (by omega) (by omega)
    have wx : w64 x = x := w64_id (by omega) (by omega)
    unfold fX11_keyAt_l25 fX11_keyAt_b25_49
    dsimp only
    rw [if_neg (by rw [w32_n (by omega)]; omega), if_pos (zin_nat hj (by decide)), ix_nat (by omega), hk j hj, wk, wx]
    show _ = some (Sum.inl (zsm (fun n => if pkey f n < x then 0 else 1) (j + 1), ((j + 1 : Nat) : Int)))
    rw [zsm]
    by_cases c0 : pkey f j < x
    · rw [if_pos c0, if_pos c0, Int.add_zero]; rfl
    · rw [if_neg c0, if_neg c0]; rfl
  · unfold fX11_keyAt_l25
    dsimp only
    rw [if_pos (by decide)]; rfl
theorem or_pow {q b : Nat} : 2 ^ (b + 1) * q ||| 2 ^ b = 2 ^ (b + 1) * q + 2 ^ b := (Nat.two_pow_add_eq_or_of_lt (Nat.pow_lt_pow_right (by decide) (Nat.lt_succ_self b)) q).symm
theorem c_keyAt {c : zMem} {f : Nat → Int} (hf : pbd f) (hk : ∀ n, n < 256 → c (15, 0, 0) n = pkey f n) {i : Nat} (hi : i < 256) : ∃ F : Nat, fX11_keyAt (i : Int) c = some (F : Int) ∧ F < 8589934592 ∧ (i : Int) < pge f (F : Int) ∧ pge f ((F : Int) + 1) ≤ (i : Int) := by
  have hh := zlp_inv (body := fX11_keyAt_l6 (i : Int) c) (fun j st => st.2 = 32 - (j : Int) ∧ ∃ F q : Nat, st.1 = (F : Int) ∧ F = 2 ^ (33 - j) * q ∧ F + 2 ^ (33 - j) ≤ 8589934592 ∧ (i : Int) < pge f (F : Int) ∧ pge f (((F + 2 ^ (33 - j) : Nat)) : Int) ≤ (i : Int)) (fun st => ∃ F : Nat, st.1 = (F : Int) ∧ F < 8589934592 ∧ (i : Int) < pge f (F : Int) ∧ pge f ((F : Int) + 1) ≤ (i : Int)) 33 (N := 5000) (by decide) (s0 := (0, 32)) ?_ ?_ ?_
  · obtain ⟨⟨x, y⟩, hr, F, r1, r2⟩ := hh
    dsimp only at r1
    subst r1
    unfold fX11_keyAt
    rw [hr, zb_some]
    exact ⟨F, rfl, r2⟩
  · refine ⟨rfl, 0, 0, rfl, rfl, by decide, ?_, ?_⟩
    · have : pge f ((0 : Nat) : Int) = zsm (fun _ => 1) 256 := zsm_cong (fun n hn => if_neg (by have := pkey_rng hf hn; omega))
      rw [this, show zsm (fun _ => (1 : Int)) 256 = 256 by decide +kernel]; omega
    · have : pge f (((0 + 2 ^ (33 - 0) : Nat)) : Int) = zsm (fun _ => 0) 256 := zsm_cong (fun n hn => if_pos (by
        have h1 := pkey_rng hf hn
        have h2 : (((0 + 2 ^ (33 - 0) : Nat)) : Int) = 8589934592 := by decide
        rw [h2]; omega))
      rw [this, zsm_0]; omega
  · rintro j ⟨t0, t1⟩ hj ⟨a1, F, q, a2, a3, a4, a5, a6⟩
    dsimp only at a1 a2
    subst a1 a2
    have ep : 33 - j = (32 - j) + 1 := by omega
    have e2 : 2 ^ (33 - j) = 2 * 2 ^ (32 - j) := by rw [ep, Nat.pow_succ, Nat.mul_comm]
    have hP : 0 < 2 ^ (32 - j) := Nat.pos_of_ne_zero (by simp)
    have eb : 32 - (j : Int) = ((32 - j : Nat) : Int) := by omega
    have el : lor (F : Int) (lshl 1 (32 - (j : Int))) = ((F + 2 ^ (32 - j) : Nat) : Int) := by
      have hb2 : 2 ^ (32 - j) < 9223372036854775808 := by omega
      rw [eb, show (1 : Int) = ((1 : Nat) : Int) from rfl, lshl_nat (by omega), Nat.one_mul, lor_nat (by omega) hb2, a3, ep, or_pow]
    have hc := c_keyCount hf hk (x := ((F + 2 ^ (32 - j) : Nat) : Int)) (by omega) (i : Int) (F : Int) (32 - (j : Int))
    have hr := pge_rng f ((F + 2 ^ (32 - j) : Nat) : Int)
    have e33 : 33 - (j + 1) = 32 - j := by omega
    unfold fX11_keyAt_l6 fX11_keyAt_b6_64
    simp only [zlet_eq]
    rw [if_neg (by rw [w32_id (by omega) (by omega)]; omega), el, hc, zb_some]
    dsimp only
    rw [w32_id (z := pge f ((F + 2 ^ (32 - j) : Nat) : Int)) (by omega) (by omega), w32_n (show i < 2147483648 by omega)]
    by_cases c0 : pge f ((F + 2 ^ (32 - j) : Nat) : Int) ≤ (i : Int)
    · rw [if_pos c0]
      refine Or.inl ⟨_, rfl, by dsimp only; omega, F, 2 * q, rfl, ?_, by rw [e33]; omega, a5, by rw [e33]; exact c0⟩
      rw [e33, a3, e2, Nat.mul_comm 2 (2 ^ (32 - j)), Nat.mul_assoc]
    · rw [if_neg c0]
      refine Or.inl ⟨_, rfl, by dsimp only; omega, F + 2 ^ (32 - j), 2 * q + 1, rfl, ?_, by rw [e33]; omega, by omega, ?_⟩
      · rw [e33, a3, e2, Nat.mul_add, Nat.mul_one, Nat.mul_comm 2 (2 ^ (32 - j)), Nat.mul_assoc]
      · rw [e33, show F + 2 ^ (32 - j) + 2 ^ (32 - j) = F + 2 ^ (33 - j) by omega]; exact a6
  · rintro ⟨t0, t1⟩ ⟨a1, F, q, a2, a3, a4, a5, a6⟩
    dsimp only at a1 a2
    subst a1 a2
    have e1 : 2 ^ (33 - 33) = 1 := rfl
    rw [e1] at a4 a6
    unfold fX11_keyAt_l6
    dsimp only
    rw [if_pos (by decide)]
    exact ⟨_, rfl, F, rfl, by omega, a5, a6⟩
/-- the i-th by the keys -/
theorem pkey_ith {f : Nat → Int} (hf : pbd f) {i F : Nat} (h1 : (i : Int) < pge f (F : Int)) (h2 : pge f ((F : Int) + 1) ≤ (i : Int)) : ∃ w, w < 256 ∧ pkey f w = (F : Int) ∧ pge f (pkey f w + 1) = (i : Int) := by
  have hex : ∃ w, w < 256 ∧ pkey f w = (F : Int) := Classical.byContradiction fun hc => by
    have : pge f ((F : Int) + 1) = pge f (F : Int) := zsm_cong (fun n hn => by
      have hne : pkey f n ≠ (F : Int) := fun e => hc ⟨n, hn, e⟩
      by_cases c0 : pkey f n < (F : Int)
      · rw [if_pos c0, if_pos (by omega)]
      · rw [if_neg c0, if_neg (by omega)])
    omega
  obtain ⟨w, w1, w2⟩ := hex
  refine ⟨w, w1, w2, ?_⟩
  have := zsm_one (f := fun n => if pkey f n < (F : Int) then 0 else 1) (f' := fun n => if pkey f n < (F : Int) + 1 then 0 else 1) (e := w) (n := 256) w1 (fun k hk hne => by
    have hne' : pkey f k ≠ (F : Int) := fun e => hne (pkey_inj hk w1 (by rw [e, w2]))
    by_cases c0 : pkey f k < (F : Int)
    · rw [if_pos c0, if_pos (by omega)]
    · rw [if_neg c0, if_neg (by omega)])
  rw [w2, if_neg (Int.lt_irrefl _), if_pos (by omega)] at this
  have h3 : pge f ((F : Int) + 1) = pge f (F : Int) - 1 + 0 := this
  rw [w2]; omega
theorem pge_one {f : Nat → Int} {a b : Nat} (ha : a < 256) (hb : b < 256) (h : pge f (pkey f a + 1) = pge f (pkey f b + 1)) : a = b := by
  have key : ∀ {a b : Nat}, a < 256 → b < 256 → pkey f a < pkey f b → pge f (pkey f b + 1) < pge f (pkey f a + 1) := fun {a b} ha hb hl => zsm_lt (e := b) hb (fun k hk => by
    by_cases c0 : pkey f k < pkey f b + 1
    · rw [if_pos c0]; split <;> decide
    · rw [if_neg c0, if_neg (by omega)]; exact Int.le_refl _) (by rw [if_pos (by omega), if_neg (by omega)]; decide)
  rcases (show pkey f a = pkey f b ∨ pkey f a < pkey f b ∨ pkey f b < pkey f a by omega) with e | e | e
  · exact pkey_inj ha hb e
  · have := key ha hb e; omega
  · have := key hb ha e; omega
theorem c_keys {c : zMem} {f : Nat → Int} (hf : pbd f) (hs : ∀ w, w < 2048 → c (23, 0, 0) w = pT f w) (a b : Int) : ∃ i' K, zlp (fX11_listed_l53 a b) 5000 (0, c) = some (i', K) ∧ (∀ q, q ≠ (15, 0, 0) → K q = c q) ∧ ∀ n, n < 256 → K (15, 0, 0) n = pkey f n := by
  have hh := zlp_inv (body := fX11_listed_l53 a b) (fun j st => st.1 = (j : Int) ∧ (∀ q, q ≠ (15, 0, 0) → st.2 q = c q) ∧ ∀ n, n < j → st.2 (15, 0, 0) n = pkey f n) (fun st => (∀ q, q ≠ (15, 0, 0) → st.2 q = c q) ∧ ∀ n, n < 256 → st.2 (15, 0, 0) n = pkey f n) 256 (N := 5000) (by decide) (s0 := (0, c)) ⟨rfl, fun _ _ => rfl, fun k hk => absurd hk (Nat.not_lt_zero k)⟩ ?_ ?_
  · obtain ⟨⟨i', K⟩, hr, r1⟩ := hh
    exact ⟨i', K, hr, r1⟩
  · rintro j ⟨t1, K⟩ hj ⟨a1, a2, a3⟩
    dsimp only at a1 a2 a3
    subst a1
    have h1 := pww_lt hj
    have hb := pT_bd hf (pww j)
    have xj : ix (j : Int) = j := ix_nat (by omega)
    have xw : ix (pww j : Int) = pww j := ix_nat (by omega)
    have e23 : K (23, 0, 0) (pww j) = pT f (pww j) := by rw [a2 _ (by simp), hs _ h1]
    unfold fX11_listed_l53
    dsimp only
    rw [if_neg (by rw [w32_n (by omega)]; omega), s_wholeWord hj, zb_some]
    simp only [zlet_eq, xj, xw, e23]
    rw [if_pos (zin_nat h1 (by decide)), if_pos (zin_nat hj (by decide)), w32_id (z := pT f (pww j)) (by omega) (by omega), w32_id (z := 2047 - (pww j : Int)) (by omega) (by omega)]
    refine Or.inl ⟨_, rfl, by dsimp only; omega, fun q hq => by dsimp only; rw [zst_nq hq, a2 q hq], fun k hk => ?_⟩
    dsimp only
    by_cases c0 : k = j
    · subst c0; rw [zst_at]; rfl
    · rw [zst_nk c0]; exact a3 k (by omega)
  · rintro ⟨t1, K⟩ ⟨a1, a2, a3⟩
    dsimp only at a1 a2 a3
    subst a1
    unfold fX11_listed_l53
    dsimp only
    rw [if_pos (by decide)]
    exact ⟨_, rfl, a2, a3⟩
theorem m_keys {m : zMem} {f : Nat → Int} (hC : iCodeM m) (hS : ∀ k, k < 39 → m (58, 0, 0) k = f k) (a b : Int) : ∃ i' K, zlp (fX12_listed_l46 a b) 5000 (0, m) = some (i', K) ∧ (∀ q, q ≠ (64, 0, 0) → q ≠ (65, 0, 0) → K q = m q) ∧ (∀ n, n < 256 → K (64, 0, 0) n = (pww n : Int)) ∧ ∀ n, n < 256 → K (65, 0, 0) n = pT f (pww n) := by
  have hh := zlp_inv (body := fX12_listed_l46 a b) (fun j st => st.1 = (j : Int) ∧ (∀ q, q ≠ (64, 0, 0) → q ≠ (65, 0, 0) → st.2 q = m q) ∧ (∀ n, n < j → st.2 (64, 0, 0) n = (pww n : Int)) ∧ ∀ n, n < j → st.2 (65, 0, 0) n = pT f (pww n)) (fun st => (∀ q, q ≠ (64, 0, 0) → q ≠ (65, 0, 0) → st.2 q = m q) ∧ (∀ n, n < 256 → st.2 (64, 0, 0) n = (pww n : Int)) ∧ ∀ n, n < 256 → st.2 (65, 0, 0) n = pT f (pww n)) 256 (N := 5000) (by decide) (s0 := (0, m)) ⟨rfl, fun _ _ _ => rfl, fun k hk => absurd hk (Nat.not_lt_zero k), fun k hk => absurd hk (Nat.not_lt_zero k)⟩ ?_ ?_
  · obtain ⟨⟨i', K⟩, hr, r1⟩ := hh
    exact ⟨i', K, hr, r1⟩
  · rintro j ⟨t1, K⟩ hj ⟨a1, a2, a3, a4⟩
    dsimp only at a1 a2 a3 a4
    subst a1
    have h1 := pww_lt hj
    have xj : ix (j : Int) = j := ix_nat (by omega)
    have ed : idiv (j : Int) 32 = ((j / 32 : Nat) : Int) := by rw [idiv_of (by omega) (by omega) (by decide) (by decide)]; omega
    have er : irem (j : Int) 32 = ((j % 32 : Nat) : Int) := by rw [irem_of (by omega) (by omega) (by decide) (by decide)]; omega
    have ew : j / 32 * 32 + j % 32 = j := by omega
    have hC1 : iCodeM (zst K (64, 0, 0) j (pww j : Int)) := fun w hw => by rw [zst_nq (by simp), a2 _ (by simp) (by simp)]; exact hC w hw
    have hS1 : ∀ k, k < 39 → zst K (64, 0, 0) j (pww j : Int) (58, 0, 0) k = f k := fun k hk => by rw [zst_nq (by simp), a2 _ (by simp) (by simp)]; exact hS k hk
    unfold fX12_listed_l46
    dsimp only
    rw [if_neg (by rw [w32_n (by omega)]; omega), ed, er, s_wordOf (by omega) (by omega), zb_some, ew]
    simp only [zlet_eq, xj, zst_at]
    rw [if_pos (zin_nat hj (by decide)), s_sumNow hC1 hS1 h1, zb_some]
    refine Or.inl ⟨_, rfl, by dsimp only; omega, fun q q1 q2 => by dsimp only; rw [zst_nq q2, zst_nq q1, a2 q q1 q2], fun k hk => ?_, fun k hk => ?_⟩
    · dsimp only
      rw [zst_nq (by simp)]
      by_cases c0 : k = j
      · subst c0; rw [zst_at]
      · rw [zst_nk c0]; exact a3 k (by omega)
    · dsimp only
      by_cases c0 : k = j
      · subst c0; rw [zst_at]
      · rw [zst_nk c0, zst_nq (by simp)]; exact a4 k (by omega)
  · rintro ⟨t1, K⟩ ⟨a1, a2, a3, a4⟩
    dsimp only at a1 a2 a3 a4
    subst a1
    unfold fX12_listed_l46
    dsimp only
    rw [if_pos (by decide)]
    exact ⟨_, rfl, a2, a3, a4⟩
theorem m_placeOf {m : zMem} {f : Nat → Int} (hf : pbd f) (hs : ∀ n, n < 256 → m (65, 0, 0) n = pT f (pww n)) {w : Nat} (hw : w < 256) (a b : Int) : zlp (fX12_listed_l115 a b m (w : Int)) 5000 (0, 0) = some (pge f (pkey f w + 1), 256) := by
  have hh := zlp_0 (body := fX12_listed_l115 a b m (w : Int)) (S := fun j => (zsm (fun n => if pkey f n < pkey f w + 1 then 0 else 1) j, (j : Int))) (r := (pge f (pkey f w + 1), 256)) 256 (N := 5000) (by decide) ?_ ?_
  · exact hh
  · intro j hj
    have h1 := pT_bd hf (pww j)
    have h2 := pT_bd hf (pww w)
    have hg := pkey_gt (f := f) hw hj
    unfold fX12_listed_l115 fX12_listed_b115_166 fX12_listed_b115_170 fX12_listed_b115_171
    simp only [zlet_eq]
    rw [if_neg (by rw [w32_n (by omega)]; omega), if_pos (zin_nat hj (by decide)), if_pos (zin_nat hw (by decide)), ix_nat (by omega), ix_nat (by omega), hs j hj, hs w hw, w32_id (z := pT f (pww j)) (by omega) (by omega), w32_id (z := pT f (pww w)) (by omega) (by omega), w32_n (show w < 2147483648 by omega), w32_n (show j < 2147483648 by omega)]
    show _ = some (Sum.inl (zsm (fun n => if pkey f n < pkey f w + 1 then 0 else 1) (j + 1), ((j + 1 : Nat) : Int)))
    rw [zsm]
    by_cases c0 : pT f (pww w) < pT f (pww j)
    · have := hg.mpr (Or.inl c0)
      rw [if_pos c0, if_neg (by omega)]; rfl
    · rw [if_neg c0]
      by_cases c1 : pT f (pww j) = pT f (pww w)
      · rw [if_pos c1]
        by_cases c2 : (w : Int) ≤ (j : Int)
        · have : ¬ pkey f w < pkey f j := fun hh => by
            rcases hg.mp hh with h3 | h3
            · exact c0 h3
            · omega
          rw [if_pos c2, if_pos (by omega)]; rfl
        · have := hg.mpr (Or.inr ⟨c1, by omega⟩)
          rw [if_neg c2, if_neg (by omega)]; rfl
      · have : ¬ pkey f w < pkey f j := fun hh => by
          rcases hg.mp hh with h3 | h3
          · exact c0 h3
          · exact c1 h3.1
        rw [if_neg c1, if_pos (by omega)]; rfl
  · unfold fX12_listed_l115
    dsimp only
    rw [if_pos (by decide)]; rfl
section
variable {n : Int} {e : Nat → Prop} {c m : zMem}
theorem Q_listed (h : RW n e c m) {a b : Int} (ha : i32 a) (hb : i32 b) : okC n e (fX11_listed a b c) (fX12_listed a b m) := by
  have wb : w32 b = b := w32_id hb.1 hb.2
  have hW := h.kp (show n ≤ n + 60 by omega) (sC.rf c) (sM_th m 0)
  unfold okC fX11_listed fX12_listed fX11_listed_b17 fX11_listed_b18
  simp only [zlet_eq, wb]
  rcases P_refuse2 h.E ha with ⟨h1, h2⟩ | ⟨h1, h2, h3⟩
  · simp only [h1, h2, zb_some, if_neg (show ¬ w32 (-2) = 0 by decide), if_pos w32_0, ite_self]
    exact ⟨_, _, _, rfl, rfl, hW⟩
  · rw [h1, zb_some, if_neg (show ¬ w32 1 = 0 by decide), v_within hb (by decide) (by decide), vz]
    by_cases c0 : 0 ≤ b ∧ b ≤ 255
    · rw [if_neg (show ¬ b < 0 by omega), if_neg (show ¬ 256 ≤ b by omega), if_pos c0]
      rcases h3 with ⟨h3, h4⟩ | ⟨p, rfl, p1, h3, hf, J, h4, h5, h6⟩
      · rw [h3, zb_some, h4, zb_some, if_neg (show ¬ w32 (-6) = 0 by decide)]
        dsimp only
        rw [if_neg (show ¬ w32 (-6) = 0 by decide)]
        exact ⟨_, _, _, rfl, rfl, hW⟩
      · obtain ⟨i, rfl⟩ := nat_of c0.1
        have i8 : i < 256 := by omega
        obtain ⟨K, k1, k2, k3⟩ := s_sumAll (f := c (41, 1, p)) (q := (41, 1, p)) (by intro e; cases e) (I := c) (fun _ _ => rfl)
        obtain ⟨j1, K2, l1, l2, l3⟩ := c_keys (c := K) (f := c (41, 1, p)) hf k2 (p : Int) (i : Int)
        obtain ⟨F, q1, q2, q3, q4⟩ := c_keyAt (c := K2) hf l3 i8
        obtain ⟨w, w1, w2, w3⟩ := pkey_ith hf q3 q4
        obtain ⟨j2, M, o1, o2, o3, o4⟩ := m_keys (m := J) (f := c (41, 1, p)) (h.1.2.2.1.keep h5) h6 (p : Int) (i : Int)
        have hloop := zlp_inv (body := fX12_listed_l101 (p : Int) (i : Int) M) (fun j st => st = (j : Int) ∧ j ≤ w) (fun r => r = .inr ((pww w : Int), M)) w (N := 5000) (by omega) (s0 := 0) ⟨rfl, by omega⟩ ?_ ?_
        · obtain ⟨r, g1, g2⟩ := hloop
          subst g2
          have hpw := pww_lt w1
          have eF : F % 2048 = 2047 - pww w := by
            unfold pkey at w2
            omega
          have el : land (F : Int) 2047 = ((F % 2048 : Nat) : Int) := by
            rw [show (2047 : Int) = ((2047 : Nat) : Int) from rfl, land_nat (by omega) (by decide)]
            have : F &&& 2 ^ 11 - 1 = F % 2 ^ 11 := Nat.and_two_pow_sub_one_eq_mod F 11
            exact congrArg (fun x : Nat => (x : Int)) this
          have er : 2047 - land (F : Int) 2047 = (pww w : Int) := by rw [el, eF]; omega
          rw [h3, zb_some, if_pos w32_0, if_pos (zin_of (by omega) (by omega) (by decide)), ix_nat (by omega), k1, zb_some, l1, zb_some]
          dsimp only
          rw [q1, zb_some, er, h4, zb_some]
          dsimp only
          rw [if_pos w32_0, o1, zb_some]
          dsimp only
          rw [g1, zbr_inr]
          refine ⟨_, _, _, rfl, rfl, h.kp (by omega) (fun q hq => ?_) (fun q hq => ?_)⟩
          · rw [l2 q (kc_ne hq rfl), k3 q (kc_ne hq rfl) (kc_ne hq rfl)]
          · rw [o2 q (km_ne hq rfl) (km_ne hq rfl), h5 q hq]
        · rintro j st hj ⟨a1, a2⟩
          subst a1
          have hr := pge_rng (c (41, 1, p)) (pkey (c (41, 1, p)) j + 1)
          have hne : ¬ pge (c (41, 1, p)) (pkey (c (41, 1, p)) j + 1) = (i : Int) := fun hc => by
            have := pge_one (f := c (41, 1, p)) (show j < 256 by omega) w1 (by rw [hc, w3])
            omega
          unfold fX12_listed_l101
          rw [if_neg (by rw [w32_n (by omega)]; omega), m_placeOf hf o4 (show j < 256 by omega), zb_some]
          dsimp only
          rw [if_neg (by rw [w32_id (z := pge (c (41, 1, p)) (pkey (c (41, 1, p)) j + 1)) (by omega) (by omega), w32_n (by omega)]; exact hne)]
          exact Or.inl ⟨_, rfl, by omega, by omega⟩
        · rintro st ⟨a1, a2⟩
          subst a1
          unfold fX12_listed_l101
          rw [if_neg (by rw [w32_n (by omega)]; omega), m_placeOf hf o4 w1, zb_some]
          dsimp only
          rw [w3, if_pos rfl, if_pos (zin_nat w1 (by decide)), ix_nat (by omega), o3 w w1]
          exact ⟨_, rfl, rfl⟩
    · rw [if_neg c0, h2, zb_some, if_neg (show ¬ w32 (-3) = 0 by decide)]
      by_cases c1 : b < 0
      · rw [if_pos c1]; exact ⟨_, _, _, rfl, rfl, hW⟩
      · rw [if_neg c1, if_pos (by omega)]; exact ⟨_, _, _, rfl, rfl, hW⟩
end
