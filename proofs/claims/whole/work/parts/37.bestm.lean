/-! THE BEST WORD, model -/
def pAd (T V : Nat) : Prop := V < 2 ^ T ∧ (T = 12 → V % 2 = 0) ∧ (T = 13 → V % 4 = 0)
def pth (T V : Nat) : Nat := if T ≤ 11 then V else if T = 12 then V / 2 else V / 4
def pst (V : Nat) : Nat := 2 * (V % 2) + V / 2 % 2
theorem pst_lt (V : Nat) : pst V < 4 := by unfold pst; omega
theorem pst_8 : ∀ r, r < 8 → 2 * (r % 2) + r / 2 % 2 = 2 * (r % 2) + (2 * (r / 2 % 2) + r / 4 % 2) / 2 ∧ r = 4 * ((2 * (r / 2 % 2) + r / 4 % 2) % 2) + 2 * ((2 * (r / 2 % 2) + r / 4 % 2) / 2) + r % 2 := by decide
theorem pst_to {V j k b : Nat} (h1 : pst V = j) (h2 : pst (V / 2) = k) (h3 : V % 2 = b) : j = 2 * b + k / 2 ∧ V % 8 = 4 * (k % 2) + 2 * (k / 2) + b := by
  have a1 : V % 2 = V % 8 % 2 := by omega
  have a2 : V / 2 % 2 = V % 8 / 2 % 2 := by omega
  have a3 : V / 2 / 2 % 2 = V % 8 / 4 % 2 := by omega
  unfold pst at h1 h2
  rw [a1, a2] at h1
  rw [a2, a3] at h2
  rw [a1] at h3
  subst h1 h2 h3
  exact pst_8 (V % 8) (Nat.mod_lt _ (by decide))
theorem pst_2 {X k b : Nat} (h : pst X = k) (hb : b < 2) : pst (2 * X + b) = 2 * b + k / 2 ∧ pst ((2 * X + b) / 2) = k ∧ (2 * X + b) % 2 = b ∧ (2 * X + b) % 8 = 4 * (k % 2) + 2 * (k / 2) + b := by
  have e : (2 * X + b) / 2 = X := by omega
  have e2 : (2 * X + b) % 2 = b := by omega
  have := pst_to (V := 2 * X + b) (j := pst (2 * X + b)) (k := k) rfl (by rw [e]; exact h) e2
  exact ⟨this.1, by rw [e]; exact h, e2, this.2⟩
theorem pAd_s {t V b : Nat} (ht : t < 13) (h : pAd t V) (hb : b < 2) (hb2 : 11 ≤ t → b = 0) : pAd (t + 1) (2 * V + b) := by
  have hp : (2 : Nat) ^ (t + 1) = 2 * 2 ^ t := Nat.pow_succ'
  obtain ⟨h1, h2, h3⟩ := h
  exact ⟨by omega, fun e => by have := hb2 (by omega); omega, fun e => by have := hb2 (by omega); have := h2 (by omega); omega⟩
theorem pAd_d {t V : Nat} (ht : t < 13) (h : pAd (t + 1) V) : pAd t (V / 2) ∧ (t = 11 ∨ t = 12 → V % 2 = 0) := by
  have hp : (2 : Nat) ^ (t + 1) = 2 * 2 ^ t := Nat.pow_succ'
  obtain ⟨h1, h2, h3⟩ := h
  exact ⟨⟨by omega, fun e => by have := h3 (by omega); omega, fun e => by omega⟩, fun e => by
    rcases e with e | e
    · exact h2 (by omega)
    · have := h3 (by omega); omega⟩
theorem pth_s {t V b : Nat} (ht : t < 13) (hb : b < 2) (hb2 : 11 ≤ t → b = 0) : pth (t + 1) (2 * V + b) = if t < 11 then 2 * pth t V + b else pth t V := by
  unfold pth
  by_cases h : t < 11
  · rw [if_pos (by omega), if_pos h, if_pos (by omega)]
  · have := hb2 (by omega)
    rw [if_neg (by omega), if_neg h]
    by_cases h2 : t = 11
    · rw [if_pos (by omega), if_pos (by omega)]; omega
    · rw [if_neg (by omega), if_neg (by omega), if_pos (by omega)]; omega
theorem pth_le {T V W : Nat} (hT : T ≤ 13) (hV : pAd T V) (hW : pAd T W) : pth T V ≤ pth T W ↔ V ≤ W := by
  obtain ⟨-, v1, v2⟩ := hV
  obtain ⟨-, w1, w2⟩ := hW
  unfold pth
  by_cases h : T ≤ 11
  · rw [if_pos h, if_pos h]
  · rw [if_neg h, if_neg h]
    by_cases h2 : T = 12
    · have := v1 h2; have := w1 h2
      rw [if_pos h2, if_pos h2]; omega
    · have := v2 (by omega); have := w2 (by omega)
      rw [if_neg h2, if_neg h2]; omega
theorem pth_bd {T V : Nat} (hT : T ≤ 13) (h : pAd T V) : pth T V < 2048 := by
  obtain ⟨h1, -, -⟩ := h
  unfold pth
  by_cases h : T ≤ 11
  · have : (2 : Nat) ^ T ≤ 2 ^ 11 := Nat.pow_le_pow_right (by decide) h
    have e : (2 : Nat) ^ 11 = 2048 := by decide
    rw [if_pos h]; omega
  · rw [if_neg h]
    by_cases h2 : T = 12
    · subst h2
      have e : (2 : Nat) ^ 12 = 4096 := by decide
      rw [if_pos rfl]; omega
    · have : T = 13 := by omega
      subst this
      have e : (2 : Nat) ^ 13 = 8192 := by decide
      rw [if_neg (by decide)]; omega
/-- the best of some candidates -/
def pBV (f : Nat → Int) (T : Nat) (C : Nat → Prop) (S W : Int) : Prop := (S = -1073741824 ∧ 0 ≤ W ∧ W ≤ 2048 ∧ ∀ V, ¬ C V) ∨ ∃ V : Nat, C V ∧ S = pS f T V ∧ W = (pth T V : Int) ∧ ∀ V', C V' → pS f T V' < pS f T V ∨ (pS f T V' = pS f T V ∧ V ≤ V')
theorem pBV_iff {f : Nat → Int} {T : Nat} {C D : Nat → Prop} {S W : Int} (h : pBV f T C S W) (e : ∀ V, C V ↔ D V) : pBV f T D S W := by
  have : C = D := funext fun V => propext (e V)
  rw [← this]; exact h
theorem pBV_bd {f : Nat → Int} (hf : pbd f) {T : Nat} (hT : T ≤ 13) {C : Nat → Prop} (hC : ∀ V, C V → pAd T V) {S W : Int} (h : pBV f T C S W) : (S = -1073741824 ∨ (-390000 ≤ S ∧ S ≤ 390000)) ∧ 0 ≤ W ∧ W ≤ 2048 := by
  rcases h with ⟨h1, h2, h3, -⟩ | ⟨V, c1, c2, c3, -⟩
  · exact ⟨Or.inl h1, h2, h3⟩
  · have := pS_bd hf T hT V
    have := pth_bd hT (hC V c1)
    omega
/-- one candidate more, the best of its own -/
theorem pBV_add {f : Nat → Int} (hf : pbd f) {T : Nat} (hT : T ≤ 13) {C D : Nat → Prop} (hC : ∀ V, C V → pAd T V) (hD : ∀ V, D V → pAd T V) {S W : Int} (h : pBV f T C S W) {X : Nat} (hX : D X) (hb : ∀ V', D V' → pS f T V' < pS f T X ∨ (pS f T V' = pS f T X ∧ X ≤ V')) : (pS f T X < S ∨ (pS f T X = S ∧ W ≤ (pth T X : Int)) → pBV f T (fun V => C V ∨ D V) S W) ∧ (¬ (pS f T X < S ∨ (pS f T X = S ∧ W ≤ (pth T X : Int))) → pBV f T (fun V => C V ∨ D V) (pS f T X) (pth T X : Int)) := by
  have bx := pS_bd hf T hT X
  rcases h with ⟨h1, h2, h3, h4⟩ | ⟨V, c1, rfl, rfl, c4⟩
  · refine ⟨fun hc => absurd hc (by omega), fun _ => Or.inr ⟨X, Or.inr hX, rfl, rfl, fun V' hV' => ?_⟩⟩
    rcases hV' with a | a
    · exact absurd a (h4 V')
    · exact hb V' a
  · have hle := pth_le hT (hC V c1) (hD X hX)
    refine ⟨fun hc => Or.inr ⟨V, Or.inl c1, rfl, rfl, fun V' hV' => ?_⟩, fun hc => Or.inr ⟨X, Or.inr hX, rfl, rfl, fun V' hV' => ?_⟩⟩
    · rcases hV' with a | a
      · exact c4 V' a
      · have := hb V' a
        have : pS f T X < pS f T V ∨ (pS f T X = pS f T V ∧ V ≤ X) := by
          rcases hc with hc | ⟨hc, hc2⟩
          · exact Or.inl hc
          · exact Or.inr ⟨hc, hle.mp (by omega)⟩
        omega
    · rcases hV' with a | a
      · have := c4 V' a
        have : pS f T V < pS f T X ∨ (pS f T V = pS f T X ∧ X < V) := by
          by_cases e : pS f T X = pS f T V
          · refine Or.inr ⟨e.symm, ?_⟩
            have : ¬ V ≤ X := fun hvx => hc (Or.inr ⟨e, by have := hle.mpr hvx; omega⟩)
            omega
          · exact Or.inl (by omega)
        omega
      · exact hb V' a
theorem pb3 {k b : Nat} (hk : k < 4) (hb : b < 2) : (4 * (k % 2) + 2 * (k / 2) + b) % 2 = b ∧ (4 * (k % 2) + 2 * (k / 2) + b) / 2 % 2 = k / 2 ∧ (4 * (k % 2) + 2 * (k / 2) + b) / 4 % 2 = k % 2 := by
  have h1 : k = 0 ∨ k = 1 ∨ k = 2 ∨ k = 3 := by omega
  have h2 : b = 0 ∨ b = 1 := by omega
  rcases h1 with rfl | rfl | rfl | rfl <;> rcases h2 with rfl | rfl <;> decide
/-- one step of one bit from one state -/
theorem s_stepsBit {f : Nat → Int} {K : zMem} {t k b : Nat} (ht : t < 13) (hk : k < 4) (hb : b < 2) (hS : ∀ c, c < 39 → K (58, 0, 0) c = f c) (hA : -400000 ≤ K (59, 0, 0) k ∧ K (59, 0, 0) k ≤ 400000) (hf : pbd f) (hB : 0 ≤ K (60, 0, 0) k ∧ K (60, 0, 0) k ≤ 2048) (hC : -1073741824 ≤ K (61, 0, 0) (2 * b + k / 2) ∧ K (61, 0, 0) (2 * b + k / 2) ≤ 1000000) (hD : 0 ≤ K (62, 0, 0) (2 * b + k / 2) ∧ K (62, 0, 0) (2 * b + k / 2) ≤ 2048) : ∀ its wd : Int, its = K (59, 0, 0) k + pgn f t (4 * (k % 2) + 2 * (k / 2) + b) → wd = (if t < 11 then 2 * K (60, 0, 0) k + (b : Int) else K (60, 0, 0) k) → fX12_stepsBit (t : Int) (k : Int) (b : Int) K = some (if its < K (61, 0, 0) (2 * b + k / 2) ∨ (its = K (61, 0, 0) (2 * b + k / 2) ∧ K (62, 0, 0) (2 * b + k / 2) ≤ wd) then K else zst (zst K (61, 0, 0) (2 * b + k / 2) its) (62, 0, 0) (2 * b + k / 2) wd) := by
  intro its wd ei ew
  have x1 : ix (13 + (t : Int)) = 13 + t := by rw [ix_of (by omega) (by omega)]; omega
  have x2 : ix (26 + (t : Int)) = 26 + t := by rw [ix_of (by omega) (by omega)]; omega
  have x3 : idiv (k : Int) 2 = ((k / 2 : Nat) : Int) := by rw [idiv_of (by omega) (by omega) (by decide) (by decide)]; omega
  have x4 : irem (k : Int) 2 = ((k % 2 : Nat) : Int) := by rw [irem_of (by omega) (by omega) (by decide) (by decide)]; omega
  have x5 : ix (2 * (b : Int) + ((k / 2 : Nat) : Int)) = 2 * b + k / 2 := by rw [ix_of (by omega) (by omega)]; omega
  have sg : ∀ (n : Nat) (x : Int), n < 2147483648 → fX12_signed (n : Int) x = some (psg n x) := fun n x hn => by
    unfold fX12_signed psg
    rw [w32_n hn]
    by_cases h : n = 1
    · rw [if_pos (by omega), if_pos h]
    · rw [if_neg (by omega), if_neg h]
  have l1 : b ^^^ k / 2 < 2 := Nat.xor_lt_two_pow (n := 1) hb (by omega)
  have l2 : (b ^^^ k / 2) ^^^ k % 2 < 2 := Nat.xor_lt_two_pow (n := 1) l1 (by omega)
  have l3 : b ^^^ k % 2 < 2 := Nat.xor_lt_two_pow (n := 1) hb (by omega)
  have y1 : ixor (b : Int) ((k / 2 : Nat) : Int) = ((b ^^^ k / 2 : Nat) : Int) := ixor_nat (by omega) (by omega)
  have y2 : ixor ((b ^^^ k / 2 : Nat) : Int) ((k % 2 : Nat) : Int) = (((b ^^^ k / 2) ^^^ k % 2 : Nat) : Int) := ixor_nat (by omega) (by omega)
  have y3 : ixor (b : Int) ((k % 2 : Nat) : Int) = ((b ^^^ k % 2 : Nat) : Int) := ixor_nat (by omega) (by omega)
  have hg := pgn_bd hf (t := t) (by omega) (4 * (k % 2) + 2 * (k / 2) + b)
  have ei2 : K (59, 0, 0) k + psg b (f t) + psg ((b ^^^ k / 2) ^^^ k % 2) (f (13 + t)) + psg (b ^^^ k % 2) (f (26 + t)) = its := by
    rw [ei]; unfold pgn
    rw [(pb3 hk hb).1, (pb3 hk hb).2.1, (pb3 hk hb).2.2]
    omega
  have fin : ∀ w : Int, 0 ≤ w → w ≤ 5000 → fX12_stepsBit_b91 (t : Int) (k : Int) (b : Int) ((k / 2 : Nat) : Int) its w K = some (if its < K (61, 0, 0) (2 * b + k / 2) ∨ (its = K (61, 0, 0) (2 * b + k / 2) ∧ K (62, 0, 0) (2 * b + k / 2) ≤ w) then K else zst (zst K (61, 0, 0) (2 * b + k / 2) its) (62, 0, 0) (2 * b + k / 2) w) := fun w w0 w1 => by
    unfold fX12_stepsBit_b91 fX12_stepsBit_b138
    dsimp only [zlet]
    rw [if_pos (zin_of (by omega) (by omega) (by decide)), x5, w32_id (z := its) (by omega) (by omega), w32_id (z := K (61, 0, 0) (2 * b + k / 2)) (by omega) (by omega), w32_id (z := w) (by omega) (by omega), w32_id (z := K (62, 0, 0) (2 * b + k / 2)) (by omega) (by omega)]
    by_cases c1 : its < K (61, 0, 0) (2 * b + k / 2)
    · rw [if_pos c1, if_pos (Or.inl c1)]
    · rw [if_neg c1]
      by_cases c2 : its = K (61, 0, 0) (2 * b + k / 2)
      · rw [if_pos c2]
        by_cases c3 : w < K (62, 0, 0) (2 * b + k / 2)
        · rw [if_pos c3, if_pos (zin_of (by omega) (by omega) (by decide)), if_neg (by omega)]
        · rw [if_neg c3, if_pos (Or.inr ⟨c2, by omega⟩)]
      · rw [if_neg c2, if_pos (zin_of (by omega) (by omega) (by decide)), if_neg (by omega)]
  unfold fX12_stepsBit
  dsimp only [zlet]
  rw [x3, x4, if_pos (zin_of (by omega) (by omega) (by decide)), if_pos (zin_of (by omega) (by omega) (by decide)), x1, x2, ix_nat (by omega), ix_nat (by omega), hS t (by omega), hS (13 + t) (by omega), hS (26 + t) (by omega), sg b _ (by omega), zb_some, if_pos (zin_of (by omega) (by omega) (by decide)), y1, y2, y3, sg _ _ (by omega), zb_some, if_pos (zin_of (by omega) (by omega) (by decide)), sg _ _ (by omega), zb_some, ei2]
  by_cases c : t < 11
  · rw [if_pos c] at ew
    rw [if_neg (by rw [w32_n (by omega)]; omega), ← ew]
    exact fin wd (by omega) (by omega)
  · rw [if_neg c] at ew
    rw [if_pos (by rw [w32_n (by omega)]; omega), ← ew]
    exact fin wd (by omega) (by omega)
