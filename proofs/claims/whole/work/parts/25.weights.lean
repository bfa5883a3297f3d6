/-! WEIGHTS AND DISTANCES -/
theorem zsm_swap (f : Nat → Nat → Int) (n : Nat) : ∀ m, zsm (fun a => zsm (fun b => f a b) n) m = zsm (fun b => zsm (fun a => f a b) m) n
  | 0 => by
    show 0 = zsm (fun _ => 0) n
    induction n with
    | zero => rfl
    | succ n ih => rw [zsm, ← ih]; rfl
  | m + 1 => by rw [zsm, zsm_swap f n m, ← zsm_add]; rfl
theorem zsm_mul (c : Int) (f : Nat → Int) : ∀ n, zsm (fun k => c * f k) n = c * zsm f n
  | 0 => (Int.mul_zero c).symm
  | n + 1 => by rw [zsm, zsm, zsm_mul c f n, Int.mul_add]
theorem zsm_zero : ∀ n, zsm (fun _ => 0) n = 0
  | 0 => rfl
  | n + 1 => by rw [zsm, zsm_zero n]; rfl
/-- the weight of some bits -/
def pwt (g : Nat → Int) (b : Nat) : Int := zsm (fun c => if b / 2 ^ c % 2 = 1 then g c else 0) 39
theorem pop_zsm (x : Nat) : ∀ n, (pop x n : Int) = zsm (fun c => ((x / 2 ^ c % 2 : Nat) : Int)) n
  | 0 => rfl
  | n + 1 => by rw [pop, zsm, ← pop_zsm x n, Int.natCast_add]
theorem pop_hi {x m : Nat} (h : x < 2 ^ m) : ∀ n, m ≤ n → pop x n = pop x m := by
  intro n hn
  obtain ⟨d, rfl⟩ : ∃ d, n = m + d := ⟨n - m, by omega⟩
  rw [pop_add, Nat.div_eq_of_lt h]
  have : ∀ d, pop 0 d = 0 := by
    intro d
    induction d with
    | zero => rfl
    | succ d ih => rw [pop, ih]; simp
  rw [this]; rfl
theorem and_bit (a b c : Nat) : (a &&& b) / 2 ^ c % 2 = if a / 2 ^ c % 2 = 1 ∧ b / 2 ^ c % 2 = 1 then 1 else 0 := by
  have h := Nat.testBit_and a b c
  rw [Nat.testBit_eq_decide_div_mod_eq, Nat.testBit_eq_decide_div_mod_eq, Nat.testBit_eq_decide_div_mod_eq] at h
  by_cases h1 : a / 2 ^ c % 2 = 1 <;> by_cases h2 : b / 2 ^ c % 2 = 1
  · rw [if_pos ⟨h1, h2⟩]; simpa [h1, h2] using h
  · rw [if_neg (fun q => h2 q.2)]; simp [h1, h2] at h; omega
  · rw [if_neg (fun q => h1 q.1)]; simp [h1, h2] at h; omega
  · rw [if_neg (fun q => h1 q.1)]; simp [h1, h2] at h; omega
/-- digit planes of a row of numbers -/
def pln (g : Nat → Nat) (d : Nat) : Nat → Nat
  | 0 => 0
  | n + 1 => if g n / 2 ^ d % 2 = 1 then pln g d n ||| 2 ^ n else pln g d n
theorem pln_lt (g : Nat → Nat) (d : Nat) : ∀ n, pln g d n < 2 ^ n
  | 0 => by simp [pln]
  | n + 1 => by
    have h := pln_lt g d n
    rw [pln]; split
    · exact Nat.or_lt_two_pow (by rw [Nat.pow_succ]; omega) (by rw [Nat.pow_succ]; have := Nat.pow_pos (n := n) (show 0 < 2 by decide); omega)
    · rw [Nat.pow_succ]; omega
theorem pln_bit (g : Nat → Nat) (d : Nat) : ∀ n c, c < n → pln g d n / 2 ^ c % 2 = g c / 2 ^ d % 2
  | 0, c, h => absurd h (Nat.not_lt_zero c)
  | n + 1, c, h => by
    have hl := pln_lt g d n
    have e : ∀ x : Nat, x / 2 ^ c % 2 = if x.testBit c then 1 else 0 := fun x => by
      rw [Nat.testBit_eq_decide_div_mod_eq]
      by_cases h : x / 2 ^ c % 2 = 1
      · simp [h]
      · simp [h]; omega
    by_cases hc : c = n
    · subst hc
      rw [pln]
      by_cases hg : g c / 2 ^ d % 2 = 1
      · rw [if_pos hg, hg, e, Nat.testBit_or, Nat.testBit_two_pow_self]; simp
      · rw [if_neg hg, e, Nat.testBit_lt_two_pow hl]; simp; omega
    · rw [pln]
      by_cases hg : g n / 2 ^ d % 2 = 1
      · rw [if_pos hg, e, Nat.testBit_or, Nat.testBit_two_pow_of_ne (Ne.symm hc), Bool.or_false, ← e]; exact pln_bit g d n c (by omega)
      · rw [if_neg hg]; exact pln_bit g d n c (by omega)
theorem dig_ok : (List.range 64).all (fun n => decide (zsm (fun d => ((2 ^ d : Nat) : Int) * ((n / 2 ^ d % 2 : Nat) : Int)) 6 = (n : Int))) = true := by decide +kernel
theorem dig {n : Nat} (h : n < 64) : zsm (fun d => ((2 ^ d : Nat) : Int) * ((n / 2 ^ d % 2 : Nat) : Int)) 6 = (n : Int) := zall dig_ok h
/-- the weight, digit by digit -/
theorem pwt_planes {g : Nat → Nat} (hg : ∀ c, c < 39 → g c < 64) {b : Nat} (hb : b < 549755813888) : zsm (fun d => (pop (b &&& pln g d 39) 64 : Int) * ((2 ^ d : Nat) : Int)) 6 = pwt (fun c => (g c : Int)) b := by
  have h1 : zsm (fun d => (pop (b &&& pln g d 39) 64 : Int) * ((2 ^ d : Nat) : Int)) 6 = zsm (fun d => zsm (fun c => if b / 2 ^ c % 2 = 1 then ((2 ^ d : Nat) : Int) * ((g c / 2 ^ d % 2 : Nat) : Int) else 0) 39) 6 := by
    apply zsm_cong
    intro d _
    have hl : (b &&& pln g d 39) < 2 ^ 39 := Nat.lt_of_le_of_lt Nat.and_le_left hb
    rw [pop_hi hl 64 (by decide), pop_zsm, Int.mul_comm, ← zsm_mul]
    apply zsm_cong
    intro c hc
    rw [and_bit, pln_bit g d 39 c hc]
    by_cases q1 : b / 2 ^ c % 2 = 1
    · rw [if_pos q1]
      by_cases q2 : g c / 2 ^ d % 2 = 1
      · rw [if_pos ⟨q1, q2⟩, q2]
      · rw [if_neg (fun q => q2 q.2), show g c / 2 ^ d % 2 = 0 by omega]
    · rw [if_neg q1, if_neg (fun q => q1 q.1)]; simp
  rw [h1, zsm_swap]
  unfold pwt
  apply zsm_cong
  intro c hc
  by_cases q1 : b / 2 ^ c % 2 = 1
  · simp only [q1, if_true]
    exact dig (hg c hc)
  · simp only [q1, if_false]
    exact zsm_zero 6
theorem s_fillL (q : zPl) {n : Nat} (hn : n < 4000) (v : Int) (I : zMem) : fJ7_fill_d0a16 q n v I = some (zmp I q n (fun _ => v)) := by
  unfold fJ7_fill_d0a16
  dsimp only [zlet]
  have h := zlp_0 (body := fJ7_fill_d0a16_l6 q n v (n : Int)) (S := fun j => ((j : Int), zmp I q j (fun _ => v))) (r := ((n : Int), zmp I q n (fun _ => v))) n (N := 5000) (by omega) ?_ ?_
  · rw [show ((0 : Int), I) = (((0 : Nat) : Int), zmp I q 0 (fun _ => v)) by rw [zmp_0]; rfl, h]
    rfl
  · intro j hj
    unfold fJ7_fill_d0a16_l6
    dsimp only [zlet]
    rw [if_neg (by rw [w32_n (by omega), w32_n (by omega)]; omega), if_pos (zin_nat (by omega) (by omega)), ix_nat (by omega), zmp_s]
    rfl
  · unfold fJ7_fill_d0a16_l6
    dsimp only
    rw [if_pos (Int.le_refl _)]
/-- what Weights holds of a row g -/
def iWt (g : Nat → Nat) (I : zMem) : Prop := (∀ d, d < 6 → I (21, 0, 0) d = (pln g d 39 : Int)) ∧ ∃ dp : Nat, I (3, 0, 0) 1 = (dp : Int) ∧ dp ≤ 6 ∧ ∀ d, dp ≤ d → d < 6 → pln g d 39 = 0
theorem s_take {I : zMem} {q : zPl} (q1 : q ≠ (21, 0, 0)) (q2 : q ≠ (3, 0, 0)) {g : Nat → Nat} (hg : ∀ c, c < 39 → I q c = (g c : Int) ∧ g c < 64) : ∃ J, fX10_take q I = some J ∧ (∀ r, r ≠ (21, 0, 0) → r ≠ (3, 0, 0) → J r = I r) ∧ (∀ k, k ≠ 1 → J (3, 0, 0) k = I (3, 0, 0) k) ∧ iWt g J := by
  unfold fX10_take
  rw [s_fillL _ (by decide), zb_some]
  dsimp only [zlet]
  have hh := zlp_inv (body := fX10_take_l15 q) (fun j s => s.1 = (j : Int) ∧ (∀ r, r ≠ (21, 0, 0) → r ≠ (3, 0, 0) → s.2 r = I r) ∧ (∀ k, k ≠ 1 → s.2 (3, 0, 0) k = I (3, 0, 0) k) ∧ (∀ d, d < 6 → s.2 (21, 0, 0) d = (pln g d j : Int)) ∧ ∃ dp : Nat, s.2 (3, 0, 0) 1 = (dp : Int) ∧ dp ≤ 6 ∧ ∀ d, dp ≤ d → d < 6 → pln g d j = 0) (fun r => (∀ p, p ≠ (21, 0, 0) → p ≠ (3, 0, 0) → r.2 p = I p) ∧ (∀ k, k ≠ 1 → r.2 (3, 0, 0) k = I (3, 0, 0) k) ∧ iWt g r.2) 39 (N := 5000) (by decide) (s0 := (0, zst (zmp I (21, 0, 0) 6 (fun _ => 0)) (3, 0, 0) 1 0)) ?_ ?_ ?_
  · obtain ⟨r, hr, hq⟩ := hh
    exact ⟨r.2, by rw [hr]; rfl, hq.1, hq.2.1, hq.2.2⟩
  · refine ⟨rfl, fun r a b => ?_, fun k hk => ?_, fun d hd => ?_, 0, (zst_at : zst (zmp I (21, 0, 0) 6 (fun _ => 0)) (3, 0, 0) 1 0 (3, 0, 0) 1 = 0), by decide, fun _ _ _ => rfl⟩
    · dsimp only; rw [zst_nq b, zmp_ne a]
    · dsimp only; rw [zst_nk hk, zmp_ne (by decide)]
    · dsimp only; rw [zst_nq (by decide)]; exact zmp_in hd
  · rintro c ⟨x, K⟩ hc ⟨e1, e2, e2', e3, dp, e4, e5, e6⟩
    dsimp only at e1 e2 e2' e3 e4
    subst e1
    refine Or.inl ?_
    unfold fX10_take_l15
    dsimp only
    rw [if_neg (by rw [w32_n (by omega)]; omega)]
    obtain ⟨hgc, hg64⟩ := hg c hc
    have h2 := zlp_inv (body := fX10_take_l23 q (c : Int)) (fun j s => s.1 = (j : Int) ∧ (∀ r, r ≠ (21, 0, 0) → r ≠ (3, 0, 0) → s.2 r = I r) ∧ (∀ k, k ≠ 1 → s.2 (3, 0, 0) k = I (3, 0, 0) k) ∧ (∀ d, d < 6 → s.2 (21, 0, 0) d = (pln g d (if d < j then c + 1 else c) : Int)) ∧ ∃ dp : Nat, s.2 (3, 0, 0) 1 = (dp : Int) ∧ dp ≤ 6 ∧ ∀ d, dp ≤ d → d < 6 → pln g d (if d < j then c + 1 else c) = 0) (fun r => (∀ p, p ≠ (21, 0, 0) → p ≠ (3, 0, 0) → r.2 p = I p) ∧ (∀ k, k ≠ 1 → r.2 (3, 0, 0) k = I (3, 0, 0) k) ∧ (∀ d, d < 6 → r.2 (21, 0, 0) d = (pln g d (c + 1) : Int)) ∧ ∃ dp : Nat, r.2 (3, 0, 0) 1 = (dp : Int) ∧ dp ≤ 6 ∧ ∀ d, dp ≤ d → d < 6 → pln g d (c + 1) = 0) 6 (N := 5000) (by decide) (s0 := (0, K)) ?_ ?_ ?_
    · obtain ⟨r, hr, hq1, hq2, hq3, hq4⟩ := h2
      rw [hr, zb_some]
      exact ⟨_, rfl, by simp, hq1, hq2, hq3, hq4⟩
    · exact ⟨rfl, e2, e2', fun d hd => by rw [if_neg (Nat.not_lt_zero d)]; exact e3 d hd, dp, e4, e5, fun d a b => by rw [if_neg (Nat.not_lt_zero d)]; exact e6 d a b⟩
    · rintro j ⟨y, N⟩ hj ⟨f1, f2, f2', f3, dq, f4, f5, f6⟩
      dsimp only at f1 f2 f2' f3 f4
      subst f1
      refine Or.inl ?_
      have fc : N q (ix (c : Int)) = (g c : Int) := by rw [ix_nat (by omega), f2 q q1 q2]; exact hgc
      have fj := f3 j hj
      rw [if_neg (Nat.lt_irrefl j)] at fj
      have hdiv : ((g c / 2 ^ j : Nat) : Int) % 2 = ((g c / 2 ^ j % 2 : Nat) : Int) := by omega
      have hcond : ishr (N q (ix (c : Int))) (j : Int) % 2 = ((g c / 2 ^ j % 2 : Nat) : Int) := by rw [fc, ishr_nat (by omega) (by omega), hdiv]
      unfold fX10_take_l23 fX10_take_b23_66
      dsimp only [zlet]
      rw [if_neg (by rw [w32_n (by omega)]; omega), if_pos (zin_nat (by omega) (by decide))]
      by_cases hb : g c / 2 ^ j % 2 = 1
      · have hp := pln_lt g j c
        have hp2 : 2 ^ c ≤ 2 ^ 38 := Nat.pow_le_pow_right (by decide) (by omega)
        rw [if_pos (by rw [hcond]; omega), if_pos (zin_nat (by omega) (by decide)), ix_nat (by omega), fj, show (1 : Int) = ((1 : Nat) : Int) from rfl, lshl_nat (by omega), Nat.one_mul, lor_nat (by omega) (by omega)]
        refine ⟨_, rfl, by simp, fun r a b => ?_, fun k hk => ?_, fun d hd => ?_, if dq < j + 1 then j + 1 else dq, ?_, by split <;> omega, fun d a b => ?_⟩
        · dsimp only; rw [zst_nq b, zst_nq a]; exact f2 r a b
        · dsimp only; rw [zst_nk hk, zst_nq (by decide)]; exact f2' k hk
        · dsimp only
          rw [zst_nq (by decide)]
          by_cases hdj : d = j
          · subst hdj
            rw [zst_at, if_pos (by omega), pln, if_pos hb]
          · rw [zst_nk hdj, f3 d hd]
            by_cases hl : d < j
            · rw [if_pos hl, if_pos (by omega)]
            · rw [if_neg hl, if_neg (by omega)]
        · dsimp only
          rw [zst_at, zst_nq (by decide), f4]
          unfold zmax
          rw [w32_n (by omega), show ((j : Int) + ((1 : Nat) : Int)) = ((j + 1 : Nat) : Int) by omega, w32_n (by omega)]
          by_cases hl : dq < j + 1
          · rw [if_pos (by omega), if_pos hl]
          · rw [if_neg (by omega), if_neg hl]
        · have hdj : dq ≤ d ∧ j + 1 ≤ d := by
            split at a <;> omega
          have := f6 d hdj.1 b
          rw [if_neg (by omega)] at this
          rw [if_neg (by omega)]; exact this
      · rw [if_neg (by rw [hcond]; omega)]
        refine ⟨_, rfl, by simp, f2, f2', fun d hd => ?_, dq, f4, f5, fun d a b => ?_⟩
        · dsimp only
          rw [f3 d hd]
          by_cases hdj : d = j
          · subst hdj
            rw [if_neg (Nat.lt_irrefl d), if_pos (by omega), pln, if_neg hb]
          · by_cases hl : d < j
            · rw [if_pos hl, if_pos (by omega)]
            · rw [if_neg hl, if_neg (by omega)]
        · have := f6 d a b
          by_cases hdj : d = j
          · subst hdj
            rw [if_neg (Nat.lt_irrefl d)] at this
            rw [if_pos (by omega), pln, if_neg hb]; exact this
          · by_cases hl : d < j
            · rw [if_pos hl] at this; rw [if_pos (by omega)]; exact this
            · rw [if_neg hl] at this; rw [if_neg (by omega)]; exact this
    · rintro ⟨y, N⟩ ⟨f1, f2, f2', f3, dq, f4, f5, f6⟩
      dsimp only at f1 f2 f2' f3 f4
      subst f1
      refine ⟨_, by unfold fX10_take_l23; dsimp only; rw [if_pos (by rw [w32_n (by omega)]; omega)], f2, f2', fun d hd => ?_, dq, f4, f5, fun d a b => ?_⟩
      · have := f3 d hd; rw [if_pos hd] at this; exact this
      · have := f6 d a b; rw [if_pos b] at this; exact this
  · rintro ⟨x, K⟩ ⟨e1, e2, e2', e3, e4⟩
    dsimp only at e1 e2 e2' e3 e4
    subst e1
    exact ⟨_, by unfold fX10_take_l15; dsimp only; rw [if_pos (by rw [w32_n (by omega)]; omega)], e2, e2', e3, e4⟩
theorem pop_le (x : Nat) : ∀ n, pop x n ≤ n
  | 0 => Nat.le_refl _
  | n + 1 => by have := pop_le x n; rw [pop]; omega
theorem zsm_skip {f : Nat → Int} {a b : Nat} (hab : a ≤ b) (h : ∀ k, a ≤ k → k < b → f k = 0) : zsm f a = zsm f b := by
  obtain ⟨d, rfl⟩ : ∃ d, b = a + d := ⟨b - a, by omega⟩
  rw [zsm_split, zsm_cong (g := fun _ => 0) (fun k hk => h (a + k) (by omega) (by omega)), zsm_zero]; omega
/-- Weights.weigh -/
theorem s_weigh {I : zMem} {g : Nat → Nat} (hg : ∀ c, c < 39 → g c < 64) (hW : iWt g I) {b : Nat} (hb : b < 549755813888) : fX10_weigh (b : Int) I = some (pwt (fun c => (g c : Int)) b) := by
  obtain ⟨w1, dp, w2, w3, w4⟩ := hW
  unfold fX10_weigh
  have h := zlp_0 (body := fX10_weigh_l5 (b : Int) I) (S := fun j => (zsm (fun d => (pop (b &&& pln g d 39) 64 : Int) * ((2 ^ d : Nat) : Int)) j, (j : Int))) (r := (zsm (fun d => (pop (b &&& pln g d 39) 64 : Int) * ((2 ^ d : Nat) : Int)) dp, (dp : Int))) dp (N := 5000) (by omega) ?_ ?_
  · rw [show ((0 : Int), (0 : Int)) = (zsm (fun d => (pop (b &&& pln g d 39) 64 : Int) * ((2 ^ d : Nat) : Int)) 0, ((0 : Nat) : Int)) from rfl, h, zb_some, ← pwt_planes hg hb]
    dsimp only
    rw [zsm_skip w3 (fun k a c => by rw [w4 k a c, Nat.and_zero]; rw [pop_hi (m := 0) (by decide) 64 (by decide)]; simp [pop])]
  · intro j hj
    have hp := pln_lt g j 39
    unfold fX10_weigh_l5
    dsimp only [zlet]
    rw [if_neg (by rw [w2, w32_n (by omega), w32_n (by omega)]; omega), if_pos (zin_nat (by omega) (by decide)), ix_nat (by omega), w1 j (by omega), land_nat (by omega) (by omega)]
    have hl : (b &&& pln g j 39) ≤ b := Nat.and_le_left
    rw [s_bitCount (by omega), zb_some, ishl_nat (by omega), zsm, Int.natCast_mul]
    rfl
  · unfold fX10_weigh_l5
    dsimp only
    rw [if_pos (by rw [w2]; exact Int.le_refl _)]
theorem pwt_rng {g : Nat → Nat} (hg : ∀ c, c < 39 → g c < 64) (b : Nat) : 0 ≤ pwt (fun c => (g c : Int)) b ∧ pwt (fun c => (g c : Int)) b ≤ 2457 := by
  have h : ∀ n, n ≤ 39 → 0 ≤ zsm (fun c => if b / 2 ^ c % 2 = 1 then (g c : Int) else 0) n ∧ zsm (fun c => if b / 2 ^ c % 2 = 1 then (g c : Int) else 0) n ≤ 63 * n := by
    intro n
    induction n with
    | zero => intro _; simp [zsm]
    | succ n ih =>
      intro hn
      have h1 := ih (by omega)
      have h2 := hg n (by omega)
      rw [zsm]
      split <;> omega
  have := h 39 (Nat.le_refl _)
  exact ⟨this.1, Int.le_trans this.2 (by decide)⟩
