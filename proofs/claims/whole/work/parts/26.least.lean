/-! LEAST DISTANCES -/
def pls (w : Nat → Int) (a : Int) : Nat → Int
  | 0 => a
  | k + 1 => if w k < pls w a k then w k else pls w a k
def pcm (w : Nat → Int) (d : Int) : Nat → Int
  | 0 => 0
  | k + 1 => pcm w d k + if w k = d then 1 else 0
theorem pls_rng {w : Nat → Int} {a : Int} (ha : 0 ≤ a) : ∀ n, (∀ k, k < n → 0 ≤ w k) → 0 ≤ pls w a n ∧ pls w a n ≤ a
  | 0, _ => ⟨ha, Int.le_refl a⟩
  | n + 1, h => by
    have h1 := pls_rng (w := w) ha n (fun k hk => h k (by omega))
    have h2 := h n (by omega)
    rw [pls]; split <;> omega
theorem pls_init {w : Nat → Int} {a b : Int} (h : ∀ k, w k ≤ a ∧ w k ≤ b) : ∀ n, pls w a (n + 1) = pls w b (n + 1)
  | 0 => by
    have := h 0
    by_cases h1 : w 0 < a <;> by_cases h2 : w 0 < b <;> simp [pls, h1, h2] <;> omega
  | n + 1 => by rw [pls, pls_init h n, pls]; rfl
theorem pls_cong {w w' : Nat → Int} {a : Int} : ∀ n, (∀ k, k < n → w k = w' k) → pls w a n = pls w' a n
  | 0, _ => rfl
  | n + 1, h => by rw [pls, pls, pls_cong n (fun k hk => h k (by omega)), h n (by omega)]
theorem pcm_rng (w : Nat → Int) (d : Int) : ∀ n, 0 ≤ pcm w d n ∧ pcm w d n ≤ n
  | 0 => by simp [pcm]
  | n + 1 => by have := pcm_rng w d n; rw [pcm]; split <;> omega
/-- weights of all words but the first, of all whole words but the first -/
def pWa (g : Nat → Int) (k : Nat) : Int := pwt g (pcode (k + 1))
def pWw (g : Nat → Int) (k : Nat) : Int := pwt g (pcode (pww (k + 1)) ^^^ pcode (pww 0))
/-- tables of the class and of the model -/
def iCode (I : zMem) : Prop := (∀ w, w < 2048 → I (16, 0, 0) w = (pcode w : Int)) ∧ ∀ n, 1 ≤ n → n < 256 → I (17, 0, 0) n = ((pcode (pww n) ^^^ pcode (pww 0) : Nat) : Int)
def iCodeM (m : zMem) : Prop := ∀ w, w < 2048 → m (54, 0, 0) w = (pcode w : Int)
theorem pxor_lt (a b : Nat) : pcode a ^^^ pcode b < 549755813888 := Nat.xor_lt_two_pow (n := 39) (pcode_lt a) (pcode_lt b)
theorem s_least {I : zMem} {g : Nat → Nat} (hg : ∀ c, c < 39 → g c < 64) (hW : iWt g I) {q : zPl} {n : Nat} (hn1 : 1 ≤ n) (hn : n ≤ 2048) {t : Nat → Nat} (ht : ∀ k, 1 ≤ k → k < n → I q k = (t k : Int) ∧ t k < 549755813888) : fX10_least q n I = some (pls (fun k => pwt (fun c => (g c : Int)) (t (k + 1))) 1000000 (n - 1)) := by
  unfold fX10_least
  have h := zlp_0 (body := fX10_least_l5 q n I) (S := fun j => (pls (fun k => pwt (fun c => (g c : Int)) (t (k + 1))) 1000000 j, ((j + 1 : Nat) : Int))) (r := (pls (fun k => pwt (fun c => (g c : Int)) (t (k + 1))) 1000000 (n - 1), ((n - 1 + 1 : Nat) : Int))) (n - 1) (N := 5000) (by omega) ?_ ?_
  · rw [show ((1000000 : Int), (1 : Int)) = (pls (fun k => pwt (fun c => (g c : Int)) (t (k + 1))) 1000000 0, ((0 + 1 : Nat) : Int)) from rfl, h, zb_some]
  · intro j hj
    obtain ⟨e1, e2⟩ := ht (j + 1) (by omega) (by omega)
    have hr := pls_rng (w := fun k => pwt (fun c => (g c : Int)) (t (k + 1))) (a := 1000000) (by decide) j (fun k _ => (pwt_rng hg _).1)
    have hw := pwt_rng hg (t (j + 1))
    unfold fX10_least_l5
    dsimp only [zlet]
    rw [if_neg (by rw [w32_n (by omega), w32_n (by omega)]; omega), if_pos (zin_nat (by omega) (by omega)), ix_nat (by omega), e1, s_weigh hg hW e2, zb_some]
    unfold zmin
    rw [w32_id (by omega) (by omega), w32_id (by omega) (by omega), pls]
    rfl
  · unfold fX10_least_l5
    dsimp only
    rw [if_pos (by rw [w32_n (by omega), w32_n (by omega)]; omega)]
theorem s_howManyAt {I : zMem} {g : Nat → Nat} (hg : ∀ c, c < 39 → g c < 64) (hW : iWt g I) {q : zPl} {n : Nat} (hn1 : 1 ≤ n) (hn : n ≤ 2048) {t : Nat → Nat} (ht : ∀ k, 1 ≤ k → k < n → I q k = (t k : Int) ∧ t k < 549755813888) {d : Int} (hd0 : 0 ≤ d) (hd : d ≤ 1000000) : fX10_howManyAt q n d I = some (pcm (fun k => pwt (fun c => (g c : Int)) (t (k + 1))) d (n - 1)) := by
  unfold fX10_howManyAt
  have h := zlp_0 (body := fX10_howManyAt_l5 q n d I) (S := fun j => (pcm (fun k => pwt (fun c => (g c : Int)) (t (k + 1))) d j, ((j + 1 : Nat) : Int))) (r := (pcm (fun k => pwt (fun c => (g c : Int)) (t (k + 1))) d (n - 1), ((n - 1 + 1 : Nat) : Int))) (n - 1) (N := 5000) (by omega) ?_ ?_
  · rw [show ((0 : Int), (1 : Int)) = (pcm (fun k => pwt (fun c => (g c : Int)) (t (k + 1))) d 0, ((0 + 1 : Nat) : Int)) from rfl, h, zb_some]
  · intro j hj
    obtain ⟨e1, e2⟩ := ht (j + 1) (by omega) (by omega)
    have hw := pwt_rng hg (t (j + 1))
    unfold fX10_howManyAt_l5 fX10_howManyAt_b5_27
    dsimp only [zlet]
    rw [if_neg (by rw [w32_n (by omega), w32_n (by omega)]; omega), if_pos (zin_nat (by omega) (by omega)), ix_nat (by omega), e1, s_weigh hg hW e2, zb_some]
    rw [w32_id (z := d) (by omega) (by omega), w32_id (by omega) (by omega), pcm]
    by_cases hc : pwt (fun c => (g c : Int)) (t (j + 1)) = d
    · rw [if_pos hc, if_pos hc]; rfl
    · rw [if_neg hc, if_neg hc, Int.add_zero]; rfl
  · unfold fX10_howManyAt_l5
    dsimp only
    rw [if_pos (by rw [w32_n (by omega), w32_n (by omega)]; omega)]
/-- the model's row of counts -/
def iOf (g : Nat → Nat) (m : zMem) : Prop := ∀ c, c < 39 → m (57, 0, 0) c = (g c : Int)
theorem s_apart {m : zMem} (hC : iCodeM m) {g : Nat → Nat} (hO : iOf g m) {a b : Nat} (ha : a < 2048) (hb : b < 2048) : fX12_apart (a : Int) (b : Int) m = some (pwt (fun c => (g c : Int)) (pcode a ^^^ pcode b)) := by
  unfold fX12_apart
  have la := pcode_lt a
  have lb := pcode_lt b
  have lx := pxor_lt a b
  rw [if_pos (zin_nat ha (by decide)), if_pos (zin_nat hb (by decide)), ix_nat (by omega), ix_nat (by omega), hC a ha, hC b hb, lxor_nat (by omega) (by omega)]
  dsimp only [zlet]
  generalize hx : pcode a ^^^ pcode b = x at *
  have h := zlp_0 (body := fX12_apart_l20 (a : Int) (b : Int) m (x : Int)) (S := fun j => (zsm (fun c => if x / 2 ^ c % 2 = 1 then (g c : Int) else 0) j, (j : Int))) (r := (pwt (fun c => (g c : Int)) x, (39 : Int))) 39 (N := 5000) (by decide) ?_ ?_
  · rw [show ((0 : Int), (0 : Int)) = (zsm (fun c => if x / 2 ^ c % 2 = 1 then (g c : Int) else 0) 0, ((0 : Nat) : Int)) from rfl, h, zb_some]
  · intro j hj
    have hd : x / 2 ^ j ≤ x := Nat.div_le_self _ _
    have hcond : w64 (land (lshr (x : Int) (j : Int)) 1) = ((x / 2 ^ j % 2 : Nat) : Int) := by
      rw [lshr_nat (by omega) (by omega), show (1 : Int) = ((1 : Nat) : Int) from rfl, land_nat (by omega) (by decide), show (x / 2 ^ j) &&& 1 = x / 2 ^ j % 2 from Nat.and_one_is_mod _, w64_id (by omega) (by omega)]
    unfold fX12_apart_l20 fX12_apart_b20_50
    dsimp only [zlet]
    rw [if_neg (by rw [w32_n (by omega)]; omega), zsm]
    by_cases hc : x / 2 ^ j % 2 = 1
    · rw [if_pos (by rw [hcond]; omega), if_pos (zin_nat hj (by decide)), ix_nat (by omega), hO j hj, if_pos hc]; rfl
    · rw [if_neg (by rw [hcond]; omega), if_neg hc, Int.add_zero]; rfl
  · rfl
/-- how many whole words are below j -/
def pcn (j : Nat) : Nat := j / 8 + if pww (j / 8) < j then 1 else 0
theorem pcn_ok : (List.range 2048).all (fun j => decide ((prest j = 5 → j = pww (pcn j) ∧ pcn (j + 1) = pcn j + 1 ∧ pcn j < 256) ∧ (prest j ≠ 5 → pcn (j + 1) = pcn j ∧ j ≠ pww 0))) = true := by decide +kernel
theorem pcn_is {j : Nat} (h : j < 2048) : (prest j = 5 → j = pww (pcn j) ∧ pcn (j + 1) = pcn j + 1 ∧ pcn j < 256) ∧ (prest j ≠ 5 → pcn (j + 1) = pcn j ∧ j ≠ pww 0) := zall pcn_ok h
theorem pww_inj {a b : Nat} (ha : a < 256) (hb : b < 256) (h : pww a = pww b) : a = b := by
  have h1 := pww_div ha
  have h2 := pww_div hb
  rw [h] at h1; omega
theorem w32_0 : w32 0 = 0 := by decide
theorem pcode_0 : pcode 0 = 0 := by decide +kernel
theorem s_leastA {m : zMem} (hC : iCodeM m) {g : Nat → Nat} (hg : ∀ c, c < 39 → g c < 64) (hO : iOf g m) : fX12_leastApart 0 m = some (pls (pWa (fun c => (g c : Int))) 1048576 2047) := by
  unfold fX12_leastApart fX12_leastApart_b13
  rw [if_pos w32_0]
  have h := zlp_0 (body := fX12_leastApart_l20 0 m 0) (S := fun j => (pls (pWa (fun c => (g c : Int))) 1048576 (j - 1), (j : Int))) (r := (pls (pWa (fun c => (g c : Int))) 1048576 2047, (2048 : Int))) 2048 (N := 5000) (by decide) ?_ ?_
  · rw [show ((1048576 : Int), (0 : Int)) = (pls (pWa (fun c => (g c : Int))) 1048576 (0 - 1), ((0 : Nat) : Int)) from rfl, h, zb_some]
  · intro j hj
    have hr := pls_rng (w := pWa (fun c => (g c : Int))) (a := 1048576) (by decide) (j - 1) (fun k _ => (pwt_rng hg _).1)
    unfold fX12_leastApart_l20 fX12_leastApart_b20_71 fX12_leastApart_b20_49
    dsimp only
    rw [if_neg (by rw [w32_n (by omega)]; omega)]
    by_cases h0 : j = 0
    · subst h0; rw [if_pos (show w32 ((0 : Nat) : Int) = w32 0 from rfl)]; rfl
    · rw [if_neg (by rw [w32_n (by omega), w32_0]; omega), if_pos w32_0]
      have ha := s_apart hC hO (a := j) (b := 0) hj (by decide)
      have hw := pwt_rng hg (pcode j ^^^ pcode 0)
      rw [show ((0 : Nat) : Int) = 0 from rfl] at ha
      rw [ha, zb_some, w32_id (by omega) (by omega), w32_id (by omega) (by omega)]
      unfold fX12_leastApart_b20_70 fX12_leastApart_b20_71
      obtain ⟨i, rfl⟩ : ∃ i, j = i + 1 := ⟨j - 1, by omega⟩
      have e : pwt (fun c => (g c : Int)) (pcode (i + 1) ^^^ pcode 0) = pWa (fun c => (g c : Int)) i := by unfold pWa; rw [pcode_0, Nat.xor_zero]
      rw [e, show i + 1 + 1 - 1 = i + 1 from rfl, show i + 1 - 1 = i from rfl, pls]
      by_cases hc : pWa (fun c => (g c : Int)) i < pls (pWa (fun c => (g c : Int))) 1048576 i
      · rw [if_neg (by omega), if_pos hc]; rfl
      · rw [if_pos (by omega), if_neg hc]; rfl
  · unfold fX12_leastApart_l20
    dsimp only
    rw [if_pos (by decide)]; rfl
theorem s_leastW {m : zMem} (hC : iCodeM m) {g : Nat → Nat} (hg : ∀ c, c < 39 → g c < 64) (hO : iOf g m) : fX12_leastApart 1 m = some (pls (pWw (fun c => (g c : Int))) 1048576 255) := by
  unfold fX12_leastApart fX12_leastApart_b13
  have hw0 := s_wordOf (s := 0) (l := 0) (by decide) (by decide)
  rw [show ((0 : Nat) : Int) = 0 from rfl] at hw0
  rw [if_neg (by decide), hw0, zb_some]
  have hp0 := pww_lt (n := 0) (by decide)
  have h := zlp_0 (body := fX12_leastApart_l20 1 m (pww (0 * 32 + 0) : Int)) (S := fun j => (pls (pWw (fun c => (g c : Int))) 1048576 (pcn j - 1), (j : Int))) (r := (pls (pWw (fun c => (g c : Int))) 1048576 255, (2048 : Int))) 2048 (N := 5000) (by decide) ?_ ?_
  · rw [show ((1048576 : Int), (0 : Int)) = (pls (pWw (fun c => (g c : Int))) 1048576 (pcn 0 - 1), ((0 : Nat) : Int)) from rfl, h, zb_some]
  · intro j hj
    have hr := pls_rng (w := pWw (fun c => (g c : Int))) (a := 1048576) (by decide) (pcn j - 1) (fun k _ => (pwt_rng hg _).1)
    obtain ⟨p1, p2⟩ := pcn_is hj
    show fX12_leastApart_l20 1 m (pww 0 : Int) (pls (pWw (fun c => (g c : Int))) 1048576 (pcn j - 1), (j : Int)) = _
    unfold fX12_leastApart_l20 fX12_leastApart_b20_71 fX12_leastApart_b20_49
    dsimp only
    rw [if_neg (by rw [w32_n (by omega)]; omega)]
    by_cases h0 : j = pww 0
    · rw [if_pos (by rw [h0])]
      have h5 : prest j = 5 := by rw [h0]; exact pww_rest (by decide)
      obtain ⟨q1, q2, q3⟩ := p1 h5
      have : pcn j = 0 := pww_inj q3 (by decide) (by rw [← q1, ← h0])
      rw [q2, this]; rfl
    · rw [if_neg (by rw [w32_n (by omega), w32_n (by omega)]; omega), if_neg (by decide), s_isWholeM hj, zb_some]
      by_cases h5 : prest j = 5
      · obtain ⟨q1, q2, q3⟩ := p1 h5
        have hc0 : pcn j ≠ 0 := fun e => h0 (by rw [e] at q1; exact q1)
        rw [if_pos h5, if_neg (by decide)]
        have ha := s_apart hC hO (a := j) (b := pww 0) hj hp0
        have hw := pwt_rng hg (pcode j ^^^ pcode (pww 0))
        rw [ha, zb_some, w32_id (by omega) (by omega), w32_id (by omega) (by omega)]
        unfold fX12_leastApart_b20_70 fX12_leastApart_b20_71
        obtain ⟨i, hi⟩ : ∃ i, pcn j = i + 1 := ⟨pcn j - 1, by omega⟩
        have e : pwt (fun c => (g c : Int)) (pcode j ^^^ pcode (pww 0)) = pWw (fun c => (g c : Int)) i := by unfold pWw; rw [← hi, ← q1]
        rw [e, q2, hi, show i + 1 + 1 - 1 = i + 1 from rfl, show i + 1 - 1 = i from rfl, pls]
        by_cases hc : pWw (fun c => (g c : Int)) i < pls (pWw (fun c => (g c : Int))) 1048576 i
        · rw [if_neg (by omega), if_pos hc]; rfl
        · rw [if_pos (by omega), if_neg hc]; rfl
      · rw [if_neg h5, if_pos w32_0, (p2 h5).1]; rfl
  · have : pcn 2048 - 1 = 255 := by decide +kernel
    unfold fX12_leastApart_l20
    dsimp only
    rw [this, if_pos (by decide)]; rfl
theorem s_manyA {m : zMem} (hC : iCodeM m) {g : Nat → Nat} (hg : ∀ c, c < 39 → g c < 64) (hO : iOf g m) {d : Int} (hd0 : 0 ≤ d) (hd : d ≤ 1048576) : fX12_manyApart 0 d m = some (pcm (pWa (fun c => (g c : Int))) d 2047) := by
  unfold fX12_manyApart fX12_manyApart_b13
  rw [if_pos w32_0]
  have h := zlp_0 (body := fX12_manyApart_l20 0 d m 0) (S := fun j => (pcm (pWa (fun c => (g c : Int))) d (j - 1), (j : Int))) (r := (pcm (pWa (fun c => (g c : Int))) d 2047, (2048 : Int))) 2048 (N := 5000) (by decide) ?_ ?_
  · rw [show ((0 : Int), (0 : Int)) = (pcm (pWa (fun c => (g c : Int))) d (0 - 1), ((0 : Nat) : Int)) from rfl, h, zb_some]
  · intro j hj
    unfold fX12_manyApart_l20 fX12_manyApart_b20_70 fX12_manyApart_b20_49
    dsimp only
    rw [if_neg (by rw [w32_n (by omega)]; omega)]
    by_cases h0 : j = 0
    · subst h0; rw [if_pos (show w32 ((0 : Nat) : Int) = w32 0 from rfl)]; rfl
    · rw [if_neg (by rw [w32_n (by omega), w32_0]; omega), if_pos w32_0]
      have ha := s_apart hC hO (a := j) (b := 0) hj (by decide)
      have hw := pwt_rng hg (pcode j ^^^ pcode 0)
      rw [show ((0 : Nat) : Int) = 0 from rfl] at ha
      rw [ha, zb_some, w32_id (z := d) (by omega) (by omega), w32_id (by omega) (by omega)]
      unfold fX12_manyApart_b20_67 fX12_manyApart_b20_70
      dsimp only [zlet]
      obtain ⟨i, rfl⟩ : ∃ i, j = i + 1 := ⟨j - 1, by omega⟩
      have e : pwt (fun c => (g c : Int)) (pcode (i + 1) ^^^ pcode 0) = pWa (fun c => (g c : Int)) i := by unfold pWa; rw [pcode_0, Nat.xor_zero]
      rw [e, show i + 1 + 1 - 1 = i + 1 from rfl, show i + 1 - 1 = i from rfl, pcm]
      by_cases hc : pWa (fun c => (g c : Int)) i = d
      · rw [if_pos hc, if_pos hc]; rfl
      · rw [if_neg hc, if_neg hc]; rfl
  · unfold fX12_manyApart_l20
    dsimp only
    rw [if_pos (by decide)]; rfl
theorem s_manyW {m : zMem} (hC : iCodeM m) {g : Nat → Nat} (hg : ∀ c, c < 39 → g c < 64) (hO : iOf g m) {d : Int} (hd0 : 0 ≤ d) (hd : d ≤ 1048576) : fX12_manyApart 1 d m = some (pcm (pWw (fun c => (g c : Int))) d 255) := by
  unfold fX12_manyApart fX12_manyApart_b13
  have hw0 := s_wordOf (s := 0) (l := 0) (by decide) (by decide)
  rw [show ((0 : Nat) : Int) = 0 from rfl] at hw0
  rw [if_neg (by decide), hw0, zb_some]
  have hp0 := pww_lt (n := 0) (by decide)
  have h := zlp_0 (body := fX12_manyApart_l20 1 d m (pww (0 * 32 + 0) : Int)) (S := fun j => (pcm (pWw (fun c => (g c : Int))) d (pcn j - 1), (j : Int))) (r := (pcm (pWw (fun c => (g c : Int))) d 255, (2048 : Int))) 2048 (N := 5000) (by decide) ?_ ?_
  · rw [show ((0 : Int), (0 : Int)) = (pcm (pWw (fun c => (g c : Int))) d (pcn 0 - 1), ((0 : Nat) : Int)) from rfl, h, zb_some]
  · intro j hj
    obtain ⟨p1, p2⟩ := pcn_is hj
    show fX12_manyApart_l20 1 d m (pww 0 : Int) (pcm (pWw (fun c => (g c : Int))) d (pcn j - 1), (j : Int)) = _
    unfold fX12_manyApart_l20 fX12_manyApart_b20_70 fX12_manyApart_b20_49
    dsimp only
    rw [if_neg (by rw [w32_n (by omega)]; omega)]
    by_cases h0 : j = pww 0
    · rw [if_pos (by rw [h0])]
      have h5 : prest j = 5 := by rw [h0]; exact pww_rest (by decide)
      obtain ⟨q1, q2, q3⟩ := p1 h5
      have : pcn j = 0 := pww_inj q3 (by decide) (by rw [← q1, ← h0])
      rw [q2, this]; rfl
    · rw [if_neg (by rw [w32_n (by omega), w32_n (by omega)]; omega), if_neg (by decide), s_isWholeM hj, zb_some]
      by_cases h5 : prest j = 5
      · obtain ⟨q1, q2, q3⟩ := p1 h5
        have hc0 : pcn j ≠ 0 := fun e => h0 (by rw [e] at q1; exact q1)
        rw [if_pos h5, if_neg (by decide)]
        have ha := s_apart hC hO (a := j) (b := pww 0) hj hp0
        have hw := pwt_rng hg (pcode j ^^^ pcode (pww 0))
        rw [ha, zb_some, w32_id (z := d) (by omega) (by omega), w32_id (by omega) (by omega)]
        unfold fX12_manyApart_b20_67 fX12_manyApart_b20_70
        dsimp only [zlet]
        obtain ⟨i, hi⟩ : ∃ i, pcn j = i + 1 := ⟨pcn j - 1, by omega⟩
        have e : pwt (fun c => (g c : Int)) (pcode j ^^^ pcode (pww 0)) = pWw (fun c => (g c : Int)) i := by unfold pWw; rw [← hi, ← q1]
        rw [e, q2, hi, show i + 1 + 1 - 1 = i + 1 from rfl, show i + 1 - 1 = i from rfl, pcm]
        by_cases hc : pWw (fun c => (g c : Int)) i = d
        · rw [if_pos hc, if_pos hc]; rfl
        · rw [if_neg hc, if_neg hc]; rfl
      · rw [if_neg h5, if_pos w32_0, (p2 h5).1]; rfl
  · have : pcn 2048 - 1 = 255 := by decide +kernel
    unfold fX12_manyApart_l20
    dsimp only
    rw [this, if_pos (by decide)]; rfl
