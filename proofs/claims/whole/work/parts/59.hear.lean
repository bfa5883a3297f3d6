/-! HEARING -/
def pcl (v l : Int) : Int := if l < v then l else if v < -l then -l else v
theorem pcl_rng {v l : Int} (hl : 0 ≤ l) : -l ≤ pcl v l ∧ pcl v l ≤ l := by
  unfold pcl
  by_cases h1 : l < v
  · rw [if_pos h1]; omega
  · rw [if_neg h1]
    by_cases h2 : v < -l
    · rw [if_pos h2]; omega
    · rw [if_neg h2]; omega
theorem c_within {v l : Int} (hv : -100000 ≤ v ∧ v ≤ 100000) (hl : 0 ≤ l ∧ l ≤ 9999) : fX0_within v l = some (pcl v l) := by
  have wv : w32 v = v := w32_id (by omega) (by omega)
  have wl : w32 l = l := w32_id (by omega) (by omega)
  have wn : w32 (-l) = -l := w32_id (by omega) (by omega)
  unfold fX0_within zmax zmin pcl
  by_cases h1 : v < l
  · simp only [wv, wl, wn, if_pos h1]
    rw [if_neg (show ¬ l < v by omega)]
    by_cases h2 : -l < v
    · rw [if_pos h2, if_neg (by omega)]
    · rw [if_neg h2]
      by_cases h3 : v < -l
      · rw [if_pos h3]
      · rw [if_neg h3]; exact congrArg some (by omega)
  · simp only [wv, wl, wn, if_neg h1]
    by_cases h2 : -l < l
    · rw [if_pos h2]
      by_cases h3 : l < v
      · rw [if_pos h3]
      · rw [if_neg h3, if_neg (by omega)]; exact congrArg some (by omega)
    · rw [if_neg h2]
      by_cases h3 : l < v
      · rw [if_pos h3]; exact congrArg some (by omega)
      · rw [if_neg h3]
        by_cases h4 : v < -l
        · rw [if_pos h4]
        · rw [if_neg h4]; exact congrArg some (by omega)
theorem m_held {v l : Int} (hv : -100000 ≤ v ∧ v ≤ 100000) (hl : 0 ≤ l ∧ l ≤ 9999) : fX12_held v l = some (pcl v l) := by
  have wv : w32 v = v := w32_id (by omega) (by omega)
  have wl : w32 l = l := w32_id (by omega) (by omega)
  have wn : w32 (-l) = -l := w32_id (by omega) (by omega)
  unfold fX12_held pcl
  simp only [wv, wl, wn]
  by_cases h1 : l < v
  · rw [if_pos h1, if_neg (by omega)]
  · rw [if_neg h1, if_pos (by omega)]
    by_cases h2 : v < -l
    · rw [if_pos h2, if_neg (by omega)]
    · rw [if_neg h2, if_pos (by omega)]
/-- soft numbers with the first j values added -/
def pad (f sq v : Nat → Int) (l : Int) : Nat → Nat → Int
  | 0 => f
  | j + 1 => fun k => if (k : Int) = sq j then pcl (pad f sq v l j k + v j) l else pad f sq v l j k
theorem pad_s (f sq v : Nat → Int) (l : Int) (j k : Nat) : pad f sq v l (j + 1) k = if (k : Int) = sq j then pcl (pad f sq v l j k + v j) l else pad f sq v l j k := rfl
theorem pad_rng {f sq v : Nat → Int} {l : Int} (hl : 0 ≤ l ∧ l ≤ 9999) (hf : pbd f) : ∀ j, pbd (pad f sq v l j)
  | 0 => hf
  | j + 1 => fun k hk => by
    rw [pad_s]
    by_cases c : (k : Int) = sq j
    · rw [if_pos c]
      have := pcl_rng (v := pad f sq v l j k + v j) hl.1
      omega
    · rw [if_neg c]; exact pad_rng hl hf j k hk
theorem pad_cg {f f' sq v v' : Nat → Int} {l : Int} (hf : ∀ k, k < 39 → f' k = f k) : ∀ j, (∀ i, i < j → v' i = v i) → ∀ k, k < 39 → pad f' sq v' l j k = pad f sq v l j k
  | 0, _, k, hk => hf k hk
  | j + 1, hv, k, hk => by
    rw [pad_s, pad_s, pad_cg hf j (fun i hi => hv i (by omega)) k hk, hv j (by omega)]
theorem c_addL {L p len : Nat} {sq v : Nat → Int} {l : Int} {c : zMem} (hlen : len ≤ 60) (hrow : ∀ i, i < len → c (20, 0, 0) i = sq i ∧ 0 ≤ sq i ∧ sq i ≤ 38) (hv : ∀ i, i < len → c (28, 0, 0) i = v i ∧ -1000 ≤ v i ∧ v i ≤ 1000) (el : c (7, L, 0) 5 = l) (hl : 0 ≤ l ∧ l ≤ 9999) (hf : pbd (c (41, L, p))) (a b : Int) : ∃ i' K, zlp (fX0_hear_l65 L a b (len : Int) p) 5000 (0, c) = some (i', K) ∧ (∀ q, q ≠ (41, L, p) → K q = c q) ∧ ∀ k, K (41, L, p) k = pad (c (41, L, p)) sq v l len k := by
  have hh := zlp_inv (body := fX0_hear_l65 L a b (len : Int) p) (fun j st => st.1 = (j : Int) ∧ (∀ q, q ≠ (41, L, p) → st.2 q = c q) ∧ ∀ k, st.2 (41, L, p) k = pad (c (41, L, p)) sq v l j k) (fun st => (∀ q, q ≠ (41, L, p) → st.2 q = c q) ∧ ∀ k, st.2 (41, L, p) k = pad (c (41, L, p)) sq v l len k) len (N := 5000) (by omega) (s0 := (0, c)) ⟨rfl, fun _ _ => rfl, fun k => rfl⟩ ?_ ?_
  · obtain ⟨⟨i', K⟩, hr, r1, r2⟩ := hh
    exact ⟨i', K, hr, r1, r2⟩
  · rintro j ⟨t1, K⟩ hj ⟨a1, a2, a3⟩
    dsimp only at a1 a2 a3
    subst a1
    obtain ⟨s, es⟩ := nat_of (hrow j hj).2.1
    have hs := (hrow j hj).2.2
    have s39 : s < 39 := by omega
    have hvj := hv j hj
    have hp := pad_rng (sq := sq) (v := v) hl hf j s s39
    have e20 : K (20, 0, 0) j = (s : Int) := by rw [a2 _ (by simp), (hrow j hj).1, es]
    have e28 : K (28, 0, 0) j = v j := by rw [a2 _ (by simp), hvj.1]
    have e7 : K (7, L, 0) 5 = l := by rw [a2 _ (by simp), el]
    have xj : ix (j : Int) = j := ix_nat (by omega)
    have xs : ix (s : Int) = s := ix_nat (by omega)
    unfold fX0_hear_l65
    simp only [zlet_eq]
    rw [if_neg (by rw [w32_n (by omega), w32_n (by omega)]; omega)]
    simp only [xj, e20, xs, e28, e7, a3]
    rw [if_pos (zin_nat (show j < 60 by omega) (by decide)), if_pos (zin_nat s39 (by decide)), c_within (by omega) hl, zb_some]
    refine Or.inl ⟨_, rfl, by dsimp only; omega, fun q hq => by dsimp only; rw [zst_nq hq, a2 q hq], fun k => ?_⟩
    dsimp only
    rw [pad_s, es]
    by_cases c0 : k = s
    · subst c0; rw [zst_at, if_pos rfl]
    · rw [zst_nk c0, if_neg (by omega)]; exact a3 k
  · rintro ⟨t1, K⟩ ⟨a1, a2, a3⟩
    dsimp only at a1 a2 a3
    subst a1
    unfold fX0_hear_l65
    dsimp only
    rw [if_pos (by omega)]
    exact ⟨_, rfl, a2, a3⟩
theorem m_addL {p len o : Nat} {sq v f : Nat → Int} {l : Int} {m : zMem} (ho : 329 ≤ o ∧ o ≤ 945) (hlen : len ≤ 60) (hrow : ∀ i, i < len → m (56, 0, 0) i = sq i ∧ 0 ≤ sq i ∧ sq i ≤ 38) (hv : ∀ i, i < len → m (63, 0, 0) i = v i ∧ -1000 ≤ v i ∧ v i ≤ 1000) (el : m (51, 0, 0) 5 = l) (hl : 0 ≤ l ∧ l ≤ 9999) (hf : pbd f) (hfm : ∀ k, k < 39 → m (51, 0, 0) (o + 10 + k) = f k) (a b : Int) : ∃ i' K, zlp (fX12_hears_l138 a b (len : Int) (o : Int)) 5000 (0, m) = some (i', K) ∧ (∀ q, q ≠ (51, 0, 0) → K q = m q) ∧ (∀ k, k < o + 10 ∨ o + 49 ≤ k → K (51, 0, 0) k = m (51, 0, 0) k) ∧ ∀ k, k < 39 → K (51, 0, 0) (o + 10 + k) = pad f sq v l len k := by
  have hh := zlp_inv (body := fX12_hears_l138 a b (len : Int) (o : Int)) (fun j st => st.1 = (j : Int) ∧ (∀ q, q ≠ (51, 0, 0) → st.2 q = m q) ∧ (∀ k, k < o + 10 ∨ o + 49 ≤ k → st.2 (51, 0, 0) k = m (51, 0, 0) k) ∧ ∀ k, k < 39 → st.2 (51, 0, 0) (o + 10 + k) = pad f sq v l j k) (fun st => (∀ q, q ≠ (51, 0, 0) → st.2 q = m q) ∧ (∀ k, k < o + 10 ∨ o + 49 ≤ k → st.2 (51, 0, 0) k = m (51, 0, 0) k) ∧ ∀ k, k < 39 → st.2 (51, 0, 0) (o + 10 + k) = pad f sq v l len k) len (N := 5000) (by omega) (s0 := (0, m)) ⟨rfl, fun _ _ => rfl, fun _ _ => rfl, hfm⟩ ?_ ?_
  · obtain ⟨⟨i', K⟩, hr, r1, r2, r3⟩ := hh
    exact ⟨i', K, hr, r1, r2, r3⟩
  · rintro j ⟨t1, K⟩ hj ⟨a1, a2, a4, a3⟩
    dsimp only at a1 a2 a3 a4
    subst a1
    obtain ⟨s, es⟩ := nat_of (hrow j hj).2.1
    have hs := (hrow j hj).2.2
    have s39 : s < 39 := by omega
    have hvj := hv j hj
    have hp := pad_rng (sq := sq) (v := v) hl hf j s s39
    have e20 : K (56, 0, 0) j = (s : Int) := by rw [a2 _ (by simp), (hrow j hj).1, es]
    have e28 : K (63, 0, 0) j = v j := by rw [a2 _ (by simp), hvj.1]
    have e7 : K (51, 0, 0) 5 = l := by rw [a4 _ (by omega), el]
    have xj : ix (j : Int) = j := ix_nat (by omega)
    have xs : ix ((o : Int) + 10 + (s : Int)) = o + 10 + s := by rw [ix_of (by omega) (by omega)]; omega
    unfold fX12_hears_l138
    simp only [zlet_eq]
    rw [if_neg (by rw [w32_n (by omega), w32_n (by omega)]; omega)]
    simp only [xj, e20, xs, e28, e7, a3 s s39]
    rw [if_pos (zin_nat (show j < 60 by omega) (by decide)), if_pos (zin_of (by omega) (by omega) (by decide)), m_held (by omega) hl, zb_some]
    refine Or.inl ⟨_, rfl, by dsimp only; omega, fun q hq => by dsimp only; rw [zst_nq hq, a2 q hq], fun k hk => by dsimp only; rw [zst_nk (by omega)]; exact a4 k hk, fun k hk => ?_⟩
    dsimp only
    rw [pad_s, es]
    by_cases c0 : k = s
    · subst c0; rw [zst_at, if_pos rfl]
    · rw [zst_nk (by omega), if_neg (by omega)]; exact a3 k hk
  · rintro ⟨t1, K⟩ ⟨a1, a2, a4, a3⟩
    dsimp only at a1 a2 a3 a4
    subst a1
    unfold fX12_hears_l138
    dsimp only
    rw [if_pos (by omega)]
    exact ⟨_, rfl, a2, a4, a3⟩
def PH (L p : Nat) (q : zPl) : Prop := q = (9, L, 0) ∨ q = (39, L, 0) ∨ q = (40, L, 0) ∨ q = (11, L, p) ∨ q = (41, L, p)
def GH (o k : Nat) : Prop := (55 ≤ k ∧ k < 329 ∧ k ≠ 70 ∧ k ≠ 71) ∨ (o + 6 ≤ k ∧ k < o + 49)
/-- only the receiver's own numbers and rows changed -/
theorem RK.rv {L : Nat} {B B' : Int} {c c' : zMem} {g g' : Nat → Int} (h : RK L B c g) (hv : Rw L B' c' g') (ht : Rt L c' g') (hc : sRc L c c') (hg : ∀ k, k < 55 ∨ 329 ≤ k ∨ k = 70 ∨ k = 71 → g' k = g k) : RK L B' c' g' := by
  obtain ⟨h1, h2, h3, h4, h5, h6⟩ := h
  have e : ∀ r p, r ≠ 9 → r ≠ 39 → r ≠ 40 → c' (r, L, p) = c (r, L, p) := fun r p a1 a2 a3 => hc _ (by simp [a1]) (by simp [a2]) (by simp [a3])
  exact ⟨h1.cg (fun k _ => by rw [e 7 0 (by decide) (by decide) (by decide)]) (fun k hk => hg k (by omega)), h2.cg (e 8 0 (by decide) (by decide) (by decide)) (e 33 0 (by decide) (by decide) (by decide)) (e 34 0 (by decide) (by decide) (by decide)) (e 35 0 (by decide) (by decide) (by decide)) (e 36 0 (by decide) (by decide) (by decide)) (fun k k1 k2 => hg k (by omega)), hv, ht, fun p hp => (h5 p hp).cg (e 10 p (by decide) (by decide) (by decide)) (e 37 p (by decide) (by decide) (by decide)) (hg 0 (by decide)) (hg 3 (by decide)) (fun k k1 k2 k3 => hg k (by omega)) (fun k k1 k2 => hg k (by omega)), fun p hp => (h6 p hp).cg (e 11 p (by decide) (by decide) (by decide)) (e 41 p (by decide) (by decide) (by decide)) (fun k k1 k2 => hg k (by omega))⟩
/-- only an ear changed -/
theorem RK.ear {L : Nat} {B : Int} {c c' : zMem} {g g' : Nat → Int} (h : RK L B c g) {p : Nat} (hr : Rr L p (329 + 88 * p) c' g') (hc : sK (fun q => q = (11, L, p) ∨ q = (41, L, p)) c c') (hg : ∀ k, k < 329 + 88 * p + 6 ∨ 329 + 88 * p + 49 ≤ k → g' k = g k) : RK L B c' g' := by
  obtain ⟨h1, h2, h3, h4, h5, h6⟩ := h
  have e : ∀ r p', r ≠ 11 → r ≠ 41 → kab r = true → c' (r, L, p') = c (r, L, p') := fun r p' a1 a2 a3 => hc _ a3 (by simp [a1, a2])
  have e2 : ∀ r p', p' ≠ p → kab r = true → c' (r, L, p') = c (r, L, p') := fun r p' a1 a3 => hc _ a3 (by simp [a1])
  refine ⟨h1.cg (fun k _ => by rw [e 7 0 (by decide) (by decide) rfl]) (fun k hk => hg k (by omega)), h2.cg (e 8 0 (by decide) (by decide) rfl) (e 33 0 (by decide) (by decide) rfl) (e 34 0 (by decide) (by decide) rfl) (e 35 0 (by decide) (by decide) rfl) (e 36 0 (by decide) (by decide) rfl) (fun k k1 k2 => hg k (by omega)), h3.cg (fun k _ _ => by rw [e 9 0 (by decide) (by decide) rfl]) (e 39 0 (by decide) (by decide) rfl) (e 40 0 (by decide) (by decide) rfl) (fun k k1 k2 _ _ _ _ => hg k (by omega)), h4.cg (by rw [e 9 0 (by decide) (by decide) rfl]) (by rw [e 9 0 (by decide) (by decide) rfl]) (hg 55 (by omega)) (hg 64 (by omega)) (hg 65 (by omega)), fun p' hp => (h5 p' hp).cg (e 10 p' (by decide) (by decide) rfl) (e 37 p' (by decide) (by decide) rfl) (hg 0 (by omega)) (hg 3 (by omega)) (fun k k1 k2 k3 => hg k (by omega)) (fun k k1 k2 => hg k (by omega)), fun p' hp => ?_⟩
  by_cases ep : p' = p
  · rw [ep]; exact hr
  · exact (h6 p' hp).cg (e2 11 p' ep rfl) (e2 41 p' ep rfl) (fun k k1 k2 => hg k (by omega))
