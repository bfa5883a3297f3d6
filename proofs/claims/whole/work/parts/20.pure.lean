/-! PURE GROUND: loops, memory maps, small numbers -/
theorem zlp_tr {σ ρ : Type} {body : σ → Option (σ ⊕ ρ)} (S : Nat → σ) {r : ρ} : ∀ (e i N : Nat), (∀ j, i ≤ j → j < i + e → body (S j) = some (.inl (S (j + 1)))) → body (S (i + e)) = some (.inr r) → e < N → zlp body N (S i) = some r := by
  intro e
  induction e with
  | zero =>
    intro i N _ hx hN
    obtain ⟨n, rfl⟩ : ∃ n, N = n + 1 := ⟨N - 1, by omega⟩
    unfold zlp
    rw [show i = i + 0 from rfl, hx]
  | succ e ih =>
    intro i N hs hx hN
    obtain ⟨n, rfl⟩ : ∃ n, N = n + 1 := ⟨N - 1, by omega⟩
    unfold zlp
    rw [hs i (Nat.le_refl _) (by omega)]
    exact ih (i + 1) n (fun j h1 h2 => hs j (by omega) (by omega)) (by rw [show i + 1 + e = i + (e + 1) by omega]; exact hx) (by omega)
theorem zlp_0 {σ ρ : Type} {body : σ → Option (σ ⊕ ρ)} (S : Nat → σ) {r : ρ} (e : Nat) {N : Nat} (hN : e < N) (hs : ∀ j, j < e → body (S j) = some (.inl (S (j + 1)))) (hx : body (S e) = some (.inr r)) : zlp body N (S 0) = some r :=
  zlp_tr S e 0 N (fun j _ h => hs j (by omega)) (by rw [Nat.zero_add]; exact hx) hN
theorem zlp_iv {σ ρ : Type} {body : σ → Option (σ ⊕ ρ)} (P : Nat → σ → Prop) (Q : ρ → Prop) : ∀ (e i N : Nat) (s : σ), P i s → (∀ j s, i ≤ j → j < i + e → P j s → (∃ s', body s = some (.inl s') ∧ P (j + 1) s') ∨ ∃ r, body s = some (.inr r) ∧ Q r) → (∀ s, P (i + e) s → ∃ r, body s = some (.inr r) ∧ Q r) → e < N → ∃ r, zlp body N s = some r ∧ Q r := by
  intro e
  induction e with
  | zero =>
    intro i N s h0 _ hx hN
    obtain ⟨n, rfl⟩ : ∃ n, N = n + 1 := ⟨N - 1, by omega⟩
    obtain ⟨r, h1, h2⟩ := hx s h0
    exact ⟨r, by unfold zlp; rw [h1], h2⟩
  | succ e ih =>
    intro i N s h0 hs hx hN
    obtain ⟨n, rfl⟩ : ∃ n, N = n + 1 := ⟨N - 1, by omega⟩
    rcases hs i s (Nat.le_refl _) (by omega) h0 with ⟨s', h1, h2⟩ | ⟨r, h1, h2⟩
    · obtain ⟨r, h3, h4⟩ := ih (i + 1) n s' h2 (fun j s g1 g2 => hs j s (by omega) (by omega)) (by rw [show i + 1 + e = i + (e + 1) by omega]; exact hx) (by omega)
      exact ⟨r, by unfold zlp; rw [h1]; exact h3, h4⟩
    · exact ⟨r, by unfold zlp; rw [h1], h2⟩
/-- a loop with an invariant: e rounds at most -/
theorem zlp_inv {σ ρ : Type} {body : σ → Option (σ ⊕ ρ)} (P : Nat → σ → Prop) (Q : ρ → Prop) (e : Nat) {N : Nat} (hN : e < N) {s0 : σ} (h0 : P 0 s0) (hs : ∀ j s, j < e → P j s → (∃ s', body s = some (.inl s') ∧ P (j + 1) s') ∨ ∃ r, body s = some (.inr r) ∧ Q r) (hx : ∀ s, P e s → ∃ r, body s = some (.inr r) ∧ Q r) : ∃ r, zlp body N s0 = some r ∧ Q r :=
  zlp_iv P Q e 0 N s0 h0 (fun j s _ h => hs j s (by omega)) (by rw [Nat.zero_add]; exact hx) hN
/-- the first n numbers of a row are f's -/
def zmp (I : zMem) (q : zPl) (n : Nat) (f : Nat → Int) : zMem := fun q' k => if q' = q ∧ k < n then f k else I q' k
/-- a row gets g added -/
def zpl (I : zMem) (q : zPl) (g : Nat → Int) : zMem := fun q' k => if q' = q then I q' k + g k else I q' k
theorem zmp_0 (I : zMem) (q : zPl) (f : Nat → Int) : zmp I q 0 f = I := funext fun q' => funext fun k => if_neg (fun h => Nat.not_lt_zero _ h.2)
theorem zmp_s (I : zMem) (q : zPl) (n : Nat) (f : Nat → Int) : zst (zmp I q n f) q n (f n) = zmp I q (n + 1) f := by
  funext q' k
  unfold zst zmp
  by_cases h : q' = q
  · by_cases h2 : k = n
    · subst h2; simp [h]
    · by_cases h3 : k < n
      · simp [h, h2, h3, show k < n + 1 by omega]
      · simp [h, h2, h3, show ¬ k < n + 1 by omega]
  · simp [h]
theorem zmp_in {I : zMem} {q : zPl} {n k : Nat} {f : Nat → Int} (h : k < n) : zmp I q n f q k = f k := if_pos ⟨rfl, h⟩
theorem zmp_ne {I : zMem} {q q' : zPl} {n : Nat} {f : Nat → Int} (h : q' ≠ q) : zmp I q n f q' = I q' := funext fun k => if_neg (fun c => h c.1)
theorem zmp_out {I : zMem} {q : zPl} {n k : Nat} {f : Nat → Int} (h : n ≤ k) : zmp I q n f q k = I q k := if_neg (fun c => Nat.not_lt.mpr h c.2)
theorem zpl_0 (I : zMem) (q : zPl) : zpl I q (fun _ => 0) = I := by
  funext q' k; unfold zpl; split <;> simp
theorem zpl_ne {I : zMem} {q q' : zPl} {g : Nat → Int} (h : q' ≠ q) : zpl I q g q' = I q' := funext fun k => if_neg h
theorem zpl_at {I : zMem} {q : zPl} {k : Nat} {g : Nat → Int} : zpl I q g q k = I q k + g k := if_pos rfl
theorem zpl_s (I : zMem) (q : zPl) (g : Nat → Int) (k : Nat) : zst (zpl I q g) q k (zpl I q g q k + 1) = zpl I q (fun j => g j + if j = k then 1 else 0) := by
  funext q' j
  unfold zst zpl
  by_cases h : q' = q
  · by_cases h2 : j = k
    · subst h2; simp [h]; omega
    · simp [h, h2]
  · simp [h]
theorem zst_at {I : zMem} {q : zPl} {k : Nat} {z : Int} : zst I q k z q k = z := if_pos ⟨rfl, rfl⟩
theorem zst_nq {I : zMem} {q q' : zPl} {k : Nat} {z : Int} (h : q' ≠ q) : zst I q k z q' = I q' := funext fun j => if_neg (fun c => h c.1)
theorem zst_nk {I : zMem} {q q' : zPl} {k j : Nat} {z : Int} (h : j ≠ k) : zst I q k z q' j = I q' j := if_neg (fun c => h c.2)
theorem ix_nat {n : Nat} (h : n < 2147483648) : ix (n : Int) = n := by
  unfold ix; rw [w32_id (by omega) (by omega)]; rfl
theorem ix_of {z : Int} (h0 : 0 ≤ z) (h : z < 2147483648) : ix z = z.toNat := by
  unfold ix; rw [w32_id (by omega) h]
theorem zin_nat {n N : Nat} (h : n < N) (hN : N ≤ 2147483648) : zin (n : Int) N := by
  have e : w32 (n : Int) = n := w32_id (by omega) (by omega)
  unfold zin; rw [e]; omega
theorem zin_of {z : Int} {N : Nat} (h0 : 0 ≤ z) (h : z < (N : Int)) (hN : N ≤ 2147483648) : zin z N := by
  have e : w32 z = z := w32_id (by omega) (by omega)
  unfold zin; rw [e]; exact ⟨h0, h⟩
theorem w32_n {n : Nat} (h : n < 2147483648) : w32 (n : Int) = n := w32_id (by omega) (by omega)
theorem zb_some {α β : Type} (x : α) (F : α → Option β) : zb (some x) F = F x := rfl
theorem zbr_inl {α γ β : Type} (x : α) (F : α → Option β) (G : γ → β) : zbr (some (.inl x)) F G = F x := rfl
theorem zbr_inr {α γ β : Type} (z : γ) (F : α → Option β) (G : γ → β) : zbr (some (.inr z)) F G = some (G z) := rfl
/-! bits of small numbers -/
theorem oi_inj {a b : Int} (h : Int32.ofInt a = Int32.ofInt b) (ha : -2147483648 ≤ a ∧ a < 2147483648) (hb : -2147483648 ≤ b ∧ b < 2147483648) : a = b := by
  have := (oi_eq a b).mp h
  rw [w32_id ha.1 ha.2, w32_id hb.1 hb.2] at this; exact this
theorem ixor_nat {a b : Nat} (ha : a < 2147483648) (hb : b < 2147483648) : ixor (a : Int) (b : Int) = ((a ^^^ b : Nat) : Int) := by
  have h : a ^^^ b < 2 ^ 31 := Nat.xor_lt_two_pow (by omega) (by omega)
  unfold ixor
  have e : Int32.ofInt (a : Int) ^^^ Int32.ofInt (b : Int) = Int32.ofInt ((a ^^^ b : Nat) : Int) := by
    rw [← Int32.toBitVec_inj, ← BitVec.toNat_inj]
    show ((Int32.ofInt (a : Int)).toBitVec ^^^ (Int32.ofInt (b : Int)).toBitVec).toNat = _
    rw [BitVec.toNat_xor, oi_tn, oi_tn, oi_tn]
    rw [show ((a : Int) % 4294967296).toNat = a by omega, show ((b : Int) % 4294967296).toNat = b by omega]
    omega
  rw [e]; exact w32_id (by omega) (by omega)
theorem ior_nat {a b : Nat} (ha : a < 2147483648) (hb : b < 2147483648) : ior (a : Int) (b : Int) = ((a ||| b : Nat) : Int) := by
  have h : a ||| b < 2 ^ 31 := Nat.or_lt_two_pow (by omega) (by omega)
  unfold ior
  have e : Int32.ofInt (a : Int) ||| Int32.ofInt (b : Int) = Int32.ofInt ((a ||| b : Nat) : Int) := by
    rw [← Int32.toBitVec_inj, ← BitVec.toNat_inj]
    show ((Int32.ofInt (a : Int)).toBitVec ||| (Int32.ofInt (b : Int)).toBitVec).toNat = _
    rw [BitVec.toNat_or, oi_tn, oi_tn, oi_tn]
    rw [show ((a : Int) % 4294967296).toNat = a by omega, show ((b : Int) % 4294967296).toNat = b by omega]
    omega
  rw [e]; exact w32_id (by omega) (by omega)
theorem lxor_nat {a b : Nat} (ha : a < 9223372036854775808) (hb : b < 9223372036854775808) : lxor (a : Int) (b : Int) = ((a ^^^ b : Nat) : Int) := by
  have h : a ^^^ b < 2 ^ 63 := Nat.xor_lt_two_pow (by omega) (by omega)
  unfold lxor
  have e : Int64.ofInt (a : Int) ^^^ Int64.ofInt (b : Int) = Int64.ofInt ((a ^^^ b : Nat) : Int) := by
    rw [← Int64.toBitVec_inj, ← BitVec.toNat_inj]
    show ((Int64.ofInt (a : Int)).toBitVec ^^^ (Int64.ofInt (b : Int)).toBitVec).toNat = _
    rw [BitVec.toNat_xor, ol_tn, ol_tn, ol_tn]
    rw [show ((a : Int) % 18446744073709551616).toNat = a by omega, show ((b : Int) % 18446744073709551616).toNat = b by omega]
    omega
  rw [e]; exact w64_id (by omega) (by omega)
theorem lor_nat {a b : Nat} (ha : a < 9223372036854775808) (hb : b < 9223372036854775808) : lor (a : Int) (b : Int) = ((a ||| b : Nat) : Int) := by
  have h : a ||| b < 2 ^ 63 := Nat.or_lt_two_pow (by omega) (by omega)
  unfold lor
  have e : Int64.ofInt (a : Int) ||| Int64.ofInt (b : Int) = Int64.ofInt ((a ||| b : Nat) : Int) := by
    rw [← Int64.toBitVec_inj, ← BitVec.toNat_inj]
    show ((Int64.ofInt (a : Int)).toBitVec ||| (Int64.ofInt (b : Int)).toBitVec).toNat = _
    rw [BitVec.toNat_or, ol_tn, ol_tn, ol_tn]
    rw [show ((a : Int) % 18446744073709551616).toNat = a by omega, show ((b : Int) % 18446744073709551616).toNat = b by omega]
    omega
  rw [e]; exact w64_id (by omega) (by omega)
theorem land_nat {a b : Nat} (ha : a < 9223372036854775808) (hb : b < 9223372036854775808) : land (a : Int) (b : Int) = ((a &&& b : Nat) : Int) := by
  have h : a &&& b < 2 ^ 63 := Nat.and_lt_two_pow _ (by omega)
  unfold land
  have e : Int64.ofInt (a : Int) &&& Int64.ofInt (b : Int) = Int64.ofInt ((a &&& b : Nat) : Int) := by
    rw [← Int64.toBitVec_inj, ← BitVec.toNat_inj]
    show ((Int64.ofInt (a : Int)).toBitVec &&& (Int64.ofInt (b : Int)).toBitVec).toNat = _
    rw [BitVec.toNat_and, ol_tn, ol_tn, ol_tn]
    rw [show ((a : Int) % 18446744073709551616).toNat = a by omega, show ((b : Int) % 18446744073709551616).toNat = b by omega]
    omega
  rw [e]; exact w64_id (by omega) (by omega)
theorem ishl_nat {a k : Nat} (hk : k < 32) : ishl (a : Int) (k : Int) = ((a * 2 ^ k : Nat) : Int) := by
  unfold ishl
  rw [show ((k : Int) % 32).toNat = k by omega, Int.natCast_mul, Int.natCast_pow]; rfl
theorem ishr_nat {a k : Nat} (ha : a < 2147483648) (hk : k < 32) : ishr (a : Int) (k : Int) = ((a / 2 ^ k : Nat) : Int) := by
  unfold ishr
  rw [show ((k : Int) % 32).toNat = k by omega, w32_id (by omega) (by omega), Int.natCast_ediv, Int.natCast_pow]; rfl
theorem lshl_nat {a k : Nat} (hk : k < 64) : lshl (a : Int) (k : Int) = ((a * 2 ^ k : Nat) : Int) := by
  unfold lshl
  rw [show ((k : Int) % 64).toNat = k by omega, Int.natCast_mul, Int.natCast_pow]; rfl
theorem lshr_nat {a k : Nat} (ha : a < 9223372036854775808) (hk : k < 64) : lshr (a : Int) (k : Int) = ((a / 2 ^ k : Nat) : Int) := by
  unfold lshr
  rw [show ((k : Int) % 64).toNat = k by omega, w64_id (by omega) (by omega), Int.natCast_ediv, Int.natCast_pow]; rfl
theorem irem_of {a m : Int} (h0 : 0 ≤ a) (h1 : a < 2147483648) (m0 : 0 < m) (m1 : m < 2147483648) : irem a m = a % m := by
  unfold irem; rw [w32_id (by omega) h1, w32_id (by omega) m1, Int.tmod_eq_emod_of_nonneg h0]
theorem idiv_of {a m : Int} (h0 : 0 ≤ a) (h1 : a < 2147483648) (m0 : 0 < m) (m1 : m < 2147483648) : idiv a m = a / m := by
  unfold idiv; rw [w32_id (by omega) h1, w32_id (by omega) m1, Int.tdiv_eq_ediv_of_nonneg h0]
theorem zall {P : Nat → Prop} [DecidablePred P] {N : Nat} (h : (List.range N).all (fun i => decide (P i)) = true) {i : Nat} (hi : i < N) : P i := of_decide_eq_true (List.all_eq_true.mp h i (List.mem_range.mpr hi))
/-- the sum of the first n -/
def zsm (f : Nat → Int) : Nat → Int
  | 0 => 0
  | n + 1 => zsm f n + f n
theorem zsm_cong {f g : Nat → Int} : ∀ {n : Nat}, (∀ k, k < n → f k = g k) → zsm f n = zsm g n
  | 0, _ => rfl
  | n + 1, h => by rw [zsm, zsm, zsm_cong (fun k hk => h k (by omega)), h n (by omega)]
theorem zsm_add (f g : Nat → Int) : ∀ n, zsm (fun k => f k + g k) n = zsm f n + zsm g n
  | 0 => rfl
  | n + 1 => by rw [zsm, zsm, zsm, zsm_add f g n]; omega
theorem zsm_split (f : Nat → Int) (m : Nat) : ∀ n, zsm f (m + n) = zsm f m + zsm (fun k => f (m + k)) n
  | 0 => by simp [zsm]
  | n + 1 => by rw [← Nat.add_assoc, zsm, zsm, zsm_split f m n]; omega
theorem zsm_bd {f : Nat → Int} {c : Int} : ∀ {n : Nat}, (∀ k, k < n → -c ≤ f k ∧ f k ≤ c) → -(n * c) ≤ zsm f n ∧ zsm f n ≤ n * c
  | 0, _ => by simp [zsm]
  | n + 1, h => by
    have h1 := zsm_bd (f := f) (c := c) (n := n) (fun k hk => h k (by omega))
    have h2 := h n (by omega)
    rw [zsm, show ((n + 1 : Nat) : Int) * c = n * c + c by rw [Int.natCast_add, Int.add_mul]; simp]
    omega
