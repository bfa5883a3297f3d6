/-! BIT COUNTS: the JDK's way gives the number of ones -/
theorem lushr_nat {a k : Nat} (ha : a < 18446744073709551616) (hk : k < 64) : lushr (a : Int) (k : Int) = ((a / 2 ^ k : Nat) : Int) := by
  unfold lushr
  rw [show ((k : Int) % 64).toNat = k by omega, show (a : Int) % 18446744073709551616 = (a : Int) by omega, Int.natCast_ediv, Int.natCast_pow]; rfl
theorem and_split {b y c d : Nat} (hb : b < 256) (hc : c < 256) : (b + 256 * y) &&& (c + 256 * d) = (b &&& c) + 256 * (y &&& d) := by
  have h1 := Nat.and_mod_two_pow (a := b + 256 * y) (b := c + 256 * d) (n := 8)
  have h2 := Nat.and_div_two_pow (a := b + 256 * y) (b := c + 256 * d) (n := 8)
  rw [show (2 : Nat) ^ 8 = 256 from rfl] at h1 h2
  rw [show (b + 256 * y) % 256 = b by omega, show (c + 256 * d) % 256 = c by omega] at h1
  rw [show (b + 256 * y) / 256 = y by omega, show (c + 256 * d) / 256 = d by omega] at h2
  omega
def pmk (m : Nat) : Nat → Nat
  | 0 => 0
  | k + 1 => m + 256 * pmk m k
def pf1 (b : Nat) : Nat := b - (b / 2 &&& 85)
def pf2 (b : Nat) : Nat := (b &&& 51) + (b / 4 &&& 51)
def pg (b : Nat) : Nat := pf2 (pf1 b)
def pby (b : Nat) : Nat := (pg b + pg b / 16) % 16
def pS1 (k x : Nat) : Nat := x - (x / 2 &&& pmk 85 k)
def pS2 (k x : Nat) : Nat := (x &&& pmk 51 k) + (x / 4 &&& pmk 51 k)
def pS3 (k x : Nat) : Nat := (x + x / 16) &&& pmk 15 k
theorem pby1 : (List.range 256).all (fun b => (List.range 2).all (fun t => decide ((b / 2 + 128 * t) &&& 85 = b / 2 &&& 85 ∧ (b / 2 &&& 85) ≤ b ∧ pf1 b < 256))) = true := by decide +kernel
theorem pby2 : (List.range 256).all (fun b => (List.range 4).all (fun t => decide ((b / 4 + 64 * t) &&& 51 = b / 4 &&& 51))) = true := by decide +kernel
theorem pby3 : (List.range 256).all (fun b => (List.range 5).all (fun t => decide ((pg b + pg b / 16 + 16 * t) &&& 15 = pby b ∧ pg b % 16 ≤ 4 ∧ pg b ≤ 68 ∧ pby b ≤ 8))) = true := by decide +kernel
theorem pall2 {P : Nat → Nat → Prop} [∀ a b, Decidable (P a b)] {N K : Nat} (h : (List.range N).all (fun a => (List.range K).all (fun b => decide (P a b))) = true) {a b : Nat} (ha : a < N) (hb : b < K) : P a b := by
  have h1 := List.all_eq_true.mp h a (List.mem_range.mpr ha)
  exact of_decide_eq_true (List.all_eq_true.mp h1 b (List.mem_range.mpr hb))
theorem pS1_s {k b y : Nat} (hb : b < 256) : pS1 (k + 1) (b + 256 * y) = pf1 b + 256 * pS1 k y := by
  have ht : y % 2 < 2 := Nat.mod_lt _ (by decide)
  obtain ⟨q1, q2, -⟩ := pall2 pby1 hb ht
  unfold pS1 pf1
  rw [pmk, show (b + 256 * y) / 2 = (b / 2 + 128 * (y % 2)) + 256 * (y / 2) by omega, and_split (by omega) (by decide), q1]
  have : (y / 2 &&& pmk 85 k) ≤ y / 2 := Nat.and_le_left
  omega
theorem pS2_s {k b y : Nat} (hb : b < 256) : pS2 (k + 1) (b + 256 * y) = pf2 b + 256 * pS2 k y := by
  have ht : y % 4 < 4 := Nat.mod_lt _ (by decide)
  have q1 := pall2 pby2 hb ht
  unfold pS2 pf2
  rw [pmk, show (b + 256 * y) / 4 = (b / 4 + 64 * (y % 4)) + 256 * (y / 4) by omega, and_split hb (by decide), and_split (by omega) (by decide), q1]
  omega
/-- the counts by bytes, and the number of ones -/
def pG (k x : Nat) : Nat := pS2 k (pS1 k x)
theorem pG_s {k b y : Nat} (hb : b < 256) : pG (k + 1) (b + 256 * y) = pg b + 256 * pG k y := by
  unfold pG
  rw [pS1_s hb, pS2_s ((pall2 pby1 hb (show 0 < 2 by decide)).2.2)]; rfl
theorem pG_0 (x : Nat) : pG 0 x = 0 := by
  unfold pG pS2; simp [pmk]
theorem pG_nib : ∀ (k x : Nat), pG k x % 16 ≤ 4
  | 0, x => by rw [pG_0]; decide
  | k + 1, x => by
    have h := (pall2 pby3 (a := x % 256) (b := 0) (Nat.mod_lt _ (by decide)) (by decide)).2.1
    rw [show x = x % 256 + 256 * (x / 256) by omega, pG_s (Nat.mod_lt _ (by decide))]
    omega
def pbytes : Nat → Nat → Nat
  | 0, _ => 0
  | k + 1, x => pby (x % 256) + 256 * pbytes k (x / 256)
theorem pS3_G : ∀ (k x : Nat), pS3 k (pG k x) = pbytes k x
  | 0, x => by unfold pS3 pbytes; simp [pmk]
  | k + 1, x => by
    have hn := pG_nib k (x / 256)
    obtain ⟨q1, q2, q3, q4⟩ := pall2 pby3 (a := x % 256) (b := pG k (x / 256) % 16) (Nat.mod_lt _ (by decide)) (by omega)
    have e : pG (k + 1) x = pg (x % 256) + 256 * pG k (x / 256) := by
      conv => lhs; rw [show x = x % 256 + 256 * (x / 256) by omega]
      exact pG_s (Nat.mod_lt _ (by decide))
    rw [e, pbytes, ← pS3_G k (x / 256)]
    unfold pS3
    rw [pmk, show pg (x % 256) + 256 * pG k (x / 256) + (pg (x % 256) + 256 * pG k (x / 256)) / 16 = (pg (x % 256) + pg (x % 256) / 16 + 16 * (pG k (x / 256) % 16)) + 256 * (pG k (x / 256) + pG k (x / 256) / 16) by omega, and_split (by omega) (by decide), q1]
/-- the number of ones -/
def pop (x : Nat) : Nat → Nat
  | 0 => 0
  | n + 1 => pop x n + x / 2 ^ n % 2
theorem pop_add (x m : Nat) : ∀ n, pop x (m + n) = pop x m + pop (x / 2 ^ m) n
  | 0 => by simp [pop]
  | n + 1 => by
    rw [← Nat.add_assoc, pop, pop, pop_add x m n, Nat.div_div_eq_div_mul, ← Nat.pow_add]; omega
theorem pby_pop_ok : (List.range 256).all (fun b => decide (pby b = pop b 8)) = true := by decide +kernel
theorem pop_mod (x : Nat) : ∀ n, n ≤ 8 → pop x n = pop (x % 256) n
  | 0, _ => rfl
  | n + 1, h => by
    have h2 : x % 256 / 2 ^ n % 2 = x / 2 ^ n % 2 := by
      have : n = 0 ∨ n = 1 ∨ n = 2 ∨ n = 3 ∨ n = 4 ∨ n = 5 ∨ n = 6 ∨ n = 7 := by omega
      rcases this with h | h | h | h | h | h | h | h <;> subst h <;> omega
    rw [pop, pop, pop_mod x n (by omega), h2]
theorem pby_pop (x : Nat) : pby (x % 256) = pop x 8 := by
  rw [pop_mod x 8 (Nat.le_refl _)]
  exact zall pby_pop_ok (Nat.mod_lt _ (by decide))
theorem pfin {d0 d1 d2 d3 d4 d5 d6 d7 A : Nat} (c0 : d0 ≤ 8) (c1 : d1 ≤ 8) (c2 : d2 ≤ 8) (c3 : d3 ≤ 8) (c4 : d4 ≤ 8) (c5 : d5 ≤ 8) (c6 : d6 ≤ 8) (c7 : d7 ≤ 8) (h0 : A = d0 + 256 * (d1 + 256 * (d2 + 256 * (d3 + 256 * (d4 + 256 * (d5 + 256 * (d6 + 256 * (d7 + 256 * 0)))))))) : some (((((A : Int) + lushr (A : Int) 8) + lushr ((A : Int) + lushr (A : Int) 8) 16) + lushr (((A : Int) + lushr (A : Int) 8) + lushr ((A : Int) + lushr (A : Int) 8) 16) 32) % 128) = some ((d0 + d1 + d2 + d3 + d4 + d5 + d6 + d7 : Nat) : Int) := by
  obtain ⟨A7, h7⟩ : ∃ a, a = d7 + 256 * 0 := ⟨_, rfl⟩
  rw [← h7] at h0
  obtain ⟨A6, h6⟩ : ∃ a, a = d6 + 256 * A7 := ⟨_, rfl⟩
  rw [← h6] at h0
  obtain ⟨A5, h5⟩ : ∃ a, a = d5 + 256 * A6 := ⟨_, rfl⟩
  rw [← h5] at h0
  obtain ⟨A4, h4⟩ : ∃ a, a = d4 + 256 * A5 := ⟨_, rfl⟩
  rw [← h4] at h0
  obtain ⟨A3, h3⟩ : ∃ a, a = d3 + 256 * A4 := ⟨_, rfl⟩
  rw [← h3] at h0
  obtain ⟨A2, h2⟩ : ∃ a, a = d2 + 256 * A3 := ⟨_, rfl⟩
  rw [← h2] at h0
  obtain ⟨A1, h1⟩ : ∃ a, a = d1 + 256 * A2 := ⟨_, rfl⟩
  rw [← h1] at h0
  have b7 : A7 ≤ 8 := by omega
  have b6 : A6 ≤ 3000 := by omega
  have b5 : A5 ≤ 1000000 := by omega
  have b4 : A4 ≤ 1000000000 := by omega
  have b3 : A3 ≤ 1000000000000 := by omega
  have b2 : A2 ≤ 1000000000000000 := by omega
  have b1 : A1 ≤ 1000000000000000000 := by omega
  have b1' : A1 ≤ 9 * 1000000000000000 := by
    have : A2 ≤ 35000000000000 := by
      have : A3 ≤ 136000000000 := by
        have : A4 ≤ 531000000 := by
          have : A5 ≤ 2074000 := by
            have : A6 ≤ 8100 := by omega
            omega
          omega
        omega
      omega
    omega
  have b0 : A ≤ 3 * 1000000000000000000 := by omega
  clear b1 b2
  have e1 : lushr (A : Int) 8 = (A1 : Int) := by
    rw [show (8 : Int) = ((8 : Nat) : Int) from rfl, lushr_nat (by omega) (by decide), show (2 : Nat) ^ 8 = 256 from rfl, show A / 256 = A1 by omega]
  rw [e1, ← Int.natCast_add]
  have e2 : lushr ((A + A1 : Nat) : Int) 16 = ((A2 + A3 : Nat) : Int) := by
    rw [show (16 : Int) = ((16 : Nat) : Int) from rfl, lushr_nat (by omega) (by decide), show (2 : Nat) ^ 16 = 65536 from rfl, show (A + A1) / 65536 = A2 + A3 by omega]
  rw [e2, ← Int.natCast_add]
  have e3 : lushr ((A + A1 + (A2 + A3) : Nat) : Int) 32 = ((A4 + A5 + (A6 + A7) : Nat) : Int) := by
    rw [show (32 : Int) = ((32 : Nat) : Int) from rfl, lushr_nat (by omega) (by decide), show (2 : Nat) ^ 32 = 4294967296 from rfl]
    have q1 : A + A1 + (A2 + A3) = (d0 + d1 + (d2 + d3)) + 256 * (A1 + A2 + (A3 + A4)) := by omega
    have q2 : A1 + A2 + (A3 + A4) = (d1 + d2 + (d3 + d4)) + 256 * (A2 + A3 + (A4 + A5)) := by omega
    have q3 : A2 + A3 + (A4 + A5) = (d2 + d3 + (d4 + d5)) + 256 * (A3 + A4 + (A5 + A6)) := by omega
    have q4 : A3 + A4 + (A5 + A6) = (d3 + d4 + (d5 + d6)) + 256 * (A4 + A5 + (A6 + A7)) := by omega
    generalize A + A1 + (A2 + A3) = t0 at *
    generalize A1 + A2 + (A3 + A4) = t1 at *
    generalize A2 + A3 + (A4 + A5) = t2 at *
    generalize A3 + A4 + (A5 + A6) = t3 at *
    generalize A4 + A5 + (A6 + A7) = t4 at *
    clear h0 h1 h2 h3 h4 h5 h6 h7 e1 e2
    congr 1
    omega
  rw [e3, ← Int.natCast_add]
  congr 1
  have q5 : A4 + A5 + (A6 + A7) = (d4 + d5 + (d6 + d7)) + 256 * (A5 + A6 + A7) := by omega
  have q1 : A + A1 + (A2 + A3) = (d0 + d1 + (d2 + d3)) + 256 * (A1 + A2 + (A3 + A4)) := by omega
  generalize A + A1 + (A2 + A3) = t0 at *
  generalize A4 + A5 + (A6 + A7) = t4 at *
  clear h0 h1 h2 h3 h4 h5 h6 h7 e1 e2 e3
  omega
theorem s_bitCount {x : Nat} (hx : x < 9223372036854775808) : fJ13_bitCount_95d88 (x : Int) = some (pop x 64 : Int) := by
  unfold fJ13_bitCount_95d88
  dsimp only [zlet]
  have m1 : (6148914691236517205 : Int) = ((pmk 85 8 : Nat) : Int) := by decide +kernel
  have m2 : (3689348814741910323 : Int) = ((pmk 51 8 : Nat) : Int) := by decide +kernel
  have m3 : (1085102592571150095 : Int) = ((pmk 15 8 : Nat) : Int) := by decide +kernel
  have b1 : pmk 85 8 < 9223372036854775808 := by decide +kernel
  have b2 : pmk 51 8 < 4000000000000000000 := by decide +kernel
  have b3 : pmk 15 8 < 2000000000000000000 := by decide +kernel
  rw [m1, m2, m3]
  have e1 : (x : Int) - land (lushr (x : Int) 1) (pmk 85 8 : Nat) = (pS1 8 x : Int) := by
    have h : (x / 2 &&& pmk 85 8) ≤ x / 2 := Nat.and_le_left
    rw [show (1 : Int) = ((1 : Nat) : Int) from rfl, lushr_nat (by omega) (by decide), show (2 : Nat) ^ 1 = 2 from rfl, land_nat (by omega) b1]
    unfold pS1; omega
  have l1 : pS1 8 x < 9223372036854775808 := by unfold pS1; omega
  rw [e1]
  have e2 : land (pS1 8 x : Int) (pmk 51 8 : Nat) + land (lushr (pS1 8 x : Int) 2) (pmk 51 8 : Nat) = (pG 8 x : Int) := by
    have h : pS1 8 x / 4 ≤ pS1 8 x := Nat.div_le_self _ _
    rw [show (2 : Int) = ((2 : Nat) : Int) from rfl, lushr_nat (by omega) (by decide), show (2 : Nat) ^ 2 = 4 from rfl, land_nat l1 (by omega), land_nat (by omega) (by omega)]
    unfold pG pS2; omega
  have l2 : pG 8 x < 8000000000000000000 := by
    have h1 : (pS1 8 x &&& pmk 51 8) ≤ pmk 51 8 := Nat.and_le_right
    have h2 : (pS1 8 x / 4 &&& pmk 51 8) ≤ pmk 51 8 := Nat.and_le_right
    unfold pG pS2; omega
  rw [e2]
  have e3 : land ((pG 8 x : Int) + lushr (pG 8 x : Int) 4) (pmk 15 8 : Nat) = (pbytes 8 x : Int) := by
    have h : pG 8 x / 16 ≤ pG 8 x / 16 := Nat.le_refl _
    rw [show (4 : Int) = ((4 : Nat) : Int) from rfl, lushr_nat (by omega) (by decide), show (2 : Nat) ^ 4 = 16 from rfl, ← Int.natCast_add, land_nat (by omega) (by omega)]
    rw [← pS3_G]; rfl
  rw [e3]
  have pb : ∀ y : Nat, pby (y % 256) ≤ 8 := fun y => (pall2 pby3 (a := y % 256) (b := 0) (Nat.mod_lt _ (by decide)) (by decide)).2.2.2
  have hb : pbytes 8 x = pby (x % 256) + 256 * (pby (x / 256 % 256) + 256 * (pby (x / 256 / 256 % 256) + 256 * (pby (x / 256 / 256 / 256 % 256) + 256 * (pby (x / 256 / 256 / 256 / 256 % 256) + 256 * (pby (x / 256 / 256 / 256 / 256 / 256 % 256) + 256 * (pby (x / 256 / 256 / 256 / 256 / 256 / 256 % 256) + 256 * (pby (x / 256 / 256 / 256 / 256 / 256 / 256 / 256 % 256) + 256 * 0))))))) := rfl
  have hp : pop x 64 = pby (x % 256) + pby (x / 256 % 256) + pby (x / 256 / 256 % 256) + pby (x / 256 / 256 / 256 % 256) + pby (x / 256 / 256 / 256 / 256 % 256) + pby (x / 256 / 256 / 256 / 256 / 256 % 256) + pby (x / 256 / 256 / 256 / 256 / 256 / 256 % 256) + pby (x / 256 / 256 / 256 / 256 / 256 / 256 / 256 % 256) := by
    simp only [pby_pop]
    rw [show (64 : Nat) = 8 + 56 from rfl, pop_add, show (56 : Nat) = 8 + 48 from rfl, pop_add, show (48 : Nat) = 8 + 40 from rfl, pop_add, show (40 : Nat) = 8 + 32 from rfl, pop_add, show (32 : Nat) = 8 + 24 from rfl, pop_add, show (24 : Nat) = 8 + 16 from rfl, pop_add, show (16 : Nat) = 8 + 8 from rfl, pop_add, show (2 : Nat) ^ 8 = 256 from rfl]
    omega
  have c0 := pb x
  have c1 := pb (x / 256)
  have c2 := pb (x / 256 / 256)
  have c3 := pb (x / 256 / 256 / 256)
  have c4 := pb (x / 256 / 256 / 256 / 256)
  have c5 := pb (x / 256 / 256 / 256 / 256 / 256)
  have c6 := pb (x / 256 / 256 / 256 / 256 / 256 / 256)
  have c7 := pb (x / 256 / 256 / 256 / 256 / 256 / 256 / 256)
  rw [hp, hb]
  clear e1 e2 e3 l1 l2 hb hp pb
  generalize pby (x % 256) = d0 at *
  generalize pby (x / 256 % 256) = d1 at *
  generalize pby (x / 256 / 256 % 256) = d2 at *
  generalize pby (x / 256 / 256 / 256 % 256) = d3 at *
  generalize pby (x / 256 / 256 / 256 / 256 % 256) = d4 at *
  generalize pby (x / 256 / 256 / 256 / 256 / 256 % 256) = d5 at *
  generalize pby (x / 256 / 256 / 256 / 256 / 256 / 256 % 256) = d6 at *
  generalize pby (x / 256 / 256 / 256 / 256 / 256 / 256 / 256 % 256) = d7 at *
  exact pfin c0 c1 c2 c3 c4 c5 c6 c7 rfl
