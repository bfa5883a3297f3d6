/-! THE RING -/
def pplace (a : Nat) : Int :=
  let stream : Nat := if a < 16 then 0 else 1 + a % 2
  let turn : Nat := if a < 16 then a else (a - 16) / 2
  let cell : Nat := 4 * (turn % 4) + ([0, 2, 1, 3] : List Nat).getD (turn / 4 % 4) 0
  if cell < 3 then -1 else (13 * stream + cell - 3 : Nat)
def pfil : Nat → Nat
  | 0 => 0
  | a + 1 => pfil a + if pplace a = -1 then 0 else 1
def pordL : List Int := (List.range 48).filterMap (fun a => if pplace a = -1 then none else some (pplace a))
def pord (k : Nat) : Int := pordL.getD k 0
theorem pplace_ok : (List.range 48).all (fun a => decide (-1 ≤ pplace a ∧ pplace a ≤ 38 ∧ (pplace a ≠ -1 → pord (pfil a) = pplace a ∧ pfil a < 39))) = true := by decide +kernel
theorem pord_ok : (List.range 39).all (fun k => decide (0 ≤ pord k ∧ pord k ≤ 38)) = true := by decide +kernel
theorem pfil_ok : (List.range 33).all (fun r => decide (13 ≤ pfil (16 + r) ∧ pfil (16 + r) ≤ 39)) = true := by decide +kernel
theorem pord_rng {k : Nat} (h : k < 39) : 0 ≤ pord k ∧ pord k ≤ 38 := zall pord_ok h
theorem pfil_size {r : Nat} (h1 : 16 ≤ r) (h2 : r ≤ 48) : 13 ≤ pfil r ∧ pfil r ≤ 39 := by
  have := zall pfil_ok (i := r - 16) (by omega)
  rw [show 16 + (r - 16) = r by omega] at this; exact this
theorem pfil_s (a : Nat) : pfil (a + 1) = pfil a + if pplace a = -1 then 0 else 1 := rfl
theorem pfil_mono {a b : Nat} (h : a ≤ b) : pfil a ≤ pfil b := by
  obtain ⟨d, rfl⟩ : ∃ d, b = a + d := ⟨b - a, by omega⟩
  clear h
  induction d with
  | zero => exact Nat.le_refl _
  | succ d ih => rw [← Nat.add_assoc, pfil_s]; split <;> omega
/-- where a sending begins among the bits, and its i-th bit -/
def pat (room v : Nat) : Nat := pfil (v * room / 4)
def psq (room v i : Nat) : Int := pord ((pat room v + i) % pfil room)
theorem psq_rng {room : Nat} (v i : Nat) (h1 : 16 ≤ room) (h2 : room ≤ 48) : 0 ≤ psq room v i ∧ psq room v i ≤ 38 := by
  have h := pfil_size h1 h2
  exact pord_rng (Nat.lt_of_lt_of_le (Nat.mod_lt _ (by omega)) h.2)
theorem bap_ok : (List.range 48).all (fun a => decide (fX6_bitAtPlace (a : Int) (fun _ _ => 0) = some (pplace a))) = true := by decide +kernel
theorem s_bitAtPlace {a : Nat} (ha : a < 48) (I : zMem) : fX6_bitAtPlace (a : Int) I = some (pplace a) := by
  have h := zall bap_ok ha
  exact h
/-- what the class's Ring holds -/
def iRing (I : zMem) : Prop := (∀ k, k < 39 → I (18, 0, 0) k = pord k) ∧ ∀ k, k < 49 → I (19, 0, 0) k = (pfil k : Int)
theorem pmod_s {x s : Nat} (hs : 0 < s) : (x + 1) % s = if x % s + 1 < s then x % s + 1 else 0 := by
  have h := Nat.mod_lt x hs
  by_cases c : x % s + 1 < s
  · rw [if_pos c, Nat.add_mod, Nat.mod_eq_of_lt (a := 1) (by omega), Nat.mod_eq_of_lt c]
  · rw [if_neg c, show x + 1 = (x % s + 1) + s * (x / s) by have := Nat.mod_add_div x s; omega, Nat.add_mul_mod_self_left, show x % s + 1 = s by omega, Nat.mod_self]
/-- Ring.lay: the row is the sending's bits -/
theorem s_lay {I : zMem} (hR : iRing I) {room v len : Nat} (h1 : 16 ≤ room) (h2 : room ≤ 48) (hv : v < 4) (hl : len ≤ 60) : fX6_lay (room : Int) (v : Int) (len : Int) I = some (zmp I (20, 0, 0) len (psq room v)) := by
  have hs := pfil_size h1 h2
  have hvr : v * room / 4 < 49 := by
    have : v * room ≤ 3 * 48 := Nat.mul_le_mul (by omega) h2
    omega
  have hvr2 : v * room / 4 ≤ room := by
    have : v * room ≤ 3 * room := Nat.mul_le_mul_right _ (by omega)
    omega
  have hat := pfil_mono hvr2
  have hvr3 : v * room < 2147483648 := by
    have : v * room ≤ 3 * 48 := Nat.mul_le_mul (by omega) h2
    omega
  unfold fX6_lay
  dsimp only [zlet]
  rw [if_pos (zin_nat (by omega) (by decide)), ix_nat (by omega), ← Int.natCast_mul, show (2 : Int) = ((2 : Nat) : Int) from rfl, ishr_nat hvr3 (by decide), show (2 : Nat) ^ 2 = 4 from rfl]
  rw [if_pos (zin_nat hvr (by decide)), ix_nat (by omega), hR.2 _ (by omega), hR.2 _ hvr]
  have h := zlp_0 (body := fX6_lay_l23 (room : Int) (v : Int) (len : Int) (pfil room : Int)) (S := fun j => (((if j = 0 then pat room v else (pat room v + j - 1) % pfil room + 1 : Nat) : Int), (j : Int), zmp I (20, 0, 0) j (psq room v))) (r := (((if len = 0 then pat room v else (pat room v + len - 1) % pfil room + 1 : Nat) : Int), (len : Int), zmp I (20, 0, 0) len (psq room v))) len (N := 5000) (by omega) ?_ ?_
  · rw [show ((pfil (v * room / 4) : Int), (0 : Int), I) = ((((if 0 = 0 then pat room v else (pat room v + 0 - 1) % pfil room + 1 : Nat) : Int), ((0 : Nat) : Int), zmp I (20, 0, 0) 0 (psq room v))) by rw [zmp_0]; rfl, h]
    rfl
  · intro j hj
    have key : ∀ p : Nat, p < pfil room → p = (pat room v + j) % pfil room → fX6_lay_b23_39 (room : Int) (v : Int) (len : Int) (pfil room : Int) (p : Int) (j : Int) (zmp I (20, 0, 0) j (psq room v)) = some (Sum.inl (((if j + 1 = 0 then pat room v else (pat room v + (j + 1) - 1) % pfil room + 1 : Nat) : Int), ((j + 1 : Nat) : Int), zmp I (20, 0, 0) (j + 1) (psq room v))) := by
      intro p hp ep
      unfold fX6_lay_b23_39
      dsimp only [zlet]
      rw [if_pos (zin_nat (by omega) (by decide)), if_pos (zin_nat (by omega) (by decide)), ix_nat (by omega), ix_nat (by omega)]
      rw [zmp_ne (show ((18, 0, 0) : zPl) ≠ (20, 0, 0) by decide), hR.1 _ (by omega)]
      have e : pord p = psq room v j := by unfold psq; rw [← ep]
      rw [e, zmp_s, if_neg (by omega), show pat room v + (j + 1) - 1 = pat room v + j by omega, ← ep]
      rfl
    unfold fX6_lay_l23
    dsimp only
    rw [w32_n (by omega), w32_n (by omega), if_neg (by omega), w32_n (n := pfil room) (by omega)]
    by_cases h0 : j = 0
    · subst h0
      rw [if_pos rfl, w32_n (by unfold pat; omega)]
      by_cases hc : pat room v < pfil room
      · rw [if_pos (by omega)]
        exact key _ hc (by rw [Nat.add_zero, Nat.mod_eq_of_lt hc])
      · rw [if_neg (by omega)]
        exact key 0 (by omega) (by rw [Nat.add_zero, show pat room v = pfil room by unfold pat at hc ⊢; omega, Nat.mod_self])
    · rw [if_neg h0]
      have hm := Nat.mod_lt (pat room v + j - 1) (show 0 < pfil room by omega)
      have hs1 := pmod_s (x := pat room v + j - 1) (s := pfil room) (by omega)
      rw [show pat room v + j - 1 + 1 = pat room v + j by omega] at hs1
      rw [w32_n (by omega)]
      by_cases hc : (pat room v + j - 1) % pfil room + 1 < pfil room
      · rw [if_pos (by omega)]
        rw [if_pos hc] at hs1
        exact key _ hc hs1.symm
      · rw [if_neg (by omega)]
        rw [if_neg hc] at hs1
        exact key 0 (by omega) hs1.symm
  · unfold fX6_lay_l23
    dsimp only
    rw [if_pos (Int.le_refl _)]
/-- how often c is among the first n -/
def pct (sq : Nat → Int) : Nat → Nat → Int
  | 0, _ => 0
  | n + 1, c => pct sq n c + if c = (sq n).toNat then 1 else 0
theorem pct_pos (sq : Nat → Int) (c : Nat) : ∀ n, 0 ≤ pct sq n c ∧ pct sq n c ≤ n
  | 0 => by simp [pct]
  | n + 1 => by
    have h := pct_pos sq c n
    rw [pct]; split <;> omega
/-- Ring.addTo: a row of 39 gets the counts of the row laid -/
theorem s_addTo {I : zMem} {q : zPl} (hq : q ≠ (20, 0, 0)) {len : Nat} (hl : len ≤ 60) {sq : Nat → Int} (hr : ∀ i, i < len → I (20, 0, 0) i = sq i ∧ 0 ≤ sq i ∧ sq i ≤ 38) : fX6_addTo q (len : Int) I = some (zpl I q (pct sq len)) := by
  unfold fX6_addTo
  have h := zlp_0 (body := fX6_addTo_l2 q (len : Int)) (S := fun j => ((j : Int), zpl I q (pct sq j))) (r := ((len : Int), zpl I q (pct sq len))) len (N := 5000) (by omega) ?_ ?_
  · rw [show ((0 : Int), I) = (((0 : Nat) : Int), zpl I q (pct sq 0)) by rw [show pct sq 0 = fun _ => 0 from funext fun _ => rfl, zpl_0]; rfl, h]
    rfl
  · intro j hj
    obtain ⟨e1, e2, e3⟩ := hr j hj
    unfold fX6_addTo_l2
    dsimp only [zlet]
    have e4 : zpl I q (pct sq j) (20, 0, 0) (ix (j : Int)) = sq j := by rw [ix_nat (by omega), zpl_ne (Ne.symm hq)]; exact e1
    rw [if_neg (by rw [w32_n (by omega), w32_n (by omega)]; omega), if_pos (zin_nat (by omega) (by decide)), if_pos (by rw [e4]; exact zin_of e2 (by omega) (by decide)), e4, ix_of e2 (by omega), zpl_s]
    rfl
  · unfold fX6_addTo_l2
    dsimp only
    rw [if_pos (Int.le_refl _)]
theorem s_fillI (q : zPl) {n : Nat} (hn : n < 4000) (v : Int) (I : zMem) : fJ7_fill_53178 q n v I = some (zmp I q n (fun _ => v)) := by
  unfold fJ7_fill_53178
  dsimp only [zlet]
  have h := zlp_0 (body := fJ7_fill_53178_l5 q n v (n : Int)) (S := fun j => ((j : Int), zmp I q j (fun _ => v))) (r := ((n : Int), zmp I q n (fun _ => v))) n (N := 5000) (by omega) ?_ ?_
  · rw [show ((0 : Int), I) = (((0 : Nat) : Int), zmp I q 0 (fun _ => v)) by rw [zmp_0]; rfl, h]
    rfl
  · intro j hj
    unfold fJ7_fill_53178_l5
    dsimp only [zlet]
    rw [if_neg (by rw [w32_n (by omega), w32_n (by omega)]; omega), if_pos (zin_nat (by omega) (by omega)), ix_nat (by omega), zmp_s]
    rfl
  · unfold fJ7_fill_53178_l5
    dsimp only
    rw [if_pos (Int.le_refl _)]
