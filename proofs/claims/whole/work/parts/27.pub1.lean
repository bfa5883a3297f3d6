/-! WHAT STAYS, and the public methods of the code -/
def kcb (r L : Nat) : Bool := match r with
  | 12 => true
  | 16 => true
  | 17 => true
  | 18 => true
  | 19 => true
  | 30 => true
  | 31 => true
  | 7 => !(L == 0)
  | 8 => !(L == 0)
  | 9 => !(L == 0)
  | 10 => !(L == 0)
  | 11 => !(L == 0)
  | 32 => !(L == 0)
  | 33 => !(L == 0)
  | 34 => !(L == 0)
  | 35 => !(L == 0)
  | 36 => !(L == 0)
  | 37 => !(L == 0)
  | 38 => !(L == 0)
  | 39 => !(L == 0)
  | 40 => !(L == 0)
  | 41 => !(L == 0)
  | _ => false
def kmb (r : Nat) : Bool := match r with
  | 51 => true
  | 53 => true
  | 54 => true
  | 55 => true
  | 66 => true
  | 67 => true
  | _ => false
/-- all that isn't scratch is as it was -/
def sC (c c' : zMem) : Prop := ∀ q : zPl, kcb q.1 q.2.1 = true → c' q = c q
def sM (m m' : zMem) : Prop := ∀ q : zPl, kmb q.1 = true → m' q = m q
theorem sC.rf (c : zMem) : sC c c := fun _ _ => rfl
theorem sM.rf (m : zMem) : sM m m := fun _ _ => rfl
theorem sC.tr {a b c : zMem} (h1 : sC a b) (h2 : sC b c) : sC a c := fun q hq => (h2 q hq).trans (h1 q hq)
theorem sM.tr {a b c : zMem} (h1 : sM a b) (h2 : sM b c) : sM a c := fun q hq => (h2 q hq).trans (h1 q hq)
theorem kc_ne {q q0 : zPl} (h : kcb q.1 q.2.1 = true) (h0 : kcb q0.1 q0.2.1 = false) : q ≠ q0 := fun e => by rw [e, h0] at h; cases h
theorem km_ne {q q0 : zPl} (h : kmb q.1 = true) (h0 : kmb q0.1 = false) : q ≠ q0 := fun e => by rw [e, h0] at h; cases h
theorem sM_th (m : zMem) (z : Int) : sM m (zst m (50, 0, 0) 0 z) := fun q hq => zst_nq (km_ne hq rfl)
abbrev i32 (a : Int) : Prop := -2147483648 ≤ a ∧ a < 2147483648
theorem vz {c : Prop} [Decidable c] {α : Type} {X Y : Option α} : zb (some (if c then (1 : Int) else 0)) (fun r => if w32 r = 0 then X else Y) = if c then Y else X := by
  by_cases h : c
  · rw [if_pos h, if_pos h, zb_some, if_neg (by decide)]
  · rw [if_neg h, if_neg h, zb_some, if_pos (by decide)]
theorem v_isSn {a : Int} (h : i32 a) : fX11_isSn a = some (if 0 ≤ a ∧ a ≤ 7 then 1 else 0) := by
  unfold fX11_isSn fX11_isSn_b14
  rw [w32_id h.1 h.2]
  by_cases h1 : a < 0
  · rw [if_pos h1, if_neg (by omega)]
  · rw [if_neg h1]
    by_cases h2 : 8 ≤ a
    · rw [if_pos h2, if_neg (by omega)]
    · rw [if_neg h2, if_pos (by omega)]
theorem v_isWord {a : Int} (h : i32 a) : fX11_isWord a = some (if 0 ≤ a ∧ a ≤ 2047 then 1 else 0) := by
  unfold fX11_isWord fX11_isWord_b15
  rw [w32_id h.1 h.2]
  by_cases h1 : a < 0
  · rw [if_pos h1, if_neg (by omega)]
  · rw [if_neg h1]
    by_cases h2 : 2048 ≤ a
    · rw [if_pos h2, if_neg (by omega)]
    · rw [if_neg h2, if_pos (by omega)]
theorem v_isVersion {a : Int} (h : i32 a) : fX11_isVersion a = some (if 0 ≤ a ∧ a ≤ 3 then 1 else 0) := by
  unfold fX11_isVersion fX11_isVersion_b13
  rw [w32_id h.1 h.2]
  by_cases h1 : a < 0
  · rw [if_pos h1, if_neg (by omega)]
  · rw [if_neg h1]
    by_cases h2 : 4 ≤ a
    · rw [if_pos h2, if_neg (by omega)]
    · rw [if_neg h2, if_pos (by omega)]
theorem v_isTray {a : Int} (h : i32 a) : fX11_isTray a = some (if 0 ≤ a ∧ a ≤ 3 then 1 else 0) := by
  unfold fX11_isTray fX11_isTray_b13
  rw [w32_id h.1 h.2]
  by_cases h1 : a < 0
  · rw [if_pos h1, if_neg (by omega)]
  · rw [if_neg h1]
    by_cases h2 : 4 ≤ a
    · rw [if_pos h2, if_neg (by omega)]
    · rw [if_neg h2, if_pos (by omega)]
theorem v_isVersionSet {a : Int} (h : i32 a) : fX11_isVersionSet a = some (if 0 ≤ a ∧ a ≤ 15 then 1 else 0) := by
  unfold fX11_isVersionSet fX11_isVersionSet_b14
  rw [w32_id h.1 h.2]
  by_cases h1 : a < 0
  · rw [if_pos h1, if_neg (by omega)]
  · rw [if_neg h1]
    by_cases h2 : 16 ≤ a
    · rw [if_pos h2, if_neg (by omega)]
    · rw [if_neg h2, if_pos (by omega)]
theorem v_isLength {a : Int} (h : i32 a) : fX11_isLength a = some (if 1 ≤ a ∧ a ≤ 60 then 1 else 0) := by
  unfold fX11_isLength fX11_isLength_b15
  rw [w32_id h.1 h.2]
  by_cases h1 : a < 1
  · rw [if_pos h1, if_neg (by omega)]
  · rw [if_neg h1]
    by_cases h2 : 60 < a
    · rw [if_pos h2, if_neg (by omega)]
    · rw [if_neg h2, if_pos (by omega)]
theorem v_isDistance {a : Int} (h : i32 a) : fX11_isDistance a = some (if 1 ≤ a ∧ a ≤ 60 then 1 else 0) := by
  unfold fX11_isDistance fX11_isDistance_b15
  rw [w32_id h.1 h.2]
  by_cases h1 : a < 1
  · rw [if_pos h1, if_neg (by omega)]
  · rw [if_neg h1]
    by_cases h2 : 60 < a
    · rw [if_pos h2, if_neg (by omega)]
    · rw [if_neg h2, if_pos (by omega)]
theorem v_within {a lo hi : Int} (h : i32 a) (hl : i32 lo) (hh : i32 hi) : fX12_within a lo hi = some (if lo ≤ a ∧ a ≤ hi then 1 else 0) := by
  unfold fX12_within fX12_within_b17
  rw [w64_id (z := a) (by omega) (by omega), w64_id (z := lo) (by omega) (by omega), w64_id (z := hi) (by omega) (by omega)]
  by_cases h1 : a < lo
  · rw [if_pos h1, if_neg (by omega)]
  · rw [if_neg h1]
    by_cases h2 : hi < a
    · rw [if_pos h2, if_neg (by omega)]
    · rw [if_neg h2, if_pos (by omega)]
theorem vbo {c : Prop} [Decidable c] : zb (some (if c then (1 : Int) else 0)) (fun r1 => if zbo r1 then some r1 else none) = some (if c then 1 else 0) := by
  by_cases h : c
  · rw [if_pos h, zb_some, if_pos (Or.inr rfl)]
  · rw [if_neg h, zb_some, if_pos (Or.inl rfl)]
theorem m_isWord {a : Int} (h : i32 a) : fX12_isWord a = some (if 0 ≤ a ∧ a ≤ 2047 then 1 else 0) := by
  unfold fX12_isWord; rw [w32_id h.1 h.2, v_within h (by decide) (by decide), vbo]
theorem m_isLength {a : Int} (h : i32 a) : fX12_isLength a = some (if 1 ≤ a ∧ a ≤ 60 then 1 else 0) := by
  unfold fX12_isLength; rw [w32_id h.1 h.2, v_within h (by decide) (by decide), vbo]
theorem m_isSet {a : Int} (h : i32 a) : fX12_isSet a = some (if 0 ≤ a ∧ a ≤ 15 then 1 else 0) := by
  unfold fX12_isSet; rw [w32_id h.1 h.2, v_within h (by decide) (by decide), vbo]
/-- what the code's methods need -/
def RC (c m : zMem) : Prop := iCode c ∧ iRing c ∧ iCodeM m ∧ iRingM m ∧ ∃ room : Nat, 16 ≤ room ∧ room ≤ 48 ∧ c (7, 1, 0) 4 = room ∧ m (51, 0, 0) 4 = room
theorem iRing.keep {c c' : zMem} (h : iRing c) (s : sC c c') : iRing c' := ⟨fun k hk => by rw [s _ rfl]; exact h.1 k hk, fun k hk => by rw [s _ rfl]; exact h.2 k hk⟩
theorem iCode.keep {c c' : zMem} (h : iCode c) (s : sC c c') : iCode c' := ⟨fun k hk => by rw [s _ rfl]; exact h.1 k hk, fun k h1 hk => by rw [s _ rfl]; exact h.2 k h1 hk⟩
theorem iRingM.keep {m m' : zMem} (h : iRingM m) (s : sM m m') : iRingM m' := fun k hk => by rw [s _ rfl]; exact h k hk
theorem iCodeM.keep {m m' : zMem} (h : iCodeM m) (s : sM m m') : iCodeM m' := fun k hk => by rw [s _ rfl]; exact h k hk
theorem nat_of {a : Int} (h : 0 ≤ a) : ∃ n : Nat, a = (n : Int) := ⟨a.toNat, by omega⟩
theorem P_word {c m : zMem} {a b : Int} (ha : i32 a) (hb : i32 b) : ∃ r m', fX11_word a b = some r ∧ fX12_word a b m = some (r, m') ∧ sM m m' := by
  unfold fX11_word fX12_word fX12_word_b37
  dsimp only [zlet]
  rw [v_isSn ha, vz, w32_id ha.1 ha.2, w32_id hb.1 hb.2, v_within ha (by decide) (by decide), vz, v_within hb (by decide) (by decide), vz]
  by_cases h1 : 0 ≤ a ∧ a ≤ 7
  · rw [if_pos h1, if_pos h1]
    by_cases h2 : 0 ≤ b ∧ b ≤ 31
    · rw [if_neg (show ¬ b < 0 by omega), if_pos h2.2, if_pos h2]
      obtain ⟨s, rfl⟩ := nat_of h1.1
      obtain ⟨l, rfl⟩ := nat_of h2.1
      have e : ior (ishl (s : Int) 5) (l : Int) = ((s * 32 + l : Nat) : Int) := by
        have h := por (s := s) (l := l) (by omega) (by omega)
        have h2 : s * 32 ||| l = s * 32 + l := by
          have : (s * 32 ||| l) * 8 = (s * 32 + l) * 8 := by
            rw [← h, show s * 256 = (s * 32) * 2 ^ 3 by omega, show l * 8 = l * 2 ^ 3 by omega, ← Nat.shiftLeft_eq, ← Nat.shiftLeft_eq, ← Nat.shiftLeft_or_distrib, Nat.shiftLeft_eq]
          omega
        rw [show (5 : Int) = ((5 : Nat) : Int) from rfl, ishl_nat (by decide), show s * 2 ^ 5 = s * 32 from rfl, ior_nat (by omega) (by omega), h2]
      rw [e, s_wholeWord (by omega), zb_some, s_wordOf (by omega) (by omega), zb_some]
      exact ⟨_, _, rfl, rfl, sM_th m 0⟩
    · rw [if_neg h2]
      by_cases h3 : b < 0
      · rw [if_pos h3]; exact ⟨_, _, rfl, rfl, sM_th m 0⟩
      · rw [if_neg h3, if_neg (by omega)]; exact ⟨_, _, rfl, rfl, sM_th m 0⟩
  · rw [if_neg h1, if_neg h1]; exact ⟨_, _, rfl, rfl, sM_th m 0⟩
theorem P_whole {m : zMem} {a : Int} (ha : i32 a) : ∃ r m', fX11_whole a = some r ∧ fX12_whole a m = some (r, m') ∧ sM m m' := by
  unfold fX11_whole fX12_whole
  dsimp only [zlet]
  rw [v_isWord ha, vz, m_isWord ha, vz]
  by_cases h1 : 0 ≤ a ∧ a ≤ 2047
  · rw [if_pos h1, if_pos h1]
    obtain ⟨w, rfl⟩ := nat_of h1.1
    rw [s_isWhole (by omega), vz, s_isWholeM (by omega), vz]
    by_cases h2 : prest w = 5
    · rw [if_pos h2, if_pos h2]; exact ⟨_, _, rfl, rfl, sM_th m 0⟩
    · rw [if_neg h2, if_neg h2]; exact ⟨_, _, rfl, rfl, sM_th m 0⟩
  · rw [if_neg h1, if_neg h1]; exact ⟨_, _, rfl, rfl, sM_th m 0⟩
theorem P_bits {c m : zMem} (h : RC c m) {a : Int} (ha : i32 a) : ∃ r m', fX11_bits a c = some r ∧ fX12_bits a m = some (r, m') ∧ sM m m' := by
  unfold fX11_bits fX12_bits
  dsimp only [zlet]
  rw [v_isWord ha, vz, m_isWord ha, vz]
  by_cases h1 : 0 ≤ a ∧ a ≤ 2047
  · rw [if_pos h1, if_pos h1]
    obtain ⟨w, rfl⟩ := nat_of h1.1
    rw [if_pos (zin_nat (by omega) (by decide)), if_pos (zin_nat (by omega) (by decide)), ix_nat (by omega), h.1.1 w (by omega), zst_nq (by decide), h.2.2.1 w (by omega)]
    exact ⟨_, _, rfl, rfl, sM_th m 0⟩
  · rw [if_neg h1, if_neg h1]; exact ⟨_, _, rfl, rfl, sM_th m 0⟩
theorem P_place {c m : zMem} (h : RC c m) {a : Int} (ha : i32 a) : ∃ r m', fX11_place a c = some r ∧ fX12_place a m = some (r, m') ∧ sM m m' := by
  obtain ⟨-, -, -, hR, room, r1, r2, e1, e2⟩ := h
  have w0 : w32 a = a := w32_id ha.1 ha.2
  have w1 : w32 (c (7, 1, 0) 4) = (room : Int) := by rw [e1]; exact w32_n (by omega)
  have w2 : w32 ((zst m (50, 0, 0) 0 0 (51, 0, 0) 4) - 1) = (room : Int) - 1 := by rw [zst_nq (by decide), e2]; exact w32_id (by omega) (by omega)
  unfold fX11_place fX12_place
  dsimp only [zlet]
  simp only [w0, w1, w2]
  rw [v_within ha (by decide) (by omega), vz]
  by_cases h1 : 0 ≤ a ∧ a ≤ (room : Int) - 1
  · obtain ⟨w, rfl⟩ := nat_of h1.1
    rw [if_neg (by omega), if_pos (by omega), if_pos h1, s_bitAtPlace (by omega), zb_some, if_pos (zin_nat (by omega) (by decide)), ix_nat (by omega), zst_nq (by decide), hR w (by omega)]
    exact ⟨_, _, rfl, rfl, sM_th m 0⟩
  · rw [if_neg h1]
    by_cases h3 : a < 0
    · rw [if_pos h3]; exact ⟨_, _, rfl, rfl, sM_th m 0⟩
    · rw [if_neg h3, if_neg (by omega)]; exact ⟨_, _, rfl, rfl, sM_th m 0⟩
theorem P_sent {c m : zMem} (h : RC c m) {a b d : Int} (ha : i32 a) (hb : i32 b) (hd : i32 d) : ∃ r c' m', fX11_sent a b d c = some (r, c') ∧ fX12_sent a b d m = some (r, m') ∧ sC c c' ∧ sM m m' := by
  obtain ⟨-, hC, -, hR, room, r1, r2, e1, e2⟩ := h
  have w0 : w32 a = a := w32_id ha.1 ha.2
  have w1 : w32 b = b := w32_id hb.1 hb.2
  have w2 : w32 d = d := w32_id hd.1 hd.2
  unfold fX11_sent fX12_sent
  dsimp only [zlet]
  simp only [w0, w1, w2]
  rw [v_isVersion ha, vz, v_within ha (by decide) (by decide), vz]
  by_cases h1 : 0 ≤ a ∧ a ≤ 3
  · rw [if_pos h1, if_pos h1, v_isLength hb, vz, m_isLength hb, vz]
    by_cases h2 : 1 ≤ b ∧ b ≤ 60
    · rw [if_pos h2, if_pos h2]
      obtain ⟨v, rfl⟩ := nat_of h1.1
      obtain ⟨l, rfl⟩ := nat_of (show 0 ≤ b by omega)
      by_cases h3 : 0 ≤ d
      · obtain ⟨i, rfl⟩ := nat_of h3
        obtain ⟨J, j1, j2, j3⟩ := s_laysSending (m := zst m (50, 0, 0) 0 0) (hR.keep (sM_th m 0)) r1 r2 (by rw [zst_nq (by decide)]; exact e2) (v := v) (len := l) (by omega) (by omega)
        have sJ : sM m J := fun q hq => by rw [j2 q (km_ne hq rfl), zst_nq (km_ne hq rfl)]
        rw [if_pos h3, if_pos h3, j1, zb_some]
        by_cases h4 : i < l
        · rw [if_pos (by omega), e1, s_lay hC r1 r2 (by omega) (by omega), zb_some, if_pos (zin_nat (by omega) (by decide)), ix_nat (by omega), zmp_in h4, if_neg (by omega), if_pos (zin_nat (by omega) (by decide)), j3 i h4]
          exact ⟨_, _, _, rfl, rfl, fun q hq => zmp_ne (kc_ne hq rfl), sJ⟩
        · rw [if_neg (by omega), if_pos (by omega)]
          exact ⟨_, _, _, rfl, rfl, sC.rf c, sJ⟩
      · rw [if_neg h3, if_neg h3]; exact ⟨_, _, _, rfl, rfl, sC.rf c, sM_th m 0⟩
    · rw [if_neg h2, if_neg h2]; exact ⟨_, _, _, rfl, rfl, sC.rf c, sM_th m 0⟩
  · rw [if_neg h1, if_neg h1]; exact ⟨_, _, _, rfl, rfl, sC.rf c, sM_th m 0⟩
