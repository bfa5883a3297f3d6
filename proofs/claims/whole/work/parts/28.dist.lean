/-! HOW OFTEN AT MOST; distances of the versions -/
theorem pord_inj_ok : (List.range 39).all (fun a => (List.range 39).all (fun b => decide ((pord a).toNat = (pord b).toNat → a = b))) = true := by decide +kernel
theorem psq_sep {room v : Nat} (h1 : 16 ≤ room) (h2 : room ≤ 48) {i j : Nat} (hij : i < j) (hj : j < i + 13) : (psq room v i).toNat ≠ (psq room v j).toNat := by
  intro e
  have hs := pfil_size h1 h2
  have hi := Nat.mod_lt (pat room v + i) (show 0 < pfil room by omega)
  have hj' := Nat.mod_lt (pat room v + j) (show 0 < pfil room by omega)
  have h := pall2 pord_inj_ok (a := (pat room v + i) % pfil room) (b := (pat room v + j) % pfil room) (by omega) (by omega) e
  have h3 := Nat.sub_mod_eq_zero_of_mod_eq h.symm
  rw [show pat room v + j - (pat room v + i) = j - i by omega, Nat.mod_eq_of_lt (by omega)] at h3
  omega
theorem pct_win {sq : Nat → Int} {c n : Nat} (hs : ∀ i j, i < j → j < i + 13 → (sq i).toNat ≠ (sq j).toNat) : ∀ k, k ≤ 13 → pct sq (n + k) c = pct sq n c ∨ (pct sq (n + k) c = pct sq n c + 1 ∧ ∃ i, n ≤ i ∧ i < n + k ∧ c = (sq i).toNat)
  | 0, _ => Or.inl rfl
  | k + 1, hk => by
    rw [← Nat.add_assoc, pct]
    rcases pct_win (n := n) hs k (by omega) with h | ⟨h, i, i1, i2, i3⟩
    · by_cases hc : c = (sq (n + k)).toNat
      · rw [if_pos hc, h]; exact Or.inr ⟨rfl, n + k, by omega, by omega, hc⟩
      · rw [if_neg hc, h]; exact Or.inl (by omega)
    · rw [if_neg (fun hc => hs i (n + k) i2 (by omega) (by rw [← i3, ← hc])), h]
      exact Or.inr ⟨by omega, i, i1, by omega, i3⟩
theorem pct_mono (sq : Nat → Int) (c n : Nat) : ∀ d, pct sq n c ≤ pct sq (n + d) c
  | 0 => Int.le_refl _
  | d + 1 => by
    have := pct_mono sq c n d
    rw [← Nat.add_assoc, pct]; split <;> omega
theorem pct_le5 {room v : Nat} (h1 : 16 ≤ room) (h2 : room ≤ 48) (c : Nat) {len : Nat} (hl : len ≤ 60) : pct (psq room v) len c ≤ 5 := by
  have w : ∀ n, pct (psq room v) (n + 13) c ≤ pct (psq room v) n c + 1 := fun n => by
    rcases pct_win (sq := psq room v) (c := c) (n := n) (fun i j a b => psq_sep (room := room) (v := v) h1 h2 a b) 13 (Nat.le_refl _) with h | ⟨h, -⟩
    · rw [h]; omega
    · rw [h]; exact Int.le_refl _
  have a0 := pct_mono (psq room v) c len (65 - len)
  rw [show len + (65 - len) = 65 by omega] at a0
  have a1 : pct (psq room v) 65 c ≤ pct (psq room v) 52 c + 1 := w 52
  have a2 : pct (psq room v) 52 c ≤ pct (psq room v) 39 c + 1 := w 39
  have a3 : pct (psq room v) 39 c ≤ pct (psq room v) 26 c + 1 := w 26
  have a4 : pct (psq room v) 26 c ≤ pct (psq room v) 13 c + 1 := w 13
  have a5 : pct (psq room v) 13 c ≤ pct (psq room v) 0 c + 1 := w 0
  have a6 : pct (psq room v) 0 c = 0 := rfl
  omega
theorem pof1_le {room : Nat} (h1 : 16 ≤ room) (h2 : room ≤ 48) (set c v : Nat) {len : Nat} (hl : len ≤ 60) : 0 ≤ pof1 room set len c v ∧ pof1 room set len c v ≤ 5 := by
  refine ⟨(pof1_rng room set len c v).1, ?_⟩
  unfold pof1; split
  · exact pct_le5 h1 h2 c hl
  · omega
theorem pof_4 (room set len c : Nat) : pof room set len c = pof1 room set len c 0 + pof1 room set len c 1 + pof1 room set len c 2 + pof1 room set len c 3 := by
  show 0 + pof1 room set len c 0 + pof1 room set len c 1 + pof1 room set len c 2 + pof1 room set len c 3 = _
  omega
theorem pof_rng {room : Nat} (h1 : 16 ≤ room) (h2 : room ≤ 48) (set c : Nat) {len : Nat} (hl : len ≤ 60) : 0 ≤ pof room set len c ∧ pof room set len c ≤ 20 := by
  have a0 := pof1_le h1 h2 set c 0 hl
  have a1 := pof1_le h1 h2 set c 1 hl
  have a2 := pof1_le h1 h2 set c 2 hl
  have a3 := pof1_le h1 h2 set c 3 hl
  rw [pof_4]; omega
theorem pof1_mono (room set c v : Nat) {a b : Nat} (h : a ≤ b) : pof1 room set a c v ≤ pof1 room set b c v := by
  unfold pof1; split
  · have := pct_mono (psq room v) c a (b - a)
    rw [show a + (b - a) = b by omega] at this; exact this
  · exact Int.le_refl _
theorem pof_mono (room set c : Nat) {a b : Nat} (h : a ≤ b) : pof room set a c ≤ pof room set b c := by
  have a0 := pof1_mono room set c 0 h
  have a1 := pof1_mono room set c 1 h
  have a2 := pof1_mono room set c 2 h
  have a3 := pof1_mono room set c 3 h
  rw [pof_4, pof_4]; omega
/-- the same as a natural number -/
def gof (room set len c : Nat) : Nat := (pof room set len c).toNat
theorem gof_is {room : Nat} (h1 : 16 ≤ room) (h2 : room ≤ 48) (set c : Nat) {len : Nat} (hl : len ≤ 60) : pof room set len c = (gof room set len c : Int) ∧ gof room set len c < 64 := by
  have h := pof_rng h1 h2 set c hl
  unfold gof; omega
theorem gof_mono (room set c : Nat) {a b : Nat} (h : a ≤ b) : gof room set a c ≤ gof room set b c := by
  have := pof_mono room set c h
  unfold gof; omega
/-- least distance of whole words -/
def pda (room set len : Nat) : Int := pls (pWw (fun c => (gof room set len c : Int))) 1000000 255
theorem pwt_mono {f g : Nat → Int} (h : ∀ c, c < 39 → f c ≤ g c) (b : Nat) : pwt f b ≤ pwt g b := by
  have key : ∀ n, n ≤ 39 → zsm (fun c => if b / 2 ^ c % 2 = 1 then f c else 0) n ≤ zsm (fun c => if b / 2 ^ c % 2 = 1 then g c else 0) n := by
    intro n
    induction n with
    | zero => intro _; exact Int.le_refl _
    | succ n ih =>
      intro hn
      have h1 := ih (by omega)
      have h2 := h n (by omega)
      rw [zsm, zsm]
      by_cases hb : b / 2 ^ n % 2 = 1
      · rw [if_pos hb, if_pos hb]; omega
      · rw [if_neg hb, if_neg hb]; omega
  exact key 39 (Nat.le_refl _)
theorem pls_mono {w w' : Nat → Int} {a : Int} : ∀ n, (∀ k, k < n → w k ≤ w' k) → pls w a n ≤ pls w' a n
  | 0, _ => Int.le_refl _
  | n + 1, h => by
    have h1 := pls_mono (a := a) n (fun k hk => h k (by omega))
    have h2 := h n (by omega)
    rw [pls, pls]; split <;> split <;> omega
theorem pda_mono (room set : Nat) {a b : Nat} (h : a ≤ b) : pda room set a ≤ pda room set b :=
  pls_mono 255 fun k _ => pwt_mono (fun c _ => by have := gof_mono room set c h; omega) _
theorem pda_rng {room : Nat} (h1 : 16 ≤ room) (h2 : room ≤ 48) (set : Nat) {len : Nat} (hl : len ≤ 60) : 0 ≤ pda room set len ∧ pda room set len ≤ 1000000 :=
  pls_rng (by decide) 255 fun k _ => (pwt_rng (fun c _ => (gof_is h1 h2 set c hl).2) _).1
theorem pWw_bd {g : Nat → Nat} (hg : ∀ c, c < 39 → g c < 64) (k : Nat) : pWw (fun c => (g c : Int)) k ≤ 1000000 ∧ pWw (fun c => (g c : Int)) k ≤ 1048576 := by
  have := (pwt_rng hg (pcode (pww (k + 1)) ^^^ pcode (pww 0))).2
  unfold pWw; omega
theorem pWa_bd {g : Nat → Nat} (hg : ∀ c, c < 39 → g c < 64) (k : Nat) : pWa (fun c => (g c : Int)) k ≤ 1000000 ∧ pWa (fun c => (g c : Int)) k ≤ 1048576 := by
  have := (pwt_rng hg (pcode (k + 1))).2
  unfold pWa; omega
theorem s_weighVersions {I : zMem} (hR : iRing I) {room set len : Nat} (h1 : 16 ≤ room) (h2 : room ≤ 48) (hroom : I (7, 1, 0) 4 = room) (hs : set < 16) (hl : len ≤ 60) : ∃ J, fX11_weighVersions (set : Int) (len : Int) I = some J ∧ sC I J ∧ iWt (gof room set len) J := by
  obtain ⟨J, j1, j2, j3⟩ := s_countVersions hR h1 h2 hroom hs hl
  obtain ⟨K, k1, k2, k3, k4⟩ := s_take (I := J) (q := (13, 0, 0)) (by decide) (by decide) (g := gof room set len) (fun c hc => by
    have h := gof_is h1 h2 set c hl
    rw [j3 c hc]; exact h)
  unfold fX11_weighVersions
  rw [j1, zb_some, k1, zb_some]
  exact ⟨K, rfl, fun q hq => by rw [k2 q (kc_ne hq rfl) (kc_ne hq rfl), j2 q (kc_ne hq rfl) (kc_ne hq rfl)], k4⟩
theorem s_leastWc {I : zMem} {g : Nat → Nat} (hg : ∀ c, c < 39 → g c < 64) (hC : iCode I) (hW : iWt g I) : fX10_least (17, 0, 0) 256 I = some (pls (pWw (fun c => (g c : Int))) 1000000 255) :=
  s_least hg hW (q := (17, 0, 0)) (n := 256) (by decide) (by decide) (t := fun n => pcode (pww n) ^^^ pcode (pww 0)) (fun k k1 k2 => ⟨hC.2 k k1 k2, pxor_lt _ _⟩)
theorem s_leastAc {I : zMem} {g : Nat → Nat} (hg : ∀ c, c < 39 → g c < 64) (hC : iCode I) (hW : iWt g I) : fX10_least (16, 0, 0) 2048 I = some (pls (pWa (fun c => (g c : Int))) 1000000 2047) :=
  s_least hg hW (q := (16, 0, 0)) (n := 2048) (by decide) (by decide) (t := pcode) (fun k k1 k2 => ⟨hC.1 k k2, pcode_lt _⟩)
theorem s_wholeApart {I : zMem} (hC : iCode I) (hR : iRing I) {room set len : Nat} (h1 : 16 ≤ room) (h2 : room ≤ 48) (hroom : I (7, 1, 0) 4 = room) (hs : set < 16) (hl : len ≤ 60) : ∃ J, fX11_wholeApart (set : Int) (len : Int) I = some (pda room set len, J) ∧ sC I J := by
  obtain ⟨J, j1, j2, j3⟩ := s_weighVersions hR h1 h2 hroom hs hl
  unfold fX11_wholeApart
  rw [j1, zb_some, s_leastWc (fun c _ => (gof_is h1 h2 set c hl).2) (hC.keep j2) j3, zb_some]
  exact ⟨J, rfl, j2⟩
/-- the model's -/
theorem m_laysOften {m : zMem} (hR : iRingM m) {room set len : Nat} (h1 : 16 ≤ room) (h2 : room ≤ 48) (hroom : m (51, 0, 0) 4 = room) (hs : set < 16) (hl : len ≤ 60) : ∃ J, fX12_laysOften (set : Int) (len : Int) m = some J ∧ sM m J ∧ iOf (gof room set len) J := by
  obtain ⟨J, j1, j2, j3⟩ := s_laysOften hR h1 h2 hroom hs hl
  exact ⟨J, j1, fun q hq => j2 q (km_ne hq rfl) (km_ne hq rfl), fun c hc => by rw [j3 c hc]; exact (gof_is h1 h2 set c hl).1⟩
theorem m_leastW {m : zMem} (hC : iCodeM m) {g : Nat → Nat} (hg : ∀ c, c < 39 → g c < 64) (hO : iOf g m) : fX12_leastApart 1 m = some (pls (pWw (fun c => (g c : Int))) 1000000 255) := by
  rw [s_leastW hC hg hO]
  exact congrArg some (pls_init (fun k => (pWw_bd hg k).symm) 254)
theorem m_leastA {m : zMem} (hC : iCodeM m) {g : Nat → Nat} (hg : ∀ c, c < 39 → g c < 64) (hO : iOf g m) : fX12_leastApart 0 m = some (pls (pWa (fun c => (g c : Int))) 1000000 2047) := by
  rw [s_leastA hC hg hO]
  exact congrArg some (pls_init (fun k => (pWa_bd hg k).symm) 2046)
