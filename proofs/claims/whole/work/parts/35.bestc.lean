/-! THE BEST WORD, class: the best beginnings -/
def pV (f : Nat → Int) (t s : Nat) (S P : Int) : Prop := (∃ w : Nat, w < 2 ^ t ∧ w % 4 = s ∧ P = (w : Int) ∧ S = pS f t w ∧ ∀ w', w' < 2 ^ t → w' % 4 = s → pS f t w' < pS f t w ∨ (pS f t w' = pS f t w ∧ w ≤ w')) ∨ (2 ^ t ≤ s ∧ -100000000 - 30000 * (t : Int) ≤ S ∧ S ≤ -100000000 + 30000 * (t : Int) ∧ 0 ≤ P ∧ P < ((2 ^ t : Nat) : Int))
theorem pV_bd {f : Nat → Int} (hf : pbd f) {t s : Nat} (ht : t ≤ 11) {S P : Int} (h : pV f t s S P) : (-200000000 ≤ S ∧ S ≤ 200000000) ∧ 0 ≤ P ∧ P < 2048 := by
  have h2 : (2 : Nat) ^ t ≤ 2048 := Nat.pow_le_pow_right (n := 2) (j := 11) (by decide) ht
  rcases h with ⟨w, w1, w2, w3, w4, -⟩ | ⟨-, h3, h4, h5, h6⟩
  · have := pS_bd hf t (by omega) w; omega
  · omega
theorem pS_2 {f : Nat → Int} {t s w : Nat} (hs : s < 4) (h : w % 4 = s) : ((w / 2) % 4 = s / 2 ∧ pS f (t + 1) w = pS f t (w / 2) + pgn f t s) ∨ ((w / 2) % 4 = s / 2 + 2 ∧ pS f (t + 1) w = pS f t (w / 2) + pgn f t (s + 4)) := by
  by_cases c : w % 8 = s
  · refine Or.inl ⟨by omega, ?_⟩
    rw [pS_s, c]
  · refine Or.inr ⟨by omega, ?_⟩
    rw [pS_s, show w % 8 = s + 4 by omega]
theorem pS_a {f : Nat → Int} {t s w : Nat} (hs : s < 4) (h : w % 4 = s / 2) : pS f (t + 1) (2 * w + s % 2) = pS f t w + pgn f t s := by
  rw [pS_s, show (2 * w + s % 2) / 2 = w by omega, show (2 * w + s % 2) % 8 = s by omega]
theorem pS_b {f : Nat → Int} {t s w : Nat} (hs : s < 4) (h : w % 4 = s / 2 + 2) : pS f (t + 1) (2 * w + s % 2) = pS f t w + pgn f t (s + 4) := by
  rw [pS_s, show (2 * w + s % 2) / 2 = w by omega, show (2 * w + s % 2) % 8 = s + 4 by omega]
theorem pV_s {f : Nat → Int} (hf : pbd f) {t s : Nat} (ht : t < 11) (hs : s < 4) {A1 P1 A2 P2 a b : Int} (h1 : pV f t (s / 2) A1 P1) (h2 : pV f t (s / 2 + 2) A2 P2) (hc : ((A2 + pgn f t (s + 4) < A1 + pgn f t s ∨ (A2 + pgn f t (s + 4) = A1 + pgn f t s ∧ P1 < P2)) ∧ a = A1 + pgn f t s ∧ b = 2 * P1 + ((s % 2 : Nat) : Int)) ∨ ((A1 + pgn f t s < A2 + pgn f t (s + 4) ∨ (A2 + pgn f t (s + 4) = A1 + pgn f t s ∧ P2 ≤ P1)) ∧ a = A2 + pgn f t (s + 4) ∧ b = 2 * P2 + ((s % 2 : Nat) : Int))) : pV f (t + 1) s a b := by
  have g1 := pgn_bd hf (t := t) (by omega) s
  have g2 := pgn_bd hf (t := t) (by omega) (s + 4)
  have hp : (2 : Nat) ^ (t + 1) = 2 * 2 ^ t := Nat.pow_succ'
  unfold pV
  rw [hp]
  rcases h1 with ⟨w1, u1, u2, rfl, rfl, u5⟩ | ⟨u1, u2, u3, u4, u5⟩
  · have bd1 := pS_bd hf t (by omega) w1
    rcases h2 with ⟨w2, v1, v2, rfl, rfl, v5⟩ | ⟨v1, v2, v3, v4, v5⟩
    · rcases hc with ⟨c1, rfl, rfl⟩ | ⟨c1, rfl, rfl⟩
      · refine Or.inl ⟨2 * w1 + s % 2, by omega, by omega, by omega, (pS_a hs u2).symm, fun w' x1 x2 => ?_⟩
        rw [pS_a hs u2]
        rcases pS_2 (f := f) (t := t) hs x2 with ⟨y1, y2⟩ | ⟨y1, y2⟩
        · have := u5 (w' / 2) (by omega) y1
          rw [y2]; omega
        · have := v5 (w' / 2) (by omega) y1
          rw [y2]; omega
      · refine Or.inl ⟨2 * w2 + s % 2, by omega, by omega, by omega, (pS_b hs v2).symm, fun w' x1 x2 => ?_⟩
        rw [pS_b hs v2]
        rcases pS_2 (f := f) (t := t) hs x2 with ⟨y1, y2⟩ | ⟨y1, y2⟩
        · have := u5 (w' / 2) (by omega) y1
          rw [y2]; omega
        · have := v5 (w' / 2) (by omega) y1
          rw [y2]; omega
    · rcases hc with ⟨c1, rfl, rfl⟩ | ⟨c1, rfl, rfl⟩
      · refine Or.inl ⟨2 * w1 + s % 2, by omega, by omega, by omega, (pS_a hs u2).symm, fun w' x1 x2 => ?_⟩
        rw [pS_a hs u2]
        rcases pS_2 (f := f) (t := t) hs x2 with ⟨y1, y2⟩ | ⟨y1, y2⟩
        · have := u5 (w' / 2) (by omega) y1
          rw [y2]; omega
        · omega
      · omega
  · rcases h2 with ⟨w2, v1, v2, rfl, rfl, v5⟩ | ⟨v1, v2, v3, v4, v5⟩
    · omega
    · refine Or.inr ⟨by omega, ?_⟩
      rcases hc with ⟨c1, rfl, rfl⟩ | ⟨c1, rfl, rfl⟩ <;> omega
/-- a step of all four -/
theorem s_vstep {f : Nat → Int} (hf : pbd f) {q : zPl} {K : zMem} {t : Nat} (ht : t < 11) (hG : ∀ k, k < 8 → K (22, 0, 0) (8 * t + k) = pgn f t k) (hV : ∀ s, s < 4 → pV f t s (K (24, 0, 0) s) (K (25, 0, 0) s)) : ∃ K', fX2_bestWord_l31 q ((t : Int), K) = some (.inl (((t + 1 : Nat) : Int), K')) ∧ (∀ r, r ≠ (24, 0, 0) → r ≠ (25, 0, 0) → r ≠ (26, 0, 0) → r ≠ (27, 0, 0) → K' r = K r) ∧ ∀ s, s < 4 → pV f (t + 1) s (K' (24, 0, 0) s) (K' (25, 0, 0) s) := by
  unfold fX2_bestWord_l31
  dsimp only [zlet]
  rw [if_neg (by rw [w32_n (by omega)]; omega)]
  have hh := zlp_inv (body := fX2_bestWord_l39 q (t : Int)) (fun i st => st.1 = (i : Int) ∧ (∀ r, r ≠ (26, 0, 0) → r ≠ (27, 0, 0) → st.2 r = K r) ∧ ∀ s, s < i → pV f (t + 1) s (st.2 (26, 0, 0) s) (st.2 (27, 0, 0) s)) (fun st => (∀ r, r ≠ (26, 0, 0) → r ≠ (27, 0, 0) → st.2 r = K r) ∧ ∀ s, s < 4 → pV f (t + 1) s (st.2 (26, 0, 0) s) (st.2 (27, 0, 0) s)) 4 (N := 5000) (by decide) (s0 := (0, K)) ?_ ?_ ?_
  · obtain ⟨R, hr, r1, r2⟩ := hh
    rw [hr, zb_some]
    refine ⟨_, rfl, fun r n1 n2 n3 n4 => ?_, fun s hs => ?_⟩
    · funext k
      rw [← r1 r n3 n4]
      unfold zcp
      rw [if_neg (fun h => n2 h.1), if_neg (fun h => n1 h.1)]
    · have e1 : zcp (zcp R.2 (26, 0, 0) 0 (24, 0, 0) 0 4) (27, 0, 0) 0 (25, 0, 0) 0 4 (24, 0, 0) s = R.2 (26, 0, 0) s := by
        unfold zcp
        rw [if_neg (fun h => absurd h.1 (by decide)), if_pos ⟨rfl, by omega, by omega⟩, Nat.zero_add, Nat.sub_zero]
      have e2 : zcp (zcp R.2 (26, 0, 0) 0 (24, 0, 0) 0 4) (27, 0, 0) 0 (25, 0, 0) 0 4 (25, 0, 0) s = R.2 (27, 0, 0) s := by
        unfold zcp
        rw [if_pos ⟨rfl, by omega, by omega⟩, if_neg (fun h => absurd h.1 (by decide)), Nat.zero_add, Nat.sub_zero]
      rw [e1, e2]; exact r2 s hs
  · exact ⟨rfl, fun _ _ _ => rfl, fun s h => absurd h (Nat.not_lt_zero s)⟩
  · rintro i ⟨t1, J⟩ hi ⟨a1, a2, a3⟩
    dsimp only at a1 a2 a3
    subst a1
    have j24 : J (24, 0, 0) = K (24, 0, 0) := a2 _ (by decide) (by decide)
    have j25 : J (25, 0, 0) = K (25, 0, 0) := a2 _ (by decide) (by decide)
    have j22 : J (22, 0, 0) = K (22, 0, 0) := a2 _ (by decide) (by decide)
    obtain ⟨a, b, e, hc⟩ := s_extend (K := J) (s := i) (t := t) hi ht (fun k hk => by rw [j24]; exact (pV_bd hf (by omega) (hV k hk)).1) (fun k hk => by rw [j25]; exact (pV_bd hf (by omega) (hV k hk)).2) (fun k hk => by rw [j22, hG k hk]; exact pgn_bd hf (by omega) k)
    rw [j24, j25, j22, hG i (by omega), hG (i + 4) (by omega)] at hc
    have hv := pV_s hf ht hi (hV (i / 2) (by omega)) (hV (i / 2 + 2) (by omega)) hc
    unfold fX2_bestWord_l39
    dsimp only
    rw [if_neg (by rw [w32_n (by omega)]; omega), e, zb_some]
    refine Or.inl ⟨_, rfl, by dsimp only; omega, fun r n1 n2 => ?_, fun s hs => ?_⟩
    · dsimp only
      rw [zst_nq n2, zst_nq n1, a2 r n1 n2]
    · dsimp only
      by_cases e1 : s = i
      · subst e1
        rw [zst_nq (by decide), zst_at, zst_at]; exact hv
      · rw [zst_nk e1, zst_nk e1, zst_nk e1, zst_nk e1]; exact a3 s (by omega)
  · rintro ⟨t1, J⟩ ⟨a1, a2, a3⟩
    dsimp only at a1 a2 a3
    subst a1
    unfold fX2_bestWord_l39
    dsimp only
    rw [if_pos (by decide)]
    exact ⟨_, rfl, a2, a3⟩
/-- the best word -/
def pbest (f : Nat → Int) (r : Int) : Prop := ∃ w : Nat, r = (w : Int) ∧ w < 2048 ∧ ∀ w', w' < 2048 → pT f w' < pT f w ∨ (pT f w' = pT f w ∧ w ≤ w')
theorem pbest_one {f : Nat → Int} {a b : Int} (ha : pbest f a) (hb : pbest f b) : a = b := by
  obtain ⟨v, rfl, v1, v2⟩ := ha
  obtain ⟨w, rfl, w1, w2⟩ := hb
  have h1 := v2 w w1
  have h2 := w2 v v1
  omega
