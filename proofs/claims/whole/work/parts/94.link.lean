/-! a link's places, as they are between calls -/
abbrev lkQ (L : Nat) (q : zPl) : Prop := q.2.1 = L ∧ ((zrk q.1 = 1 ∧ q.2.2 = 0) ∨ (zrk q.1 = 2 ∧ q.2.2 < 8))
theorem zrk1 : ∀ r, zrk r = 1 → r ∈ [7, 8, 9, 32, 33, 34, 35, 36, 38, 39, 40] := fun r h => by
  unfold zrk at h
  split at h <;> first | decide | omega
theorem zrk2 : ∀ r, zrk r = 2 → r ∈ [10, 11, 37, 41] := fun r h => by
  unfold zrk at h
  split at h <;> first | decide | omega
/-- the world with the link L, as it is between calls -/
def zLn (X : zX) (L : Nat) : zX := (X.1, X.2.1, zad X, (fun q => lkQ L q ∨ zDom X q), (fun q k => if lkQ L q then zPs q k else zP X q k), ztc X, ztv X, zA X, zQ X, zk X + 43, zn X + 1059, zz X + 43)
theorem zD_nw {X : zX} {q a : zPl} {w : Nat} : zDom (znw X q w) a ↔ a = q ∨ zDom X a := Iff.rfl
theorem zD_pt {X : zX} {q q2 a : zPl} {k : Nat} : zDom (zpt X q k q2) a ↔ zDom X a := Iff.rfl
theorem zln_dom {X : zX} {L : Nat} (q : zPl) : zDom (zLn X L) q ↔ zDom (wX4_init L (znw X (7, L, 0) 9)) q := by
  show lkQ L q ∨ zDom X q ↔ _
  simp only [wX4_init, wX7_init, wX5_init, wX8_init, wX3_init, zD_nw, zD_pt]
  constructor
  · rintro (⟨h1, h2⟩ | h)
    · obtain ⟨r, L', p⟩ := q
      simp only at h1 h2
      subst h1
      rcases h2 with ⟨h2, rfl⟩ | ⟨h2, h3⟩
      · have h4 := zrk1 _ h2
        simp only [List.mem_cons, List.not_mem_nil, or_false] at h4
        rcases h4 with rfl | rfl | rfl | rfl | rfl | rfl | rfl | rfl | rfl | rfl | rfl <;> simp
      · have h4 := zrk2 _ h2
        simp only [List.mem_cons, List.not_mem_nil, or_false] at h4
        have h5 : p = 0 ∨ p = 1 ∨ p = 2 ∨ p = 3 ∨ p = 4 ∨ p = 5 ∨ p = 6 ∨ p = 7 := by omega
        rcases h4 with rfl | rfl | rfl | rfl <;> rcases h5 with rfl | rfl | rfl | rfl | rfl | rfl | rfl | rfl <;> simp
    · simp [h]
  · intro h
    by_cases hx : zDom X q
    · exact Or.inr hx
    · left
      simp only [hx, or_false] at h
      repeat' (rcases h with rfl | h)
      all_goals first | exact ⟨rfl, Or.inl ⟨rfl, rfl⟩⟩ | exact ⟨rfl, Or.inr ⟨rfl, Nat.le_of_ble_eq_true rfl⟩⟩ | (subst h; first | exact ⟨rfl, Or.inl ⟨rfl, rfl⟩⟩ | exact ⟨rfl, Or.inr ⟨rfl, Nat.le_of_ble_eq_true rfl⟩⟩)

theorem zln_out {X : zX} {L : Nat} {q : zPl} (hq : ¬ lkQ L q) (j : Nat) : zP (wX4_init L (znw X (7, L, 0) 9)) q j = zP X q j := by
  have h1 : ∀ r, zrk r = 1 → q ≠ (r, L, 0) := fun r hr e => hq (by rw [e]; exact ⟨rfl, Or.inl ⟨hr, rfl⟩⟩)
  have h2 : ∀ r p, zrk r = 2 → p < 8 → q ≠ (r, L, p) := fun r p hr hp e => hq (by rw [e]; exact ⟨rfl, Or.inr ⟨hr, hp⟩⟩)
  have a7 := h1 7 rfl
  have a8 := h1 8 rfl
  have a9 := h1 9 rfl
  have a32 := h1 32 rfl
  have a33 := h1 33 rfl
  have a34 := h1 34 rfl
  have a35 := h1 35 rfl
  have a36 := h1 36 rfl
  have a38 := h1 38 rfl
  have a39 := h1 39 rfl
  have a40 := h1 40 rfl
  have b10 : ∀ p, p < 8 → q ≠ (10, L, p) := fun p => h2 10 p rfl
  have b11 : ∀ p, p < 8 → q ≠ (11, L, p) := fun p => h2 11 p rfl
  have b37 : ∀ p, p < 8 → q ≠ (37, L, p) := fun p => h2 37 p rfl
  have b41 : ∀ p, p < 8 → q ≠ (41, L, p) := fun p => h2 41 p rfl
  simp [wX4_init, wX7_init, wX5_init, wX8_init, wX3_init, zP_pt, zP_nw, a7, a8, a9, a32, a33, a34, a35, a36, a38, a39, a40, b10, b11, b37, b41]
theorem zln_in {X : zX} {L : Nat} {q : zPl} (hq : lkQ L q) (j : Nat) (hj : j < (zkd q.1).2) : zPs q j = zP (wX4_init L (znw X (7, L, 0) 9)) q j := by
  obtain ⟨r, L', p⟩ := q
  obtain ⟨h1, h2⟩ := hq
  simp only at h1 h2
  subst h1
  rcases h2 with ⟨h2, rfl⟩ | ⟨h2, h3⟩
  · have h4 := zrk1 _ h2
    simp only [List.mem_cons, List.not_mem_nil, or_false] at h4
    rcases h4 with rfl | rfl | rfl | rfl | rfl | rfl | rfl | rfl | rfl | rfl | rfl
    · rcases (show j = 0 ∨ j = 1 ∨ j = 2 ∨ j = 3 ∨ j = 4 ∨ j = 5 ∨ j = 6 ∨ j = 7 ∨ j = 8 from (by have h : j < 9 := hj; omega)) with rfl | rfl | rfl | rfl | rfl | rfl | rfl | rfl | rfl <;> simp [wX4_init, wX7_init, wX5_init, wX8_init, wX3_init, zP_pt, zP_nw, zPs]
    · rcases (show j = 0 ∨ j = 1 ∨ j = 2 ∨ j = 3 ∨ j = 4 ∨ j = 5 ∨ j = 6 ∨ j = 7 ∨ j = 8 ∨ j = 9 ∨ j = 10 from (by have h : j < 11 := hj; omega)) with rfl | rfl | rfl | rfl | rfl | rfl | rfl | rfl | rfl | rfl | rfl <;> simp [wX4_init, wX7_init, wX5_init, wX8_init, wX3_init, zP_pt, zP_nw, zPs]
    · rcases (show j = 0 ∨ j = 1 ∨ j = 2 ∨ j = 3 ∨ j = 4 ∨ j = 5 ∨ j = 6 ∨ j = 7 ∨ j = 8 ∨ j = 9 ∨ j = 10 from (by have h : j < 11 := hj; omega)) with rfl | rfl | rfl | rfl | rfl | rfl | rfl | rfl | rfl | rfl | rfl <;> simp [wX4_init, wX7_init, wX5_init, wX8_init, wX3_init, zP_pt, zP_nw, zPs]
    · rcases (show j = 0 ∨ j = 1 ∨ j = 2 ∨ j = 3 ∨ j = 4 ∨ j = 5 ∨ j = 6 ∨ j = 7 from (by have h : j < 8 := hj; omega)) with rfl | rfl | rfl | rfl | rfl | rfl | rfl | rfl <;> simp [wX4_init, wX7_init, wX5_init, wX8_init, wX3_init, zP_pt, zP_nw, zPs]
    · simp [wX4_init, wX7_init, wX5_init, wX8_init, wX3_init, zP_pt, zP_nw, zPs]
    · simp [wX4_init, wX7_init, wX5_init, wX8_init, wX3_init, zP_pt, zP_nw, zPs]
    · simp [wX4_init, wX7_init, wX5_init, wX8_init, wX3_init, zP_pt, zP_nw, zPs]
    · simp [wX4_init, wX7_init, wX5_init, wX8_init, wX3_init, zP_pt, zP_nw, zPs]
    · rcases (show j = 0 ∨ j = 1 ∨ j = 2 ∨ j = 3 ∨ j = 4 ∨ j = 5 ∨ j = 6 ∨ j = 7 from (by have h : j < 8 := hj; omega)) with rfl | rfl | rfl | rfl | rfl | rfl | rfl | rfl <;> simp [wX4_init, wX7_init, wX5_init, wX8_init, wX3_init, zP_pt, zP_nw, zPs]
    · simp [wX4_init, wX7_init, wX5_init, wX8_init, wX3_init, zP_pt, zP_nw, zPs]
    · simp [wX4_init, wX7_init, wX5_init, wX8_init, wX3_init, zP_pt, zP_nw, zPs]
  · have h4 := zrk2 _ h2
    simp only [List.mem_cons, List.not_mem_nil, or_false] at h4
    have h5 : p = 0 ∨ p = 1 ∨ p = 2 ∨ p = 3 ∨ p = 4 ∨ p = 5 ∨ p = 6 ∨ p = 7 := by omega
    rcases h4 with rfl | rfl | rfl | rfl
    · rcases (show j = 0 ∨ j = 1 ∨ j = 2 ∨ j = 3 ∨ j = 4 ∨ j = 5 from (by have h : j < 6 := hj; omega)) with rfl | rfl | rfl | rfl | rfl | rfl <;> rcases h5 with rfl | rfl | rfl | rfl | rfl | rfl | rfl | rfl <;> simp [wX4_init, wX7_init, wX5_init, wX8_init, wX3_init, zP_pt, zP_nw, zPs]
    · rcases (show j = 0 ∨ j = 1 ∨ j = 2 ∨ j = 3 from (by have h : j < 4 := hj; omega)) with rfl | rfl | rfl | rfl <;> rcases h5 with rfl | rfl | rfl | rfl | rfl | rfl | rfl | rfl <;> simp [wX4_init, wX7_init, wX5_init, wX8_init, wX3_init, zP_pt, zP_nw, zPs]
    · rcases h5 with rfl | rfl | rfl | rfl | rfl | rfl | rfl | rfl <;> simp [wX4_init, wX7_init, wX5_init, wX8_init, wX3_init, zP_pt, zP_nw, zPs]
    · rcases h5 with rfl | rfl | rfl | rfl | rfl | rfl | rfl | rfl <;> simp [wX4_init, wX7_init, wX5_init, wX8_init, wX3_init, zP_pt, zP_nw, zPs]
theorem zln_sm {X : zX} {L : Nat} : zSm (wX4_init L (znw X (7, L, 0) 9)) (zLn X L) := by
  obtain ⟨⟨x1, x2, x3, x4, x5⟩, -⟩ := weX4_init (X := znw X (7, L, 0) 9) (L := L)
  refine ⟨⟨x1.symm, x2.symm, x3.symm, x4.symm, x5.symm⟩, zln_dom, fun q j hq hj => ?_, rfl⟩
  show (if lkQ L q then zPs q j else zP X q j) = _
  by_cases h : lkQ L q
  · rw [if_pos h]; exact zln_in h j hj
  · rw [if_neg h]; exact (zln_out h j).symm
/-- from a world to one that says the same -/
theorem zW_sm {A B : zX} {T : zT} {M : zM} {pc : Nat} {lv : List (Nat × Value)} {st : List Value} {I : zMem} (hs : zSm A B) (hA : zA B = zA A) (hQ : zQ B = zQ A) (hk : zk B = zk A) (hn : zn B = zn A) (k : zW B T M pc lv st I) : zW A T M pc lv st I := fun p l e s m args below meth c G H locs ls hl hR hS => by
  obtain ⟨g1, g2, g3, g4, g5, g6, g7, g8, g9, g10, g11, g12, g13⟩ := G
  have h := k p l e s m args below meth c ⟨g1, g2, g3, g4, g5, g6, g7, zKn_lk hs.1 g8, by rw [hA]; exact zSt_lk hs.1 g9, fun q hq => by rw [hA, hs.1.2.2.1]; exact g10 q ((hs.2.1 q).mp hq), by rw [hk]; exact g11, by rw [hn]; exact g12, g13⟩ H locs ls hl (zRel_sm hs hR) (by rw [hA]; exact hS)
  rw [hA, hQ, hk, hn] at h
  exact h
