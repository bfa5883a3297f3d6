/-! the class's world behind its constructor, in the form that it has between calls -/
theorem zSm.tr {A B C : zX} (h : zSm A B) (g : zSm B C) : zSm A C := by
  obtain ⟨⟨x1, x2, x3, x4, x5⟩, hd, hp, hz⟩ := h
  obtain ⟨⟨y1, y2, y3, y4, y5⟩, gd, gp, gz⟩ := g
  exact ⟨⟨y1.trans x1, y2.trans x2, y3.trans x3, y4.trans x4, y5.trans x5⟩, fun q => (gd q).trans (hd q), fun q j hq hj => (gp q j ((hd q).mpr hq) hj).trans (hp q j hq hj), gz.trans hz⟩
theorem zrk0 : ∀ r, zrk r = 0 → r ∈ [0, 1, 2, 3, 4, 5, 6, 12, 13, 14, 15, 16, 17, 18, 19, 20, 21, 22, 23, 24, 25, 26, 27, 28, 29, 31] := fun r h => by
  unfold zrk at h
  split at h <;> first | decide | omega
theorem zrk3 : ∀ r, zrk r = 3 → r = 30 := fun r h => by
  unfold zrk at h
  split at h <;> first | rfl | omega
theorem zD_ln {X : zX} {L : Nat} {a : zPl} : zDom (zLn X L) a ↔ lkQ L a ∨ zDom X a := Iff.rfl
theorem zP_ln {X : zX} {L : Nat} {a : zPl} {j : Nat} : zP (zLn X L) a j = if lkQ L a then zPs a j else zP X a j := rfl
def wl0 (X : zX) : zX := zpt (zpt (zpt (zpt (zLn (zpt (znw X (28, 0, 0) 60) (5, 0, 0) 3 (28, 0, 0)) 0) (5, 0, 0) 4 (7, 0, 0)) (5, 0, 0) 0 (1, 0, 0)) (5, 0, 0) 1 (2, 0, 0)) (5, 0, 0) 2 (4, 0, 0)
theorem wl0_sm {X : zX} : zSm (wX0_init X) (wl0 X) := by
  unfold wX0_init wl0
  exact zSm.pt (zSm.pt (zSm.pt (zSm.pt zln_sm)))
def wlA (X : zX) : zX := zpt (wX2_init (znw (zpt (wX10_init (znw (zpt (wX6_init (znw (zpt (wX1_init (znw X (1, 0, 0) 2)) (0, 0, 0) 0 (1, 0, 0)) (2, 0, 0) 3)) (0, 0, 0) 1 (2, 0, 0)) (3, 0, 0) 2)) (0, 0, 0) 2 (3, 0, 0)) (4, 0, 0) 6)) (0, 0, 0) 3 (4, 0, 0)
def wlB (X : zX) : zX := zpt (wX9_init (znw (zpt (wl0 (znw X (5, 0, 0) 6)) (0, 0, 0) 4 (5, 0, 0)) (6, 0, 0) 2)) (0, 0, 0) 5 (6, 0, 0)
def wlC (X : zX) : zX := zpt (znw (zpt (znw (zpt (znw (zpt (znw (zpt X (0, 0, 0) 6 (7, 1, 0)) (12, 0, 0) 2) (0, 0, 0) 7 (12, 0, 0)) (13, 0, 0) 39) (0, 0, 0) 8 (13, 0, 0)) (14, 0, 0) 39) (0, 0, 0) 9 (14, 0, 0)) (15, 0, 0) 256) (0, 0, 0) 10 (15, 0, 0)
def wl11 (X : zX) : zX := wlC (zLn (wlB (wlA X)) 1)
theorem wl11_sm {X : zX} : zSm (wX11_init X) (wl11 X) := by
  unfold wX11_init wl11 wlC wlB
  refine zSm.pt (zSm.nw (zSm.pt (zSm.nw (zSm.pt (zSm.nw (zSm.pt (zSm.nw (zSm.pt (zSm.tr zln_sm (zSm.ln (zSm.pt (smX9_init (zSm.nw (zSm.pt (zSm.tr wl0_sm ?_)))))))))))))))
  unfold wlA
  exact zSm.rf
/-- a world whose places are those of e and whose references are the skeleton's -/
def zNo (X : zX) (e : Nat → Prop) : zX := (X.1, X.2.1, zad X, zOk e, zPs, ztc X, ztv X, zA X, zQ X, zk X, zn X, zz X)
theorem wl11_dom {X : zX} (hD : ∀ q, zDom X q ↔ q = (0, 0, 0)) (q : zPl) : zOk e01 q ↔ zDom (wl11 X) q := by
  simp only [wl11, wlC, wlB, wlA, wl0, wX9_init, wX2_init, wX10_init, wX6_init, wX1_init, wmn, zD_ln, zD_nw, zD_pt, hD]
  obtain ⟨r, L, p⟩ := q
  constructor
  · intro o
    unfold zOk at o
    split at o
    · rename_i hr
      obtain ⟨-, h1, h2⟩ := o
      simp only at h1 h2 hr
      subst h1 h2
      have h4 := zrk0 _ hr
      simp only [List.mem_cons, List.not_mem_nil, or_false] at h4
      rcases h4 with rfl | rfl | rfl | rfl | rfl | rfl | rfl | rfl | rfl | rfl | rfl | rfl | rfl | rfl | rfl | rfl | rfl | rfl | rfl | rfl | rfl | rfl | rfl | rfl | rfl | rfl <;> simp
    · rename_i hr
      obtain ⟨⟨h1, -⟩, h2⟩ := o
      rcases h1 with h1 | h1
      · have hk : lkQ 0 (r, L, p) := ⟨h1, Or.inl ⟨hr, h2⟩⟩
        repeat (first | exact Or.inl hk | exact hk | refine Or.inr ?_)
      · have hk : lkQ 1 (r, L, p) := ⟨h1, Or.inl ⟨hr, h2⟩⟩
        repeat (first | exact Or.inl hk | exact hk | refine Or.inr ?_)
    · rename_i hr
      obtain ⟨⟨h1, -⟩, h2⟩ := o
      rcases h1 with h1 | h1
      · have hk : lkQ 0 (r, L, p) := ⟨h1, Or.inr ⟨hr, h2⟩⟩
        repeat (first | exact Or.inl hk | exact hk | refine Or.inr ?_)
      · have hk : lkQ 1 (r, L, p) := ⟨h1, Or.inr ⟨hr, h2⟩⟩
        repeat (first | exact Or.inl hk | exact hk | refine Or.inr ?_)
    · rename_i hr
      obtain ⟨-, h1, h2⟩ := o
      simp only at h1 h2 hr
      have h3 := zrk3 _ hr
      subst h1 h3
      rcases (show p = 0 ∨ p = 1 ∨ p = 2 ∨ p = 3 by omega) with rfl | rfl | rfl | rfl <;> simp
    · obtain ⟨h1, -⟩ := o
      rcases h1 with h1 | h1 <;> cases h1
    · exact o.elim
  · intro o
    have hL : ∀ L' : Nat, e01 L' → L' < 9 → lkQ L' (r, L, p) → zOk e01 (r, L, p) := fun L' he h9 hk => by
      obtain ⟨h1, h2⟩ := hk
      simp only at h1
      subst h1
      rcases h2 with ⟨h2, h3⟩ | ⟨h2, h3⟩
      · unfold zOk; simp only at h2 h3; simp only [h2]; exact ⟨⟨he, h9⟩, h3⟩
      · unfold zOk; simp only at h2 h3; simp only [h2]; exact ⟨⟨he, h9⟩, h3⟩
    have h0 := hL 0 (Or.inl rfl) (by decide)
    have h1 := hL 1 (Or.inr rfl) (by decide)
    have hr : ∀ r', (r, L, p) = (r', 0, 0) → zrk r' = 0 → zOk e01 (r, L, p) := fun r' e hr => by
      rw [e]; unfold zOk; simp only [hr]; exact ⟨Or.inl rfl, trivial, trivial⟩
    have ht : ∀ p', p' < 4 → (r, L, p) = (30, 0, p') → zOk e01 (r, L, p) := fun p' hp e => by
      rw [e]; exact ⟨Or.inl rfl, rfl, hp⟩
    rcases o with o | o | o | o | o | o | o | o | o | o | o | o | o | o | o | o | o | o | o | o | o | o | o | o | o | o | o | o | o | o | o | o
    all_goals first | exact h0 o | exact h1 o | exact hr _ o rfl | exact ht 0 (by decide) o | exact ht 1 (by decide) o | exact ht 2 (by decide) o | exact ht 3 (by decide) o
theorem wl11_ref {X : zX} (hP : ∀ q j, zP X q j = none) (q : zPl) (j : Nat) (o : zOk e01 q) (hj : j < (zkd q.1).2) : zPs q j = zP (wl11 X) q j := by
  obtain ⟨r, L, p⟩ := q
  unfold zOk at o
  split at o
  · rename_i hr
    obtain ⟨-, h1, h2⟩ := o
    simp only at h1 h2 hr
    subst h1 h2
    have h4 := zrk0 _ hr
    simp only [List.mem_cons, List.not_mem_nil, or_false] at h4
    rcases h4 with rfl | rfl | rfl | rfl | rfl | rfl | rfl | rfl | rfl | rfl | rfl | rfl | rfl | rfl | rfl | rfl | rfl | rfl | rfl | rfl | rfl | rfl | rfl | rfl | rfl | rfl
    · rcases (show j = 0 ∨ j = 1 ∨ j = 2 ∨ j = 3 ∨ j = 4 ∨ j = 5 ∨ j = 6 ∨ j = 7 ∨ j = 8 ∨ j = 9 ∨ j = 10 from (by have h : j < 11 := hj; omega)) with rfl | rfl | rfl | rfl | rfl | rfl | rfl | rfl | rfl | rfl | rfl <;> simp [wl11, wlC, wlB, wlA, wl0, wX9_init, wX2_init, wX10_init, wX6_init, wX1_init, wmn, zP_ln, zP_pt, zP_nw, zPs, hP, lkQ, zrk]
    · rcases (show j = 0 ∨ j = 1 from (by have h : j < 2 := hj; omega)) with rfl | rfl <;> simp [wl11, wlC, wlB, wlA, wl0, wX9_init, wX2_init, wX10_init, wX6_init, wX1_init, wmn, zP_ln, zP_pt, zP_nw, zPs, hP, lkQ, zrk]
    · rcases (show j = 0 ∨ j = 1 ∨ j = 2 from (by have h : j < 3 := hj; omega)) with rfl | rfl | rfl <;> simp [wl11, wlC, wlB, wlA, wl0, wX9_init, wX2_init, wX10_init, wX6_init, wX1_init, wmn, zP_ln, zP_pt, zP_nw, zPs, hP, lkQ, zrk]
    · rcases (show j = 0 ∨ j = 1 from (by have h : j < 2 := hj; omega)) with rfl | rfl <;> simp [wl11, wlC, wlB, wlA, wl0, wX9_init, wX2_init, wX10_init, wX6_init, wX1_init, wmn, zP_ln, zP_pt, zP_nw, zPs, hP, lkQ, zrk]
    · rcases (show j = 0 ∨ j = 1 ∨ j = 2 ∨ j = 3 ∨ j = 4 ∨ j = 5 from (by have h : j < 6 := hj; omega)) with rfl | rfl | rfl | rfl | rfl | rfl <;> simp [wl11, wlC, wlB, wlA, wl0, wX9_init, wX2_init, wX10_init, wX6_init, wX1_init, wmn, zP_ln, zP_pt, zP_nw, zPs, hP, lkQ, zrk]
    · rcases (show j = 0 ∨ j = 1 ∨ j = 2 ∨ j = 3 ∨ j = 4 ∨ j = 5 from (by have h : j < 6 := hj; omega)) with rfl | rfl | rfl | rfl | rfl | rfl <;> simp [wl11, wlC, wlB, wlA, wl0, wX9_init, wX2_init, wX10_init, wX6_init, wX1_init, wmn, zP_ln, zP_pt, zP_nw, zPs, hP, lkQ, zrk]
    · rcases (show j = 0 ∨ j = 1 from (by have h : j < 2 := hj; omega)) with rfl | rfl <;> simp [wl11, wlC, wlB, wlA, wl0, wX9_init, wX2_init, wX10_init, wX6_init, wX1_init, wmn, zP_ln, zP_pt, zP_nw, zPs, hP, lkQ, zrk]
    · simp [wl11, wlC, wlB, wlA, wl0, wX9_init, wX2_init, wX10_init, wX6_init, wX1_init, wmn, zP_ln, zP_pt, zP_nw, zPs, hP, lkQ, zrk]
    · simp [wl11, wlC, wlB, wlA, wl0, wX9_init, wX2_init, wX10_init, wX6_init, wX1_init, wmn, zP_ln, zP_pt, zP_nw, zPs, hP, lkQ, zrk]
    · simp [wl11, wlC, wlB, wlA, wl0, wX9_init, wX2_init, wX10_init, wX6_init, wX1_init, wmn, zP_ln, zP_pt, zP_nw, zPs, hP, lkQ, zrk]
    · simp [wl11, wlC, wlB, wlA, wl0, wX9_init, wX2_init, wX10_init, wX6_init, wX1_init, wmn, zP_ln, zP_pt, zP_nw, zPs, hP, lkQ, zrk]
    · simp [wl11, wlC, wlB, wlA, wl0, wX9_init, wX2_init, wX10_init, wX6_init, wX1_init, wmn, zP_ln, zP_pt, zP_nw, zPs, hP, lkQ, zrk]
    · simp [wl11, wlC, wlB, wlA, wl0, wX9_init, wX2_init, wX10_init, wX6_init, wX1_init, wmn, zP_ln, zP_pt, zP_nw, zPs, hP, lkQ, zrk]
    · simp [wl11, wlC, wlB, wlA, wl0, wX9_init, wX2_init, wX10_init, wX6_init, wX1_init, wmn, zP_ln, zP_pt, zP_nw, zPs, hP, lkQ, zrk]
    · simp [wl11, wlC, wlB, wlA, wl0, wX9_init, wX2_init, wX10_init, wX6_init, wX1_init, wmn, zP_ln, zP_pt, zP_nw, zPs, hP, lkQ, zrk]
    · simp [wl11, wlC, wlB, wlA, wl0, wX9_init, wX2_init, wX10_init, wX6_init, wX1_init, wmn, zP_ln, zP_pt, zP_nw, zPs, hP, lkQ, zrk]
    · simp [wl11, wlC, wlB, wlA, wl0, wX9_init, wX2_init, wX10_init, wX6_init, wX1_init, wmn, zP_ln, zP_pt, zP_nw, zPs, hP, lkQ, zrk]
    · simp [wl11, wlC, wlB, wlA, wl0, wX9_init, wX2_init, wX10_init, wX6_init, wX1_init, wmn, zP_ln, zP_pt, zP_nw, zPs, hP, lkQ, zrk]
    · simp [wl11, wlC, wlB, wlA, wl0, wX9_init, wX2_init, wX10_init, wX6_init, wX1_init, wmn, zP_ln, zP_pt, zP_nw, zPs, hP, lkQ, zrk]
    · simp [wl11, wlC, wlB, wlA, wl0, wX9_init, wX2_init, wX10_init, wX6_init, wX1_init, wmn, zP_ln, zP_pt, zP_nw, zPs, hP, lkQ, zrk]
    · simp [wl11, wlC, wlB, wlA, wl0, wX9_init, wX2_init, wX10_init, wX6_init, wX1_init, wmn, zP_ln, zP_pt, zP_nw, zPs, hP, lkQ, zrk]
    · simp [wl11, wlC, wlB, wlA, wl0, wX9_init, wX2_init, wX10_init, wX6_init, wX1_init, wmn, zP_ln, zP_pt, zP_nw, zPs, hP, lkQ, zrk]
    · simp [wl11, wlC, wlB, wlA, wl0, wX9_init, wX2_init, wX10_init, wX6_init, wX1_init, wmn, zP_ln, zP_pt, zP_nw, zPs, hP, lkQ, zrk]
    · simp [wl11, wlC, wlB, wlA, wl0, wX9_init, wX2_init, wX10_init, wX6_init, wX1_init, wmn, zP_ln, zP_pt, zP_nw, zPs, hP, lkQ, zrk]
    · rcases (show j = 0 ∨ j = 1 ∨ j = 2 ∨ j = 3 from (by have h : j < 4 := hj; omega)) with rfl | rfl | rfl | rfl <;> simp [wl11, wlC, wlB, wlA, wl0, wX9_init, wX2_init, wX10_init, wX6_init, wX1_init, wmn, zP_ln, zP_pt, zP_nw, zPs, hP, lkQ, zrk]
    · simp [wl11, wlC, wlB, wlA, wl0, wX9_init, wX2_init, wX10_init, wX6_init, wX1_init, wmn, zP_ln, zP_pt, zP_nw, zPs, hP, lkQ, zrk]
  · rename_i hr
    have hr' : zrk r = 1 := hr
    have hn : ∀ r', zrk r' ≠ 1 → ∀ L' p', (r, L, p) ≠ (r', L', p') := fun r' h L' p' e => by
      simp only [Prod.mk.injEq] at e
      rw [← e.1] at h; exact h hr'
    obtain ⟨⟨h1, -⟩, h2⟩ := o
    rcases h1 with h1 | h1
    · have hk : lkQ 0 (r, L, p) := ⟨h1, Or.inl ⟨hr, h2⟩⟩
      have hk1 : ¬ lkQ 1 (r, L, p) := fun h => by have e := h.1; simp only at e h1; omega
      simp only [wl11, wlC, wlB, wl0, wX9_init, wmn, zP_ln, zP_pt, zP_nw, hn 0 (by decide), hn 5 (by decide), hn 6 (by decide), hn 12 (by decide), hn 13 (by decide), hn 14 (by decide), hn 15 (by decide), hn 29 (by decide), hn 30 (by decide), hn 31 (by decide), hk1, if_true, if_false, false_and]
      exact (if_pos hk).symm
    · have hk : lkQ 1 (r, L, p) := ⟨h1, Or.inl ⟨hr, h2⟩⟩
      simp only [wl11, wlC, zP_ln, zP_pt, zP_nw, hn 0 (by decide), hn 5 (by decide), hn 6 (by decide), hn 12 (by decide), hn 13 (by decide), hn 14 (by decide), hn 15 (by decide), hn 29 (by decide), hn 30 (by decide), hn 31 (by decide), if_true, if_false, false_and]
      exact (if_pos hk).symm
  · rename_i hr
    have hr' : zrk r = 2 := hr
    have hn : ∀ r', zrk r' ≠ 2 → ∀ L' p', (r, L, p) ≠ (r', L', p') := fun r' h L' p' e => by
      simp only [Prod.mk.injEq] at e
      rw [← e.1] at h; exact h hr'
    obtain ⟨⟨h1, -⟩, h2⟩ := o
    rcases h1 with h1 | h1
    · have hk : lkQ 0 (r, L, p) := ⟨h1, Or.inr ⟨hr, h2⟩⟩
      have hk1 : ¬ lkQ 1 (r, L, p) := fun h => by have e := h.1; simp only at e h1; omega
      simp only [wl11, wlC, wlB, wl0, wX9_init, wmn, zP_ln, zP_pt, zP_nw, hn 0 (by decide), hn 5 (by decide), hn 6 (by decide), hn 12 (by decide), hn 13 (by decide), hn 14 (by decide), hn 15 (by decide), hn 29 (by decide), hn 30 (by decide), hn 31 (by decide), hk1, if_true, if_false, false_and]
      exact (if_pos hk).symm
    · have hk : lkQ 1 (r, L, p) := ⟨h1, Or.inr ⟨hr, h2⟩⟩
      simp only [wl11, wlC, zP_ln, zP_pt, zP_nw, hn 0 (by decide), hn 5 (by decide), hn 6 (by decide), hn 12 (by decide), hn 13 (by decide), hn 14 (by decide), hn 15 (by decide), hn 29 (by decide), hn 30 (by decide), hn 31 (by decide), if_true, if_false, false_and]
      exact (if_pos hk).symm
  · rename_i hr
    obtain ⟨-, h1, h2⟩ := o
    simp only at h1 h2 hr
    have h3 := zrk3 _ hr
    subst h1 h3
    rcases (show p = 0 ∨ p = 1 ∨ p = 2 ∨ p = 3 by omega) with rfl | rfl | rfl | rfl <;> simp [wl11, wlC, wlB, wlA, wl0, wX9_init, wX2_init, wX10_init, wX6_init, wX1_init, wmn, zP_ln, zP_pt, zP_nw, zPs, hP, lkQ, zrk]
  · obtain ⟨h1, -⟩ := o
    rcases h1 with h1 | h1 <;> cases h1
  · exact o.elim
theorem zNo_sm {W : zX} {e : Nat → Prop} (hd : ∀ q, zOk e q ↔ zDom W q) (hp : ∀ q j, zDom W q → j < (zkd q.1).2 → zPs q j = zP W q j) : zSm W (zNo W e) := ⟨⟨rfl, rfl, rfl, rfl, rfl⟩, hd, hp, rfl⟩
/-- the world behind the class's constructor says the same as the normal one -/
theorem no11_sm {X : zX} (hD : ∀ q, zDom X q ↔ q = (0, 0, 0)) (hP : ∀ q j, zP X q j = none) : zSm (wX11_init X) (zNo (wl11 X) e01) :=
  wl11_sm.tr (zNo_sm (wl11_dom hD) (fun q j hq hj => wl11_ref hP q j ((wl11_dom hD q).mpr hq) hj))
