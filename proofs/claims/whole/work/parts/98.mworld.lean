/-! the class's world between calls; a new image gets its addresses -/
def zqt (X : zX) : Prop := ∀ T a st o t, zQ X T a st o t
theorem zqt.hq {X : zX} (h : zqt X) : zHq X := fun _ _ _ _ _ _ => h _ _ _ _ _
def zWc (e : Nat → Prop) (X : zX) : Prop := (∀ q, zDom X q ↔ zOk e q) ∧ zWf X e ∧ (∀ k, k < 2 → (¬ e (2 + k) → zP X (12, 0, 0) k = none) ∧ (e (2 + k) → zP X (12, 0, 0) k = some (7, 2 + k, 0))) ∧ (∀ q j q', zDom X q → j < (zkd q.1).2 → zP X q j = some q' → zDom X q') ∧ (e 0 ∧ e 1 ∧ ∀ L, e L → L < 4) ∧ zqt X
def zWm (Y : zX) : Prop := zWf Y (fun L => L = 9) ∧ zqt Y
theorem zWm.sz {Y : zX} {z : Nat} (h : zWm Y) : zWm (zsz Y z) := ⟨h.1.sz (zqt.hq h.2), h.2⟩
theorem zWc.o {e : Nat → Prop} {X : zX} (h : zWc e X) : zOk e (0, 0, 0) := ⟨h.2.2.2.2.1.1, rfl, rfl⟩
theorem zWc.d {e : Nat → Prop} {X : zX} (h : zWc e X) : zDom X (0, 0, 0) := (h.1 _).mpr h.o
theorem zWc.e1 {e : Nat → Prop} {X : zX} (h : zWc e X) : e 1 := h.2.2.2.2.1.2.1
theorem zPs_lk {L j : Nat} {q q' : zPl} (h : lkQ L q) (hj : j < (zkd q.1).2) (hp : zPs q j = some q') : lkQ L q' := by
  obtain ⟨r, L', p⟩ := q
  obtain ⟨h1, h2⟩ := h
  simp only at h1 h2
  subst h1
  rcases h2 with ⟨h2, rfl⟩ | ⟨h2, h3⟩
  · have h4 := zrk1 _ h2
    simp only [List.mem_cons, List.not_mem_nil, or_false] at h4
    rcases h4 with rfl | rfl | rfl | rfl | rfl | rfl | rfl | rfl | rfl | rfl | rfl
    · rcases (show j = 0 ∨ j = 1 ∨ j = 2 ∨ j = 3 ∨ j = 4 ∨ j = 5 ∨ j = 6 ∨ j = 7 ∨ j = 8 from (by have h : j < 9 := hj; omega)) with rfl | rfl | rfl | rfl | rfl | rfl | rfl | rfl | rfl <;> simp [zPs] at hp <;> subst hp <;> exact ⟨rfl, Or.inl ⟨rfl, rfl⟩⟩
    · rcases (show j = 0 ∨ j = 1 ∨ j = 2 ∨ j = 3 ∨ j = 4 ∨ j = 5 ∨ j = 6 ∨ j = 7 ∨ j = 8 ∨ j = 9 ∨ j = 10 from (by have h : j < 11 := hj; omega)) with rfl | rfl | rfl | rfl | rfl | rfl | rfl | rfl | rfl | rfl | rfl <;> simp [zPs] at hp <;> subst hp <;> exact ⟨rfl, Or.inl ⟨rfl, rfl⟩⟩
    · rcases (show j = 0 ∨ j = 1 ∨ j = 2 ∨ j = 3 ∨ j = 4 ∨ j = 5 ∨ j = 6 ∨ j = 7 ∨ j = 8 ∨ j = 9 ∨ j = 10 from (by have h : j < 11 := hj; omega)) with rfl | rfl | rfl | rfl | rfl | rfl | rfl | rfl | rfl | rfl | rfl <;> simp [zPs] at hp <;> subst hp <;> exact ⟨rfl, Or.inl ⟨rfl, rfl⟩⟩
    · simp only [zPs, Option.some.injEq] at hp; subst hp; exact ⟨rfl, Or.inr ⟨rfl, hj⟩⟩
    · simp [zPs] at hp
    · simp [zPs] at hp
    · simp [zPs] at hp
    · simp [zPs] at hp
    · simp only [zPs, Option.some.injEq] at hp; subst hp; exact ⟨rfl, Or.inr ⟨rfl, hj⟩⟩
    · simp [zPs] at hp
    · simp [zPs] at hp
  · have h4 := zrk2 _ h2
    simp only [List.mem_cons, List.not_mem_nil, or_false] at h4
    rcases h4 with rfl | rfl | rfl | rfl
    · rcases (show j = 0 ∨ j = 1 ∨ j = 2 ∨ j = 3 ∨ j = 4 ∨ j = 5 from (by have h : j < 6 := hj; omega)) with rfl | rfl | rfl | rfl | rfl | rfl <;> simp [zPs] at hp <;> subst hp <;> exact ⟨rfl, Or.inr ⟨rfl, h3⟩⟩
    · rcases (show j = 0 ∨ j = 1 ∨ j = 2 ∨ j = 3 from (by have h : j < 4 := hj; omega)) with rfl | rfl | rfl | rfl <;> simp [zPs] at hp <;> subst hp <;> exact ⟨rfl, Or.inr ⟨rfl, h3⟩⟩
    · simp [zPs] at hp
    · simp [zPs] at hp
theorem lk_ok {e : Nat → Prop} {L : Nat} {q : zPl} (he : e L) (h9 : L < 9) (h : lkQ L q) : zOk e q := by
  obtain ⟨r, L', p⟩ := q
  obtain ⟨h1, h2⟩ := h
  simp only at h1
  subst h1
  rcases h2 with ⟨h2, h3⟩ | ⟨h2, h3⟩
  · unfold zOk; simp only at h2 h3; simp only [h2]; exact ⟨⟨he, h9⟩, h3⟩
  · unfold zOk; simp only at h2 h3; simp only [h2]; exact ⟨⟨he, h9⟩, h3⟩
theorem zPs_ok {e : Nat → Prop} (h0 : e 0) (h1 : e 1) (h9 : ¬ e 9) {q q' : zPl} {j : Nat} (o : zOk e q) (hj : j < (zkd q.1).2) (hp : zPs q j = some q') : zOk e q' := by
  obtain ⟨r, L, p⟩ := q
  unfold zOk at o
  split at o
  · rename_i hr
    obtain ⟨-, g1, g2⟩ := o
    simp only at g1 g2 hr
    subst g1 g2
    have h4 := zrk0 _ hr
    simp only [List.mem_cons, List.not_mem_nil, or_false] at h4
    rcases h4 with rfl | rfl | rfl | rfl | rfl | rfl | rfl | rfl | rfl | rfl | rfl | rfl | rfl | rfl | rfl | rfl | rfl | rfl | rfl | rfl | rfl | rfl | rfl | rfl | rfl | rfl
    · rcases (show j = 0 ∨ j = 1 ∨ j = 2 ∨ j = 3 ∨ j = 4 ∨ j = 5 ∨ j = 6 ∨ j = 7 ∨ j = 8 ∨ j = 9 ∨ j = 10 from (by have h : j < 11 := hj; omega)) with rfl | rfl | rfl | rfl | rfl | rfl | rfl | rfl | rfl | rfl | rfl <;> simp [zPs] at hp <;> subst hp <;> first | exact ⟨h0, rfl, rfl⟩ | exact ⟨⟨h1, by decide⟩, rfl⟩ | exact ⟨⟨h0, by decide⟩, rfl⟩
    · rcases (show j = 0 ∨ j = 1 from (by have h : j < 2 := hj; omega)) with rfl | rfl <;> simp [zPs] at hp <;> subst hp <;> first | exact ⟨h0, rfl, rfl⟩ | exact ⟨⟨h1, by decide⟩, rfl⟩ | exact ⟨⟨h0, by decide⟩, rfl⟩
    · rcases (show j = 0 ∨ j = 1 ∨ j = 2 from (by have h : j < 3 := hj; omega)) with rfl | rfl | rfl <;> simp [zPs] at hp <;> subst hp <;> first | exact ⟨h0, rfl, rfl⟩ | exact ⟨⟨h1, by decide⟩, rfl⟩ | exact ⟨⟨h0, by decide⟩, rfl⟩
    · rcases (show j = 0 ∨ j = 1 from (by have h : j < 2 := hj; omega)) with rfl | rfl <;> simp [zPs] at hp <;> subst hp <;> first | exact ⟨h0, rfl, rfl⟩ | exact ⟨⟨h1, by decide⟩, rfl⟩ | exact ⟨⟨h0, by decide⟩, rfl⟩
    · rcases (show j = 0 ∨ j = 1 ∨ j = 2 ∨ j = 3 ∨ j = 4 ∨ j = 5 from (by have h : j < 6 := hj; omega)) with rfl | rfl | rfl | rfl | rfl | rfl <;> simp [zPs] at hp <;> subst hp <;> first | exact ⟨h0, rfl, rfl⟩ | exact ⟨⟨h1, by decide⟩, rfl⟩ | exact ⟨⟨h0, by decide⟩, rfl⟩
    · rcases (show j = 0 ∨ j = 1 ∨ j = 2 ∨ j = 3 ∨ j = 4 ∨ j = 5 from (by have h : j < 6 := hj; omega)) with rfl | rfl | rfl | rfl | rfl | rfl <;> simp [zPs] at hp <;> subst hp <;> first | exact ⟨h0, rfl, rfl⟩ | exact ⟨⟨h1, by decide⟩, rfl⟩ | exact ⟨⟨h0, by decide⟩, rfl⟩
    · rcases (show j = 0 ∨ j = 1 from (by have h : j < 2 := hj; omega)) with rfl | rfl <;> simp [zPs] at hp <;> subst hp <;> first | exact ⟨h0, rfl, rfl⟩ | exact ⟨⟨h1, by decide⟩, rfl⟩ | exact ⟨⟨h0, by decide⟩, rfl⟩
    · simp [zPs] at hp
    · simp [zPs] at hp
    · simp [zPs] at hp
    · simp [zPs] at hp
    · simp [zPs] at hp
    · simp [zPs] at hp
    · simp [zPs] at hp
    · simp [zPs] at hp
    · simp [zPs] at hp
    · simp [zPs] at hp
    · simp [zPs] at hp
    · simp [zPs] at hp
    · simp [zPs] at hp
    · simp [zPs] at hp
    · simp [zPs] at hp
    · simp [zPs] at hp
    · simp [zPs] at hp
    · simp only [zPs, Option.some.injEq] at hp; subst hp; exact ⟨h0, rfl, hj⟩
    · simp [zPs] at hp
  · rename_i hr
    exact lk_ok o.1.1 o.1.2 (zPs_lk (q := (r, L, p)) ⟨rfl, Or.inl ⟨hr, o.2⟩⟩ hj hp)
  · rename_i hr
    exact lk_ok o.1.1 o.1.2 (zPs_lk (q := (r, L, p)) ⟨rfl, Or.inr ⟨hr, o.2⟩⟩ hj hp)
  · rename_i hr
    have h3 := zrk3 _ hr
    simp only at h3
    subst h3
    simp [zPs] at hp
  · exact absurd o.1 h9
  · exact o.elim
theorem zWc_no {X : zX} (hq : zqt X) : zWc e01 (zNo X e01) :=
  ⟨fun q => Iff.rfl, ⟨fun q h => h, fun q k q' _ h => h, fun _ _ _ _ _ _ => hq _ _ _ _ _⟩, fun k hk => ⟨fun _ => rfl, fun h => absurd h (by show ¬ (2 + k = 0 ∨ 2 + k = 1); omega)⟩, fun q j q' o hj hp => zPs_ok (Or.inl rfl) (Or.inr rfl) (by show ¬ (9 = 0 ∨ 9 = 1); omega) o hj hp, ⟨Or.inl rfl, Or.inr rfl, fun L h => by rcases h with rfl | rfl <;> decide⟩, hq⟩
theorem zat_ad {X X' : zX} {I : zMem} {q : zPl} {H : Heap} (hX : X'.1 = X.1 ∧ zcy X' = zcy X ∧ zP X' = zP X) (ha : zad X' q = zad X q) (hr : ∀ j q', j < (zkd q.1).2 → zP X q j = some q' → zad X' q' = zad X q') (h : zat X I q H) : zat X' I q H := by
  obtain ⟨x1, x2, x3⟩ := hX
  have hv : ∀ j, j < (zkd q.1).2 → (zP X q j).map (zad X') = (zP X q j).map (zad X) := fun j hj => by
    cases hp : zP X q j with
    | none => rfl
    | some q' => exact congrArg some (hr j q' hj hp)
  unfold zat at h ⊢
  rw [x1, x2, ha]
  split at h
  · rw [if_pos (by assumption)]
    refine h.to fun j hj => ?_
    unfold zfv; rw [x3, hv j hj]
  · rw [if_neg (by assumption), h]
    apply congrArg some
    apply arrV_ext
    intro j hj
    unfold zav; rw [x3, hv j hj]
/-- the addresses of a link to be made -/
def zre (X : zX) (L : Nat) : zX := (X.1, X.2.1, (fun q => if lkQ L q then zz X + ((7, L, 0) :: lX4_init L).idxOf q else zad X q), zDom X, zP X, ztc X, ztv X, zA X, zQ X, zk X, zn X, zz X)
theorem l4_ok : ∀ L, L = 2 ∨ L = 3 → (List.range 43).all (fun i => match ((7, L, 0) :: lX4_init L)[i]? with | some q => decide (lkQ L q ∧ ((7, L, 0) :: lX4_init L).idxOf q = i) | none => false) = true := by
  intro L h
  rcases h with rfl | rfl <;> decide +kernel
theorem zre_at {X : zX} {L : Nat} (hL : L = 2 ∨ L = 3) : zAt (zre X L) (zz (zre X L)) ((7, L, 0) :: lX4_init L) := fun i q hi => by
  have hlt : i < ((7, L, 0) :: lX4_init L).length := (List.getElem?_eq_some_iff.mp hi).1
  have h43 : ((7, L, 0) :: lX4_init L).length = 43 := rfl
  have h := List.all_eq_true.mp (l4_ok L hL) i (List.mem_range.mpr (by omega))
  rw [hi] at h
  obtain ⟨h1, h2⟩ := of_decide_eq_true h
  show (if lkQ L q then zz X + ((7, L, 0) :: lX4_init L).idxOf q else zad X q) = zz X + i
  rw [if_pos h1, h2]
theorem zre_ad {X : zX} {L : Nat} {q : zPl} (h : ¬ lkQ L q) : zad (zre X L) q = zad X q := if_neg h
theorem zRel_re {X : zX} {I : zMem} {H : Heap} {L : Nat} (h : zRel X I H) (hn : ∀ q, zDom X q → ¬ lkQ L q) (hc : ∀ q j q', zDom X q → j < (zkd q.1).2 → zP X q j = some q' → zDom X q') : zRel (zre X L) I H :=
  ⟨fun q hq => zat_ad (X := X) ⟨rfl, rfl, rfl⟩ (zre_ad (hn q hq)) (fun j q' hj hp => zre_ad (hn q' (hc q j q' hq hj hp))) (h.1 q hq), fun q q' h1 h2 e => h.2.1 q q' h1 h2 (by rw [zre_ad (hn q h1), zre_ad (hn q' h2)] at e; exact e), h.2.2⟩
theorem zWc.re {e : Nat → Prop} {X : zX} {L : Nat} (h : zWc e X) : zWc e (zre X L) := ⟨h.1, ⟨h.2.1.1, h.2.1.2.1, fun _ _ _ _ _ _ => h.2.2.2.2.2 _ _ _ _ _⟩, h.2.2⟩
theorem zWc.no_lk {e : Nat → Prop} {X : zX} {L : Nat} (h : zWc e X) (he : ¬ e L) : ∀ q, zDom X q → ¬ lkQ L q := fun q hq hk => by
  have o := (h.1 q).mp hq
  obtain ⟨r, L', p⟩ := q
  obtain ⟨g1, g2⟩ := hk
  simp only at g1
  subst g1
  rcases g2 with ⟨g2, -⟩ | ⟨g2, -⟩
  · unfold zOk at o; simp only at g2; simp only [g2] at o; exact he o.1.1
  · unfold zOk at o; simp only at g2; simp only [g2] at o; exact he o.1.1
theorem zOk_mono {e e' : Nat → Prop} (h : ∀ L, e L → e' L) {q : zPl} (o : zOk e q) : zOk e' q := by
  unfold zOk at o ⊢
  split at o
  · exact ⟨h _ o.1, o.2⟩
  · exact ⟨⟨h _ o.1.1, o.1.2⟩, o.2⟩
  · exact ⟨⟨h _ o.1.1, o.1.2⟩, o.2⟩
  · exact ⟨h _ o.1, o.2⟩
  · exact ⟨h _ o.1, o.2⟩
  · exact o.elim
/-- a new image: the world behind it -/
theorem zWc.im {e : Nat → Prop} {X : zX} {k : Nat} (h : zWc e X) (hk : k < 2) (he : ¬ e (2 + k)) : zWc (fun L => e L ∨ L = 2 + k) (zIm X k) := by
  obtain ⟨h1, h2, h3, h4, ⟨h5, h6, h7⟩, h8⟩ := h
  have hD : ∀ q, zDom (zIm X k) q ↔ lkQ (2 + k) q ∨ zDom X q := fun q => Iff.rfl
  have hP : ∀ q j, zP (zIm X k) q j = if q = (12, 0, 0) ∧ j = k then some (7, 2 + k, 0) else if lkQ (2 + k) q then zPs q j else zP X q j := fun q j => rfl
  have h12 : ¬ lkQ (2 + k) (12, 0, 0) := fun c => by have := c.1; simp only at this; omega
  refine ⟨fun q => ?_, zIm_wf hk h2.1 h2.2.1 he (fun _ _ _ _ _ _ => h8 _ _ _ _ _), fun k' hk' => ?_, fun q j q' hq hj hp => ?_, ⟨Or.inl h5, Or.inl h6, fun L hL => ?_⟩, h8⟩
  · rw [hD]
    constructor
    · rintro (c | c)
      · exact lk_ok (Or.inr rfl) (by omega) c
      · exact zOk_mono (fun L c => Or.inl c) ((h1 q).mp c)
    · intro o
      rcases zOk_or (by omega) (by omega) o with c | c
      · exact Or.inr ((h1 q).mpr c)
      · exact Or.inl c
  · rw [hP]
    by_cases c : k' = k
    · subst c
      rw [if_pos ⟨rfl, rfl⟩]
      exact ⟨fun c => absurd (Or.inr rfl) c, fun _ => rfl⟩
    · rw [if_neg (fun d => c d.2), if_neg h12]
      exact ⟨fun d => (h3 k' hk').1 (fun f => d (Or.inl f)), fun d => (h3 k' hk').2 (d.resolve_right (by omega))⟩
  · rw [hP] at hp
    rw [hD]
    by_cases c : q = (12, 0, 0) ∧ j = k
    · rw [if_pos c] at hp
      cases hp
      exact Or.inl ⟨rfl, Or.inl ⟨rfl, rfl⟩⟩
    · rw [if_neg c] at hp
      by_cases d : lkQ (2 + k) q
      · rw [if_pos d] at hp
        exact Or.inl (zPs_lk d hj hp)
      · rw [if_neg d] at hp
        exact Or.inr (h4 q j q' (hq.resolve_left d) hj hp)
  · rcases hL with c | c
    · exact h7 L c
    · omega
theorem zIm_gw {X : zX} {k : Nat} : zGw (zre X (2 + k)) (zIm (zre X (2 + k)) k) := by
  refine ⟨⟨rfl, rfl, rfl, rfl, rfl⟩, fun q hq => ?_, Nat.le_add_right _ _⟩
  have hq' : lkQ (2 + k) q ∨ zDom X q := hq
  rcases hq' with c | c
  · refine Or.inr ?_
    show zz X ≤ (if lkQ (2 + k) q then zz X + ((7, 2 + k, 0) :: lX4_init (2 + k)).idxOf q else zad X q)
    rw [if_pos c]; exact Nat.le_add_right _ _
  · exact Or.inl c
theorem lwK.re {s : State} {X : zX} {L : Nat} (h : lwK s X) : lwK s (zre X L) := h
theorem lwK.sz {s : State} {X : zX} {z : Nat} (h : lwK s X) : lwK s (zsz X z) := h
theorem lwK.im {s : State} {X : zX} {k : Nat} (h : lwK s X) : lwK s (zIm X k) := h
theorem lwH.re {s : State} {X Y : zX} {I J : zMem} {H : Heap} {L : Nat} (h : lwH s X Y I J H) (hn : ∀ q, zDom X q → ¬ lkQ L q) (hc : ∀ q j q', zDom X q → j < (zkd q.1).2 → zP X q j = some q' → zDom X q') : lwH s (zre X L) Y I J H :=
  ⟨zRel_re h.1 hn hc, h.2.1, fun q q' a b => by rw [zre_ad (hn q a)]; exact h.2.2.1 q q' a b, fun q a => by rw [zre_ad (hn q a)]; exact h.2.2.2.1 q a, h.2.2.2.2⟩
