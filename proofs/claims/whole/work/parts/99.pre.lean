/-! the law from its entry -/
theorem zdm {X : zX} (hq : zDom X (50, 0, 0)) : ∀ q, zOk (fun L => L = 9) q → zDom (wX12_init X) q := fun q o => by
  obtain ⟨h1, h2, h3⟩ := zok9r o
  obtain ⟨r, L, p⟩ := q
  simp only [Prod.mk.injEq] at h1
  obtain ⟨rfl, rfl⟩ := h1
  simp only at h2 h3
  by_cases e : r = 50
  · subst e; simp [zDom, wX12_init, zpt, znw]; exact hq
  · have h4 : r ∈ [51, 52, 53, 54, 55, 56, 57, 58, 59, 60, 61, 62, 63, 64, 65, 66, 67] := by simp; omega
    simp only [List.mem_cons, List.not_mem_nil, or_false] at h4
    rcases h4 with rfl | rfl | rfl | rfl | rfl | rfl | rfl | rfl | rfl | rfl | rfl | rfl | rfl | rfl | rfl | rfl | rfl <;> simp [zDom, wX12_init, zpt, znw]
theorem zpm {X : zX} : ∀ q k q', zOk (fun L => L = 9) q → zPs q k = some q' → zP (wX12_init X) q k = some q' := fun q k q' o hp => by
  obtain ⟨h1, h2, h3⟩ := zok9r o
  obtain ⟨r, L, p⟩ := q
  simp only [Prod.mk.injEq] at h1
  obtain ⟨rfl, rfl⟩ := h1
  simp only at h2 h3
  by_cases e : r = 50
  · subst e
    have hk : k < 19 := by
      rcases Nat.lt_or_ge k 19 with h | h
      · exact h
      · exfalso
        have : zPs (50, 0, 0) k = none := by simp [zPs, List.getD, List.getElem?_eq_none, h]
        rw [this] at hp; cases hp
    have h4 : k ∈ List.range 19 := by simp; exact hk
    simp only [show List.range 19 = [0, 1, 2, 3, 4, 5, 6, 7, 8, 9, 10, 11, 12, 13, 14, 15, 16, 17, 18] from rfl, List.mem_cons, List.not_mem_nil, or_false] at h4
    rcases h4 with rfl | rfl | rfl | rfl | rfl | rfl | rfl | rfl | rfl | rfl | rfl | rfl | rfl | rfl | rfl | rfl | rfl | rfl | rfl <;> simp [zPs] at hp <;> subst hp <;> simp [zP, wX12_init, zpt, znw]
  · exfalso
    have h4 : r ∈ [51, 52, 53, 54, 55, 56, 57, 58, 59, 60, 61, 62, 63, 64, 65, 66, 67] := by simp; omega
    simp only [List.mem_cons, List.not_mem_nil, or_false] at h4
    rcases h4 with rfl | rfl | rfl | rfl | rfl | rfl | rfl | rfl | rfl | rfl | rfl | rfl | rfl | rfl | rfl | rfl | rfl <;> cases hp
theorem zWm_12 {X : zX} (hq : zDom X (50, 0, 0)) (ht : zqt X) : zWm (wX12_init X) := by
  have e : zQ (wX12_init X) = zQ X := (weX12_init (X := X)).2.2.1
  have h : zqt (wX12_init X) := fun T a st o t => by rw [e]; exact ht T a st o t
  exact ⟨⟨zdm hq, zpm, zqt.hq h⟩, h⟩
/-- the normal world over a base -/
def znb (X : zX) (e : Nat → Prop) (z : Nat) : zX := (X.1, X.2.1, zad X, zOk e, zPs, ztc X, ztv X, zA X, (fun _ _ _ _ _ => True), 0, 0, z)
theorem zRel_nb {W X : zX} {e : Nat → Prop} {I : zMem} {H : Heap} (hlk : zLk X (zNo W e)) (h : zRel (zNo W e) I H) : zRel (znb X e H.size) I H :=
  zRel_sm (X := zNo W e) ⟨⟨hlk.1.symm, hlk.2.1.symm, hlk.2.2.1.symm, hlk.2.2.2.1.symm, hlk.2.2.2.2.symm⟩, fun _ => Iff.rfl, fun _ _ _ _ => rfl, h.2.2⟩ h
theorem zWc_nb {X : zX} {z : Nat} : zWc e01 (znb X e01 z) := zWc_no (X := (X.1, X.2.1, zad X, zDom X, zP X, ztc X, ztv X, zA X, (fun _ _ _ _ _ => True), 0, 0, z)) (fun _ _ _ _ _ => trivial)
theorem zLk.tr {A B C : zX} (h : zLk A B) (g : zLk B C) : zLk A C := ⟨g.1.trans h.1, g.2.1.trans h.2.1, g.2.2.1.trans h.2.2.1, g.2.2.2.1.trans h.2.2.2.1, g.2.2.2.2.trans h.2.2.2.2⟩
theorem idx_ok {l : List zPl} {N : Nat} (hN : l.length = N) (h : (List.range N).all (fun i => match l[i]? with | some q => decide (l.idxOf q = i) | none => false) = true) : ∀ (i : Nat) (q : zPl), l[i]? = some q → l.idxOf q = i := fun i q hi => by
  have hlt : i < l.length := (List.getElem?_eq_some_iff.mp hi).1
  have h2 := List.all_eq_true.mp h i (List.mem_range.mpr (by omega))
  rw [hi] at h2
  exact of_decide_eq_true h2
theorem idx11 : ∀ (i : Nat) (q : zPl), (((0, 0, 0) : zPl) :: lX11_init)[i]? = some q → (((0, 0, 0) : zPl) :: lX11_init).idxOf q = i := idx_ok (N := 116) rfl (by decide +kernel)
theorem idx12 : ∀ (i : Nat) (q : zPl), (((50, 0, 0) : zPl) :: lX12_init)[i]? = some q → (((50, 0, 0) : zPl) :: lX12_init).idxOf q = i := idx_ok (N := 18) rfl (by decide +kernel)
/-- an empty world whose places to be made are laid out from z on -/
def zem (D : va_G) (cy : Nat → ClassId) (tc tv : Nat) (s : State) (l : List zPl) (z : Nat) : zX := (D, cy, (fun q => z + l.idxOf q), (fun _ => False), (fun _ _ => none), tc, tv, lwA s, (fun _ _ _ _ _ => True), 0, 0, z)
theorem zem_rel {D : va_G} {cy : Nat → ClassId} {tc tv : Nat} {s : State} {l : List zPl} {I : zMem} {H : Heap} : zRel (zem D cy tc tv s l H.size) I H := ⟨fun _ h => h.elim, fun _ _ h => h.elim, rfl⟩
theorem zem_at {D : va_G} {cy : Nat → ClassId} {tc tv z w : Nat} {s : State} {q0 : zPl} {l : List zPl} (h : ∀ (i : Nat) (q : zPl), (q0 :: l)[i]? = some q → (q0 :: l).idxOf q = i) : zad (zem D cy tc tv s (q0 :: l) z) q0 = zz (zem D cy tc tv s (q0 :: l) z) ∧ zAt (znw (zem D cy tc tv s (q0 :: l) z) q0 w) (zz (znw (zem D cy tc tv s (q0 :: l) z) q0 w)) l := by
  refine ⟨?_, fun i q hi => ?_⟩
  · show z + (q0 :: l).idxOf q0 = z
    rw [h 0 q0 rfl]; rfl
  · show z + (q0 :: l).idxOf q = z + 1 + i
    rw [h (i + 1) q hi]; omega
theorem zem_d {D : va_G} {cy : Nat → ClassId} {tc tv z w : Nat} {s : State} {q0 : zPl} {l : List zPl} (q : zPl) : zDom (znw (zem D cy tc tv s l z) q0 w) q ↔ q = q0 := ⟨fun h => h.elim id False.elim, Or.inl⟩
theorem zem_p {D : va_G} {cy : Nat → ClassId} {tc tv z w : Nat} {s : State} {q0 : zPl} {l : List zPl} (q : zPl) (j : Nat) : zP (znw (zem D cy tc tv s l z) q0 w) q j = none := by
  show (if q = q0 then none else none) = none
  split <;> rfl
theorem zem_ge {D : va_G} {cy : Nat → ClassId} {tc tv z w : Nat} {s : State} {q0 : zPl} {l : List zPl} (q : zPl) : z ≤ zad (znw (zem D cy tc tv s l z) q0 w) q := Nat.le_add_right _ _
theorem ijl_X11_init : zMi yX11_init mX11_init 0 := ⟨(List.mem_filter.mpr ⟨List.mem_of_getElem? (i := 60) (by decide +kernel), rfl⟩), (List.mem_filter.mpr ⟨List.mem_of_getElem? (i := 82) (by decide +kernel), rfl⟩), by decide +kernel, rfl, (List.mem_filter.mpr ⟨List.mem_of_getElem? (i := 81) (by decide +kernel), rfl⟩), rfl⟩
theorem ijl_X12_init : zMi yX12_init mX12_init 0 := ⟨(List.mem_filter.mpr ⟨List.mem_of_getElem? (i := 73) (by decide +kernel), rfl⟩), (List.mem_filter.mpr ⟨List.mem_of_getElem? (i := 1067) (by decide +kernel), rfl⟩), by decide +kernel, rfl, (List.mem_filter.mpr ⟨List.mem_of_getElem? (i := 1066) (by decide +kernel), rfl⟩), rfl⟩
