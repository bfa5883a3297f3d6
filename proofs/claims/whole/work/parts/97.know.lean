/-! what the law knows at its entry (by genlaw.py) -/
section
variable {s : State} {a : Array Value}
theorem kn_prim {ty : FieldType} (h : (Cond.arrayClass ty).before a s = true) (hn : ∀ C, ty ≠ .object C) : ∃ cA, ArrOfT s cA ty ∧ va_RA s cA ty := by
  obtain ⟨cA, kA, comp, h1, h2, h3⟩ := Cond.arrayClass_spec h
  refine ⟨cA, fun n z => ⟨fun k h => (by cases h), kA, h2, comp, h3⟩, ?_⟩
  cases ty with
  | object C => exact absurd rfl (hn C)
  | _ => exact h1
theorem kn_obj {C : String} (h : (Cond.arrayOver (.object C)).before a s = true) : ∃ cA, ArrOfT s cA (.object C) ∧ va_RA s cA (.object C) := by
  obtain ⟨comp, c, k, h1, h2, h3, h4, h5⟩ := Cond.arrayOver_spec h
  exact ⟨c, fun n z => ⟨fun k h => (by cases h), k, h3, comp, h4⟩, k, comp, h3, h4, h1, h5⟩
theorem kn_arr {ty : FieldType} (h : (Cond.arrayOver (.array ty)).before a s = true) : ∃ cA, ArrOfT s cA (.array ty) ∧ va_RA s cA (.array ty) := by
  obtain ⟨comp, cA, kA, hcomp, -, hkA, hkindA, hnameA⟩ := arrayOverA_spec h
  exact ⟨cA, fun n z => ⟨fun k h => (by cases h), kA, hkA, comp, hkindA⟩, hnameA⟩
theorem kn_ns (hts : ∀ w ∈ lw_tbl, w.before a s = true) : zNs s := by
  exact ⟨va_Nw.of rfl (hts _ (List.mem_of_getElem? (i := 119) (by decide +kernel))), va_Nw.of rfl (hts _ (List.mem_of_getElem? (i := 730) (by decide +kernel))), va_Nw.of rfl (hts _ (List.mem_of_getElem? (i := 136) (by decide +kernel))), va_Nw.of rfl (hts _ (List.mem_of_getElem? (i := 149) (by decide +kernel))), va_Nw.of rfl (hts _ (List.mem_of_getElem? (i := 181) (by decide +kernel))), va_Nw.of rfl (hts _ (List.mem_of_getElem? (i := 194) (by decide +kernel))), va_Nw.of rfl (hts _ (List.mem_of_getElem? (i := 293) (by decide +kernel))), va_Nw.of rfl (hts _ (List.mem_of_getElem? (i := 433) (by decide +kernel))), va_Nw.of rfl (hts _ (List.mem_of_getElem? (i := 450) (by decide +kernel))), va_AO.of (hts _ (List.mem_of_getElem? (i := 291) (by decide +kernel))), va_AO.of (hts _ (List.mem_of_getElem? (i := 451) (by decide +kernel))), va_AO.of (hts _ (List.mem_of_getElem? (i := 192) (by decide +kernel))), (hts (.arrayOver (.array .byte)) (List.mem_of_getElem? (i := 438) (by decide +kernel)) : (Cond.arrayOver (.array .byte)).before a s = true)⟩
theorem kn_cls (hts : ∀ w ∈ lw_tbl, w.before a s = true) (k : Nat) : ∃ (cC : ClassId) (iS : Nat → Nat), ∀ q, vwCl[k]? = some q → u_Kn s q.1 q.2.1 q.2.2 cC iS := by
  have ho : ∀ w ∈ lw_ok, w.before a s = true := fun w h => hts w (List.mem_filter.mp h).1
  match k with
  | 0 =>
    obtain ⟨c0, i0, h0⟩ := u_known (C := RX0) (T := TX0) (N := 6) (n := 6) ho jn0 (hts (.instantiable RX0 6) (List.mem_of_getElem? (i := 174) (by decide +kernel)))
    exact ⟨c0, i0, fun q hq => by cases hq; exact h0⟩
  | 1 =>
    obtain ⟨c0, i0, h0⟩ := u_known (C := RX1) (T := TX1) (N := 2) (n := 2) ho jn1 (hts (.instantiable RX1 2) (List.mem_of_getElem? (i := 87) (by decide +kernel)))
    exact ⟨c0, i0, fun q hq => by cases hq; exact h0⟩
  | 2 =>
    obtain ⟨c0, i0, h0⟩ := u_known (C := RX2) (T := TX2) (N := 6) (n := 6) ho jn2 (hts (.instantiable RX2 6) (List.mem_of_getElem? (i := 148) (by decide +kernel)))
    exact ⟨c0, i0, fun q hq => by cases hq; exact h0⟩
  | 3 =>
    obtain ⟨c0, i0, h0⟩ := u_known (C := RX3) (T := TX3) (N := 4) (n := 4) ho jn3 (hts (.instantiable RX3 4) (List.mem_of_getElem? (i := 292) (by decide +kernel)))
    exact ⟨c0, i0, fun q hq => by cases hq; exact h0⟩
  | 4 =>
    obtain ⟨c0, i0, h0⟩ := u_known (C := RX4) (T := TX4) (N := 9) (n := 9) ho jn4 (hts (.instantiable RX4 9) (List.mem_of_getElem? (i := 180) (by decide +kernel)))
    exact ⟨c0, i0, fun q hq => by cases hq; exact h0⟩
  | 5 =>
    obtain ⟨c0, i0, h0⟩ := u_known (C := RX5) (T := TX5) (N := 11) (n := 11) ho jn5 (hts (.instantiable RX5 11) (List.mem_of_getElem? (i := 285) (by decide +kernel)))
    exact ⟨c0, i0, fun q hq => by cases hq; exact h0⟩
  | 6 =>
    obtain ⟨c0, i0, h0⟩ := u_known (C := RX6) (T := TX6) (N := 3) (n := 3) ho jn6 (hts (.instantiable RX6 3) (List.mem_of_getElem? (i := 111) (by decide +kernel)))
    exact ⟨c0, i0, fun q hq => by cases hq; exact h0⟩
  | 7 =>
    obtain ⟨c0, i0, h0⟩ := u_known (C := RX7) (T := TX7) (N := 11) (n := 11) ho jn7 (hts (.instantiable RX7 11) (List.mem_of_getElem? (i := 186) (by decide +kernel)))
    exact ⟨c0, i0, fun q hq => by cases hq; exact h0⟩
  | 8 =>
    obtain ⟨c0, i0, h0⟩ := u_known (C := RX8) (T := TX8) (N := 6) (n := 6) ho jn8 (hts (.instantiable RX8 6) (List.mem_of_getElem? (i := 193) (by decide +kernel)))
    exact ⟨c0, i0, fun q hq => by cases hq; exact h0⟩
  | 9 =>
    obtain ⟨c0, i0, h0⟩ := u_known (C := RX9) (T := TX9) (N := 2) (n := 2) ho jn9 (hts (.instantiable RX9 2) (List.mem_of_getElem? (i := 432) (by decide +kernel)))
    exact ⟨c0, i0, fun q hq => by cases hq; exact h0⟩
  | 10 =>
    obtain ⟨c0, i0, h0⟩ := u_known (C := RX10) (T := TX10) (N := 2) (n := 2) ho jn10 (hts (.instantiable RX10 2) (List.mem_of_getElem? (i := 135) (by decide +kernel)))
    exact ⟨c0, i0, fun q hq => by cases hq; exact h0⟩
  | 11 =>
    obtain ⟨c0, i0, h0⟩ := u_known (C := RX11) (T := TX11) (N := 11) (n := 11) ho jn11 (hts (.instantiable RX11 11) (List.mem_of_getElem? (i := 79) (by decide +kernel)))
    exact ⟨c0, i0, fun q hq => by cases hq; exact h0⟩
  | 12 =>
    obtain ⟨c0, i0, h0⟩ := u_known (C := RX12) (T := TX12) (N := 19) (n := 19) ho jn12 (hts (.instantiable RX12 19) (List.mem_of_getElem? (i := 1064) (by decide +kernel)))
    exact ⟨c0, i0, fun q hq => by cases hq; exact h0⟩
  | k + 13 => exact ⟨0, fun _ => 0, fun q hq => by simp [vwCl] at hq⟩
theorem kn_tys (hts : ∀ w ∈ lw_tbl, w.before a s = true) : ∃ cy : Nat → ClassId, ∀ X : zX, zcy X = cy → ∀ (k : Nat) (q : ClassId × FieldType), (ztys X)[k]? = some q → ArrOfT s q.1 q.2 ∧ va_RA s q.1 q.2 := by
  obtain ⟨c13, h13⟩ := kn_prim (hts (.arrayClass .byte) (List.mem_of_getElem? (i := 448) (by decide +kernel))) (fun C h => by cases h)
  obtain ⟨c14, h14⟩ := kn_prim (hts (.arrayClass .int) (List.mem_of_getElem? (i := 133) (by decide +kernel))) (fun C h => by cases h)
  obtain ⟨c15, h15⟩ := kn_prim (hts (.arrayClass .long) (List.mem_of_getElem? (i := 109) (by decide +kernel))) (fun C h => by cases h)
  obtain ⟨c16, h16⟩ := kn_prim (hts (.arrayClass .boolean) (List.mem_of_getElem? (i := 1147) (by decide +kernel))) (fun C h => by cases h)
  obtain ⟨c17, h17⟩ := kn_obj (hts (.arrayOver (.object RX3)) (List.mem_of_getElem? (i := 291) (by decide +kernel)))
  obtain ⟨c18, h18⟩ := kn_obj (hts (.arrayOver (.object RX4)) (List.mem_of_getElem? (i := 451) (by decide +kernel)))
  obtain ⟨c19, h19⟩ := kn_obj (hts (.arrayOver (.object RX8)) (List.mem_of_getElem? (i := 192) (by decide +kernel)))
  obtain ⟨c20, h20⟩ := kn_arr (hts (.arrayOver (.array .byte)) (List.mem_of_getElem? (i := 438) (by decide +kernel)))
  refine ⟨fun j => if j = 13 then c13 else if j = 14 then c14 else if j = 15 then c15 else if j = 16 then c16 else if j = 17 then c17 else if j = 18 then c18 else if j = 19 then c19 else c20, fun X hX k q hq => ?_⟩
  unfold ztys at hq
  rw [hX] at hq
  match k with
  | 0 => cases hq; exact h13
  | 1 => cases hq; exact h14
  | 2 => cases hq; exact h15
  | 3 => cases hq; exact h16
  | 4 => cases hq; exact h17
  | 5 => cases hq; exact h18
  | 6 => cases hq; exact h19
  | 7 => cases hq; exact h20
  | k + 8 => simp at hq
theorem kn_st (hts : ∀ w ∈ lw_tbl, w.before a s = true) (hn : (Jvm.Cond.and given_1 narrow_1).before a s = true) : ∃ tc tv : Nat, ∀ X : zX, ztc X = tc → ztv X = tv → zSt (fun q => s.heap.size ≤ q) X s s.heap := by
  have hs := flat_of_before _ hn
  have hA : ∀ x : Nat, x < s.heap.size → ¬ (fun q => s.heap.size ≤ q) x := fun x h => Nat.not_le.mpr h
  have hezcol : ∀ j : Nat, j < 4 → (Term.elem (.static RX11 "COLUMNS" "[I") (.int (Int32.ofNat j))).eval a s none [] s = some (vi (zcol j)) := fun j hj => by
    match j, hj with
    | 0, _ => exact (va_eqt (z := 0) (hs (.eq (.elem (.static RX11 "COLUMNS" "[I") (.int 0)) (.int 0)) (by decide +kernel))).trans (congrArg (fun z => some (Value.int z)) (by decide +kernel : (0 : Int32) = Int32.ofInt (zcol 0)))
    | 1, _ => exact (va_eqt (z := 2) (hs (.eq (.elem (.static RX11 "COLUMNS" "[I") (.int 1)) (.int 2)) (by decide +kernel))).trans (congrArg (fun z => some (Value.int z)) (by decide +kernel : (2 : Int32) = Int32.ofInt (zcol 1)))
    | 2, _ => exact (va_eqt (z := 1) (hs (.eq (.elem (.static RX11 "COLUMNS" "[I") (.int 2)) (.int 1)) (by decide +kernel))).trans (congrArg (fun z => some (Value.int z)) (by decide +kernel : (1 : Int32) = Int32.ofInt (zcol 2)))
    | 3, _ => exact (va_eqt (z := 3) (hs (.eq (.elem (.static RX11 "COLUMNS" "[I") (.int 3)) (.int 3)) (by decide +kernel))).trans (congrArg (fun z => some (Value.int z)) (by decide +kernel : (3 : Int32) = Int32.ofInt (zcol 3)))
    | j + 4, hj => omega
  obtain ⟨tzcol, htzcol, hTzcol⟩ := va_Tof (args := a) (s := s) (tm := (.static RX11 "COLUMNS" "[I")) (ty := .int) (N := 4) (f := fun j => vi (zcol j)) (A := fun q => s.heap.size ≤ q) (by decide) (hs (.arrayOf (.static RX11 "COLUMNS" "[I") .int) (by decide +kernel)) (va_eqt (z := 4) (hs (.eq (.length (.static RX11 "COLUMNS" "[I")) (.int 4)) (by decide +kernel))) hezcol hA
  have hezver : ∀ j : Nat, j < 4 → (Term.elem (.static RX11 "VERSION_ORDER" "[I") (.int (Int32.ofNat j))).eval a s none [] s = some (vi (zver j)) := fun j hj => by
    match j, hj with
    | 0, _ => exact (va_eqt (z := 0) (hs (.eq (.elem (.static RX11 "VERSION_ORDER" "[I") (.int 0)) (.int 0)) (by decide +kernel))).trans (congrArg (fun z => some (Value.int z)) (by decide +kernel : (0 : Int32) = Int32.ofInt (zver 0)))
    | 1, _ => exact (va_eqt (z := 2) (hs (.eq (.elem (.static RX11 "VERSION_ORDER" "[I") (.int 1)) (.int 2)) (by decide +kernel))).trans (congrArg (fun z => some (Value.int z)) (by decide +kernel : (2 : Int32) = Int32.ofInt (zver 1)))
    | 2, _ => exact (va_eqt (z := 3) (hs (.eq (.elem (.static RX11 "VERSION_ORDER" "[I") (.int 2)) (.int 3)) (by decide +kernel))).trans (congrArg (fun z => some (Value.int z)) (by decide +kernel : (3 : Int32) = Int32.ofInt (zver 2)))
    | 3, _ => exact (va_eqt (z := 1) (hs (.eq (.elem (.static RX11 "VERSION_ORDER" "[I") (.int 3)) (.int 1)) (by decide +kernel))).trans (congrArg (fun z => some (Value.int z)) (by decide +kernel : (1 : Int32) = Int32.ofInt (zver 3)))
    | j + 4, hj => omega
  obtain ⟨tzver, htzver, hTzver⟩ := va_Tof (args := a) (s := s) (tm := (.static RX11 "VERSION_ORDER" "[I")) (ty := .int) (N := 4) (f := fun j => vi (zver j)) (A := fun q => s.heap.size ≤ q) (by decide) (hs (.arrayOf (.static RX11 "VERSION_ORDER" "[I") .int) (by decide +kernel)) (va_eqt (z := 4) (hs (.eq (.length (.static RX11 "VERSION_ORDER" "[I")) (.int 4)) (by decide +kernel))) hezver hA
  refine ⟨tzcol, tzver, fun X h1 h2 => ?_⟩
  unfold zSt
  rw [h1, h2]
  exact ⟨va_Zof (args := a) (hts (.laysStatic RX11 "COLUMNS" "[I") (List.mem_of_getElem? (i := 120) (by decide +kernel))) (hts (.initialized RX11) (List.mem_of_getElem? (i := 60) (by decide +kernel))) htzcol hA, hTzcol, va_Zof (args := a) (hts (.laysStatic RX11 "VERSION_ORDER" "[I") (List.mem_of_getElem? (i := 731) (by decide +kernel))) (hts (.initialized RX11) (List.mem_of_getElem? (i := 60) (by decide +kernel))) htzver hA, hTzver⟩
/-- all of it -/
theorem lw_know (hts : ∀ w ∈ lw_tbl, w.before a s = true) (hn : (Jvm.Cond.and given_1 narrow_1).before a s = true) : ∃ (D : va_G) (cy : Nat → ClassId) (tc tv : Nat), ∀ X : zX, X.1 = D → zcy X = cy → ztc X = tc → ztv X = tv → zKn X s ∧ zSt (fun q => s.heap.size ≤ q) X s s.heap := by
  obtain ⟨cy, h1⟩ := kn_tys hts
  obtain ⟨tc, tv, h2⟩ := kn_st hts hn
  have h3 := kn_cls hts
  refine ⟨(fun k => (h3 k).choose, fun k => (h3 k).choose_spec.choose), cy, tc, tv, fun X e1 e2 e3 e4 => ⟨⟨⟨fun c q hq => ?_, h1 X e2⟩, kn_ns hts⟩, h2 X e3 e4⟩⟩
  rw [e1]
  exact (h3 c).choose_spec.choose_spec q hq
end
