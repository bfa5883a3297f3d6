/-! byte[4][60] in one instruction: the world grows by the outer array and four inner ones -/
def wmn (X : zX) : Nat → zX
  | 0 => znw X (29, 0, 0) 4
  | i + 1 => zpt (znw (wmn X i) (30, 0, i) 60) (29, 0, 0) i (30, 0, i)
def imn (I : zMem) : Nat → zMem
  | 0 => zzr I (29, 0, 0)
  | i + 1 => zzr (imn I i) (30, 0, i)
theorem wmn_fix (X : zX) : ∀ i, (wmn X i).1 = X.1 ∧ zcy (wmn X i) = zcy X ∧ zad (wmn X i) = zad X ∧ ztc (wmn X i) = ztc X ∧ ztv (wmn X i) = ztv X ∧ zA (wmn X i) = zA X ∧ zQ (wmn X i) = zQ X ∧ zk (wmn X i) = zk X + 1 + i ∧ zn (wmn X i) = zn X + 4 + 60 * i ∧ zz (wmn X i) = zz X + 1 + i ∧ zDom (wmn X i) (29, 0, 0)
  | 0 => ⟨rfl, rfl, rfl, rfl, rfl, rfl, rfl, rfl, rfl, rfl, Or.inl rfl⟩
  | i + 1 => by
    obtain ⟨h1, h2, h3, h4, h5, h6, h7, h8, h9, h10, h11⟩ := wmn_fix X i
    refine ⟨h1, h2, h3, h4, h5, h6, h7, ?_, ?_, ?_, Or.inr h11⟩
    · show zk (wmn X i) + 1 = _; rw [h8]; omega
    · show zn (wmn X i) + 60 = _; rw [h9]; omega
    · show zz (wmn X i) + 1 = _; rw [h10]; omega
theorem zGd_mn {X : zX} {M : zM} {p : Program} {s : State} {m : MethodId} {args : Array Value} {meth : Method} {c : Code} (G : zGd X M p s m args meth c) (hA : zNA X) (h0 : zad X (29, 0, 0) = zz X) (hi : ∀ i, i < 4 → zad X (30, 0, i) = zz X + 1 + i) (hr : zk X + 5 ≤ M.2.2.2.2.cells ∧ zn X + 244 ≤ M.2.2.2.2.slots) : ∀ i, i ≤ 4 → zGd (wmn X i) M p s m args meth c
  | 0, _ => zGd_new G h0 (hA _ (Nat.le_refl _)) ⟨by omega, by omega⟩
  | i + 1, h => by
    have hG := zGd_mn G hA h0 hi hr i (by omega)
    obtain ⟨h1, h2, h3, h4, h5, h6, h7, h8, h9, h10, h11⟩ := wmn_fix X i
    exact zGd_new hG (by rw [h3, h10]; exact hi i (by omega)) (by rw [h6, h10]; exact hA _ (by omega)) (by rw [h8, h9]; omega)
section
variable {X : zX} {T : zT} {M : zM} {pc : Nat} {lv : List (Nat × Value)} {st : List Value} {I : zMem}
theorem zmk1 {E : CtlPost} {e : Env} {d : Bool} {acts : List Action} {S : State} {comp cc : ClassId} {kC : Class} {Q : Addr → Pre} (hk : S.vm.classes[comp]? = some kC) (hkind : kC.kind = .array cc .byte) (h1 : ¬ 60 > e.platform.arrayLengthLimit) (h2 : ¬ 60 * componentBytes .byte > e.platform.maxHeapBytes) (hc : S.heap.size < e.platform.maxCells) (hs : S.slotsUsed + 60 ≤ e.platform.maxSlots) (hq : ∀ acts', Q S.heap.size d acts' (S.pushCell { cls := comp, slots := Array.replicate 60 (.int 0) })) : wp (multianewarray.make comp [60]) Q E e d acts S := by
  rw [multianewarray.make]
  simp only [wp_bind', W.ite, show ¬ (60 : Int32) < 0 by decide, if_false, wp_pure', W.theClass, hk, hkind, Option.some.injEq, exists_eq_left']
  exact W.newArray_of hk hkind h1 h2 hc hs rfl hq
theorem zmn_step {p : Program} {l : Launch} {e : Env} {R : Room} {s : State} {m : MethodId} {args : Array Value} {below : List Frame} {meth : Method} {c : Code} {ic : Cell} {vm₁ : Vm} (hic : ic = arrV (zcy X 13) 60 (fun _ => vi 0)) (h0 : zad X (29, 0, 0) = zz X) (hi : ∀ i, i < 4 → zad X (30, 0, i) = zz X + 1 + i) (hA : zNA X) (i : Nat) (V : State) (L : List Loc) (h4 : i < 4) (hV : Stand p l e R s m args below meth c V L (zk X + 1 + i) (zn X + 4 + 60 * i)) (hRV : zRel (wmn X i) (imn I i) V.heap) (hvm : V.vm = vm₁) (hSV : va_S (zA X) s.heap V.heap L) :
      ∃ cell, (V.pushCell ic).heap[zad X (29, 0, 0)]? = some cell ∧ cell.vm = .none ∧ cell.cls = zcy X 20 ∧ cell.slots.size = 4 ∧
       ∃ L', Stand p l e R s m args below meth c ((V.pushCell ic).setCell (zad X (29, 0, 0)) (cell.setSlot i (.ref V.heap.size))) L' (zk X + 1 + (i + 1)) (zn X + 4 + 60 * (i + 1)) ∧ zRel (wmn X (i + 1)) (imn I (i + 1)) ((V.pushCell ic).setCell (zad X (29, 0, 0)) (cell.setSlot i (.ref V.heap.size))).heap ∧ ((V.pushCell ic).setCell (zad X (29, 0, 0)) (cell.setSlot i (.ref V.heap.size))).vm = vm₁ ∧ va_S (zA X) s.heap ((V.pushCell ic).setCell (zad X (29, 0, 0)) (cell.setSlot i (.ref V.heap.size))).heap L' := by
  obtain ⟨w1, w2, w3, w4, w5, w6, w7, w8, w9, w10, w11⟩ := wmn_fix X i
  have hp : (V.pushCell ic).heap = V.heap.push ic := rfl
  have hai : zad (wmn X i) (30, 0, i) = zz (wmn X i) := by rw [w3, w10]; exact hi i h4
  have hsz : ic.slots.size = 60 := by rw [hic, arrV_size]
  have hR1 : zRel (znw (wmn X i) (30, 0, i) 60) (zzr (imn I i) (30, 0, i)) (V.pushCell ic).heap := by
    refine zRel_new hRV hai ((zat_a (kd := 13) (N := 60) rfl (by decide)).mpr ?_) (by rw [hp, Array.size_push]) (fun a h => by rw [hp, Array.getElem?_push, if_neg (Nat.ne_of_lt h)])
    have e0 : (V.pushCell ic).heap[zad (wmn X i) (30, 0, i)]? = some ic := by rw [hai, ← hRV.2.2, hp, Array.getElem?_push_size]
    refine e0.trans (congrArg some (hic.trans ?_))
    have e4 : zcy (znw (wmn X i) (30, 0, i) 60) 13 = zcy X 13 := congrFun w2 _
    rw [e4]
    apply arrV_ext
    intro j hj
    rw [zav_i (by decide) (by decide)]; simp [zzr]
  have hq : zDom (znw (wmn X i) (30, 0, i) 60) (29, 0, 0) := Or.inr w11
  have hc := (zat_a (kd := 20) (N := 4) rfl (by decide)).mp (hR1.1 _ hq)
  have e1 : zad (znw (wmn X i) (30, 0, i) 60) (29, 0, 0) = zad X (29, 0, 0) := congrFun w3 _
  have e2 : zcy (znw (wmn X i) (30, 0, i) 60) 20 = zcy X 20 := congrFun w2 _
  rw [e1, e2] at hc
  generalize hcell : arrV (zcy X 20) 4 (zav (znw (wmn X i) (30, 0, i) 60) (zzr (imn I i) (30, 0, i)) (29, 0, 0) 20) = cell at hc
  refine ⟨cell, hc, by rw [← hcell]; rfl, by rw [← hcell]; rfl, by rw [← hcell, arrV_size], ?_⟩
  have hX2 := (hV.pushed ic).stored hc i (.ref V.heap.size)
  have hlt : zad X (29, 0, 0) < (V.pushCell ic).heap.size := (Array.getElem?_eq_some_iff.mp hc).1
  have hoth : ∀ a, a ≠ zad X (29, 0, 0) → ((V.pushCell ic).setCell (zad X (29, 0, 0)) (cell.setSlot i (.ref V.heap.size))).heap[a]? = (V.pushCell ic).heap[a]? := fun a h => heapAt_setCell_ne _ (Ne.symm h)
  have hS1 : va_S (zA X) s.heap (V.pushCell ic).heap L := zS_new hSV (by rw [hp, Array.size_push]) (fun a h => by rw [hp, Array.getElem?_push, if_neg (Nat.ne_of_lt h)])
  refine ⟨L ++ [⟨zad X (29, 0, 0), i⟩], ?_, ?_, hvm, hS1.put (size_setCell _ _ _) hoth (by rw [h0]; exact hA _ (Nat.le_refl _))⟩
  · have e3 : zn X + 4 + 60 * (i + 1) = zn X + 4 + 60 * i + ic.slots.size := by rw [hsz]; omega
    rw [e3]
    exact hX2
  · refine zRel_pt hR1 hq ((zat_a (kd := 20) (N := 4) rfl (by decide)).mpr ?_) (by rw [e1]; exact hoth) (size_setCell _ _ _)
    have e5 : zad (zpt (znw (wmn X i) (30, 0, i) 60) (29, 0, 0) i (30, 0, i)) (29, 0, 0) = zad X (29, 0, 0) := e1
    have e6 : zcy (zpt (znw (wmn X i) (30, 0, i) 60) (29, 0, 0) i (30, 0, i)) 20 = zcy X 20 := e2
    rw [e5, e6, heapAt_setCell_self _ hlt, ← hcell, arrV_store]
    apply congrArg some
    apply arrV_ext
    intro j hj
    unfold updV
    by_cases ej : j = i
    · rw [if_pos ej, zav_r (by decide) (by decide) (if_pos ⟨rfl, ej⟩)]
      show Value.ref V.heap.size = Value.ref (zad (wmn X i) (30, 0, i))
      rw [hai, hRV.2.2]
    · rw [if_neg ej]
      unfold zav
      have : zP (zpt (znw (wmn X i) (30, 0, i) 60) (29, 0, 0) i (30, 0, i)) (29, 0, 0) j = zP (znw (wmn X i) (30, 0, i) 60) (29, 0, 0) j := if_neg fun c => ej c.2
      rw [this]; rfl
theorem zmn_it {E : CtlPost} {e : Env} {d : Bool} {acts : List Action} {V V' : State} {g' : JFrame} {Q' : ForInStep PUnit → Pre} {comp' cc cA : ClassId} {kA₁ kC₁ : Class} {vm₁ : Vm} {ic cell : Cell} {a0 i : Nat} (hv : V.vm = vm₁) (hkC₁ : vm₁.classes[comp']? = some kC₁) (hkindC₁ : kC₁.kind = .array cc .byte) (hkA₁ : vm₁.classes[cA]? = some kA₁) (hkindA₁ : kA₁.kind = .array comp' (.array .byte)) (h1 : ¬ 60 > e.platform.arrayLengthLimit) (h2 : ¬ 60 * componentBytes .byte > e.platform.maxHeapBytes) (hc : V.heap.size < e.platform.maxCells) (hs : V.slotsUsed + 60 ≤ e.platform.maxSlots) (hicc : ({ cls := comp', slots := Array.replicate 60 (.int 0) } : Cell) = ic) (ga : (V.pushCell ic).heap[a0]? = some cell) (gb : cell.vm = .none) (gc : cell.cls = cA) (gd : cell.slots.size = 4) (h4 : i < 4) (hV : (V.pushCell ic).setCell a0 (cell.setSlot i (.ref V.heap.size)) = V') (hq : ∀ d' acts', Q' (.yield PUnit.unit) d' acts' (V'.setTop g')) : wp (do let r ← multianewarray.make comp' [60]; writeLoc a0 i (.ref r); Pure.pure (ForInStep.yield PUnit.unit)) Q' E e d acts (V.setTop g') := by
  simp only [wp_bind']
  refine zmk1 (kC := kC₁) (cc := cc) (by show V.vm.classes[comp']? = _; rw [hv]; exact hkC₁) hkindC₁ h1 h2 hc hs (fun acts' => ?_)
  rw [hicc]
  simp only [wp_bind', W.writeLoc, wp_pure']
  refine ⟨cell, ga, by rw [gb]; simp, by rw [gd]; exact h4, ?_, ?_⟩
  · rw [gb, gc]
    have hk' : V.vm.classes[cA]? = some kA₁ := by rw [hv]; exact hkA₁
    simp [State.fitsSlot, State.slotType?, hk', hkindA₁, fits]
  · have e : ((V.setTop g').pushCell ic).setCell a0 (cell.setSlot i (.ref (V.setTop g').heap.size)) = V'.setTop g' := by rw [← hV]; rfl
    rw [e]
    exact hq _ _
theorem zV_mna {idx : Nat} (hcl : Cond.classLink M.2.1 idx "[[B" ∈ lw_ok) (harr : Cond.arrayClass .byte ∈ lw_ok) (h0 : zad X (29, 0, 0) = zz X) (hi : ∀ i, i < 4 → zad X (30, 0, i) = zz X + 1 + i) (hA : zNA X) (hr : zk X + 5 ≤ M.2.2.2.2.cells ∧ zn X + 244 ≤ M.2.2.2.2.slots) (hd : decode M.1 pc = .ok (.multianewarray idx 2, 4)) (kk : zW (wmn X 4) T M (pc + 4) lv (.ref (zad X (29, 0, 0)) :: st) (imn I 4)) : zW X T M pc lv (vi 60 :: vi 4 :: st) I := fun p l e s m args below meth c G H locs ls hl hR hS => by
  intro U hU Xs
  have hts := G.2.2.2.2.1
  have hK := G.2.2.2.2.2.2.2.1
  have hd' : decode c.code pc = .ok (.multianewarray idx 2, 4) := by rw [G.2.1]; exact hd
  have hpl : e.platform.magicAccessors = ({} : Platform).magicAccessors := by rw [Xs.admits.platform]
  obtain ⟨comp, cA, kA, hcomp, -, hkA, hkindA, hnameA⟩ := arrayOverA_spec hK.2.2.2.2.2.2.2.2.2.2.2.2.2
  obtain ⟨comp', kC, cc, hcomp', hkC, hkindC⟩ := Cond.arrayClass_spec (hts _ harr)
  have ec : comp' = comp := Option.some.inj (hcomp'.symm.trans hcomp)
  subst ec
  have hc13 : zcy X 13 = comp' := Option.some.inj ((hK.1.2 0 _ rfl).2.symm.trans hcomp')
  have hc20 : zcy X 20 = cA := Option.some.inj ((hK.1.2 7 _ rfl).2.symm.trans hnameA)
  obtain ⟨c0, hfc0, hcl'⟩ := Cond.classLink_spec G.2.2.2.1 (hts _ hcl) e.platform hpl
  cases hnameA.symm.trans hfc0
  obtain ⟨hg₁, hwarm₁, hready₁⟩ := State.classEntry (e := e) Xs.warmed hcl'
  generalize U.vm.noted m.cls idx (.cls cA) = vm₁ at hg₁ hwarm₁ hready₁
  have hal : s.vm.Alike vm₁ := hwarm₁.alike
  obtain ⟨kA₁, hkA₁, heA⟩ := hal.2.2 _ _ hkA
  obtain ⟨kC₁, hkC₁, heC⟩ := hal.2.2 _ _ hkC
  have hkindA₁ : kA₁.kind = .array comp' (.array .byte) := by rw [heA]; exact hkindA
  have hkindC₁ : kC₁.kind = .array cc .byte := by rw [heC]; exact hkindC
  have X₁ := Xs.noted hwarm₁
  have hl1 : ¬ 4 > e.platform.arrayLengthLimit := by rw [Launch.admits_arrayLengthLimit Xs.admits]; omega
  have hh1 : ¬ 4 * componentBytes (.array .byte) > e.platform.maxHeapBytes := by
    rw [Launch.admits_maxHeapBytes Xs.admits]; decide
  have hl2 : ¬ 60 > e.platform.arrayLengthLimit := by rw [Launch.admits_arrayLengthLimit Xs.admits]; omega
  have hh2 : ¬ 60 * componentBytes .byte > e.platform.maxHeapBytes := by rw [Launch.admits_maxHeapBytes Xs.admits]; decide
  have hic : ({ cls := comp', slots := Array.replicate 60 (.int 0) } : Cell) = arrV (zcy X 13) 60 (fun _ => vi 0) := by rw [hc13]; exact arrV_new _ _ _
  have hoc : ({ cls := cA, slots := Array.replicate 4 .null } : Cell) = arrV (zcy X 20) 4 (fun _ => .null) := by rw [hc20]; exact arrV_new _ _ _
  have hsz : U.heap.size = zz X := by rw [hU]; exact hR.2.2
  have hoc4 : ({ cls := cA, slots := Array.replicate 4 .null } : Cell).slots.size = 4 := by rw [hoc, arrV_size]
  have hX0 : Stand p l e M.2.2.2.2 s m args below meth c ((U.setVm vm₁).pushCell { cls := cA, slots := Array.replicate 4 .null }) locs (zk X + 1 + 0) (zn X + 4 + 60 * 0) := by
    have h := X₁.pushed { cls := cA, slots := Array.replicate 4 .null }
    rw [hoc4] at h
    exact h
  generalize hocc : ({ cls := cA, slots := Array.replicate 4 .null } : Cell) = oc at hoc hX0
  have hp : ((U.setVm vm₁).pushCell oc).heap = H.push oc := by rw [← hU]; rfl
  have hR0 : zRel (wmn X 0) (imn I 0) ((U.setVm vm₁).pushCell oc).heap := by
    rw [hp]
    refine zRel_new hR h0 ((zat_a (kd := 20) (N := 4) rfl (by decide)).mpr ?_) (Array.size_push ..) (fun a h => by rw [Array.getElem?_push, if_neg (Nat.ne_of_lt h)])
    have e0 : (H.push oc)[zad X (29, 0, 0)]? = some oc := by rw [h0, ← hR.2.2, Array.getElem?_push_size]
    refine e0.trans (congrArg some (hoc.trans ?_))
    apply arrV_ext
    intro j hj
    exact (zav_n (by decide) (by decide) (show zP (znw X (29, 0, 0) 4) (29, 0, 0) j = none by simp [zP, znw])).symm
  have hS0 : va_S (zA X) s.heap ((U.setVm vm₁).pushCell oc).heap locs := by
    rw [hp]; exact zS_new hS (Array.size_push ..) (fun a h => by rw [Array.getElem?_push, if_neg (Nat.ne_of_lt h)])
  have hend : ∀ (V : State) (L : List Loc), Stand p l e M.2.2.2.2 s m args below meth c V L (zk X + 1 + 4) (zn X + 4 + 60 * 4) → zRel (wmn X 4) (imn I 4) V.heap → va_S (zA X) s.heap V.heap L → ∃ t, Steps p.tables e below (V.setTop (F0 m (pc + 4) ls (.ref (zad X (29, 0, 0)) :: st))) t ∧ MQ below (zQ X T) args s M.2.2.2.2.cells M.2.2.2.2.slots (zA X) t := by
    intro V L hV hRV hSV
    exact kk p l e s m args below meth c (zGd_mn G hA h0 hi hr 4 (by omega)) V.heap L ls hl hRV hSV V rfl hV
  generalize hicc : ({ cls := comp', slots := Array.replicate 60 (.int 0) } : Cell) = ic at hic
  have hic60 : ic.slots.size = 60 := by rw [hic, arrV_size]
  obtain ⟨c0, g0a, g0b, g0c, g0d, L1, hX1, hR1, hv1, hS1⟩ := zmn_step (vm₁ := vm₁) hic h0 hi hA 0 ((U.setVm vm₁).pushCell oc) locs (by omega) hX0 hR0 rfl hS0
  generalize hV1 : (State.pushCell ((U.setVm vm₁).pushCell oc) ic).setCell (zad X (29, 0, 0)) (c0.setSlot 0 (.ref (Array.size (State.heap ((U.setVm vm₁).pushCell oc))))) = V1 at hX1 hR1 hv1 hS1
  obtain ⟨c1, g1a, g1b, g1c, g1d, L2, hX2, hR2, hv2, hS2⟩ := zmn_step (vm₁ := vm₁) hic h0 hi hA 1 V1 L1 (by omega) hX1 hR1 hv1 hS1
  generalize hV2 : (State.pushCell V1 ic).setCell (zad X (29, 0, 0)) (c1.setSlot 1 (.ref (Array.size (State.heap V1)))) = V2 at hX2 hR2 hv2 hS2
  obtain ⟨c2, g2a, g2b, g2c, g2d, L3, hX3, hR3, hv3, hS3⟩ := zmn_step (vm₁ := vm₁) hic h0 hi hA 2 V2 L2 (by omega) hX2 hR2 hv2 hS2
  generalize hV3 : (State.pushCell V2 ic).setCell (zad X (29, 0, 0)) (c2.setSlot 2 (.ref (Array.size (State.heap V2)))) = V3 at hX3 hR3 hv3 hS3
  obtain ⟨c3, g3a, g3b, g3c, g3d, L4, hX4, hR4, hv4, hS4⟩ := zmn_step (vm₁ := vm₁) hic h0 hi hA 3 V3 L3 (by omega) hX3 hR3 hv3 hS3
  generalize hV4 : (State.pushCell V3 ic).setCell (zad X (29, 0, 0)) (c3.setSlot 3 (.ref (Array.size (State.heap V3)))) = V4 at hX4 hR4 hv4 hS4
  obtain ⟨t, a1, b1⟩ := hend V4 L4 hX4 hR4 hS4
  refine ⟨t, ?_, b1⟩
  jvm_step Xs.here [G.1, hd']
  simp only [multianewarray.sem, wp_bind', W.resolveClassAt_links (State.method?_setTop (F0 m pc ls (vi 60 :: vi 4 :: st)) Xs.here.top) hg₁]
  rw [W.popN, if_neg (by decide)]
  refine ⟨F0 m pc ls (vi 60 :: vi 4 :: st), State.topJava?_setTop' (s := U.setVm vm₁) _ Xs.here.top, [vi 4, vi 60], st, rfl, rfl, ?_⟩
  simp only [List.mapM_cons, List.mapM_nil, wp_bind', wp_pure']
  have eS : ((U.setTop (F0 m pc ls (vi 60 :: vi 4 :: st))).setVm vm₁).setTop { method := m, pc := pc, locals := ls, stack := st, locked := none } = (U.setVm vm₁).setTop { method := m, pc := pc, locals := ls, stack := st, locked := none } := by
    show ((U.setVm vm₁).setTop (F0 m pc ls (vi 60 :: vi 4 :: st))).setTop _ = _
    rw [State.setTop_setTop]
  rw [eS, show Int32.ofInt 4 = 4 from rfl, show Int32.ofInt 60 = 60 from rfl, multianewarray.make]
  simp only [wp_bind', W.ite, show ¬ (4 : Int32) < 0 by decide, if_false, wp_pure', W.theClass, show ((U.setVm vm₁).setTop { method := m, pc := pc, locals := ls, stack := st, locked := none }).vm.classes[cA]? = some kA₁ from hkA₁, hkindA₁, Option.some.injEq, exists_eq_left']
  obtain ⟨hr1, hr2⟩ := Xs.roomAbove (show zk X + 1 ≤ M.2.2.2.2.cells by omega) (show zn X + 4 ≤ M.2.2.2.2.slots by omega)
  refine W.newArray_of (k := kA₁) (comp := comp') (type := .array .byte) hkA₁ hkindA₁ hl1 hh1 (by show U.heap.size < _; omega) (by show U.slotsUsed + 4 ≤ _; exact hr2) rfl (fun acts' => ?_)
  have ha : Array.size (((U.setVm vm₁).setTop { method := m, pc := pc, locals := ls, stack := st, locked := none }).heap) = zad X (29, 0, 0) := by
    show U.heap.size = _
    rw [hsz, h0]
  rw [ha, if_neg (by decide), show Int32.toNatClampNeg 4 = 4 from rfl, hocc]
  have eS2 : ((U.setVm vm₁).setTop { method := m, pc := pc, locals := ls, stack := st, locked := none }).pushCell oc = ((U.setVm vm₁).pushCell oc).setTop { method := m, pc := pc, locals := ls, stack := st, locked := none } := rfl
  rw [eS2, wp_bind', Std.Legacy.Range.forIn_eq_forIn_range']
  show wp (forIn [0, 1, 2, 3] PUnit.unit _) _ _ e _ _ _
  obtain ⟨q0a, q0b⟩ := hX0.roomAbove (show zk X + 1 + 0 + 1 ≤ M.2.2.2.2.cells by omega) (show zn X + 4 + 60 * 0 + 60 ≤ M.2.2.2.2.slots by omega)
  rw [List.forIn_cons, wp_bind']
  refine zmn_it (V' := V1) rfl hkC₁ hkindC₁ hkA₁ hkindA₁ hl2 hh2 (by omega) q0b hicc g0a g0b (g0c.trans hc20) g0d (by omega) hV1 (fun d0 acts0 => ?_)
  dsimp only
  obtain ⟨q1a, q1b⟩ := hX1.roomAbove (show zk X + 1 + 1 + 1 ≤ M.2.2.2.2.cells by omega) (show zn X + 4 + 60 * 1 + 60 ≤ M.2.2.2.2.slots by omega)
  rw [List.forIn_cons, wp_bind']
  refine zmn_it (V' := V2) hv1 hkC₁ hkindC₁ hkA₁ hkindA₁ hl2 hh2 (by omega) q1b hicc g1a g1b (g1c.trans hc20) g1d (by omega) hV2 (fun d1 acts1 => ?_)
  dsimp only
  obtain ⟨q2a, q2b⟩ := hX2.roomAbove (show zk X + 1 + 2 + 1 ≤ M.2.2.2.2.cells by omega) (show zn X + 4 + 60 * 2 + 60 ≤ M.2.2.2.2.slots by omega)
  rw [List.forIn_cons, wp_bind']
  refine zmn_it (V' := V3) hv2 hkC₁ hkindC₁ hkA₁ hkindA₁ hl2 hh2 (by omega) q2b hicc g2a g2b (g2c.trans hc20) g2d (by omega) hV3 (fun d2 acts2 => ?_)
  dsimp only
  obtain ⟨q3a, q3b⟩ := hX3.roomAbove (show zk X + 1 + 3 + 1 ≤ M.2.2.2.2.cells by omega) (show zn X + 4 + 60 * 3 + 60 ≤ M.2.2.2.2.slots by omega)
  rw [List.forIn_cons, wp_bind']
  refine zmn_it (V' := V4) hv3 hkC₁ hkindC₁ hkA₁ hkindA₁ hl2 hh2 (by omega) q3b hicc g3a g3b (g3c.trans hc20) g3d (by omega) hV4 (fun d3 acts3 => ?_)
  dsimp only
  rw [List.forIn_nil]
  simp only [wp_bind', wp_pure', W.mark, W.pushRef, State.topJava?_setTop' _ hX4.here.top, Option.some.injEq, exists_eq_left', State.setTop_setTop, State.heap_setTop]
  intro acts
  simp [jvm, hX4.here.top]
  exact a1
end
