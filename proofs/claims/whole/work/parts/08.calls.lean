theorem zidx (f : Class → Bool) (hf : ∀ x y : Class, x.kind = y.kind → f x = f y) (vm : Vm) : vm.bare.classes.findIdx? f = vm.classes.findIdx? f := by
  simp only [Vm.bare, Array.findIdx?_map]
  congr 1
  funext x
  exact hf _ _ rfl
theorem zidx2 {u U : State} (hvm : u.vm.Alike U.vm) (f : Class → Bool) (hf : ∀ x y : Class, x.kind = y.kind → f x = f y) {c : Nat} (h : u.vm.classes.findIdx? f = some c) : U.vm.classes.findIdx? f = some c := by
  rw [← zidx f hf U.vm]
  first | rw [hvm.bare_eq] | rw [← hvm.bare_eq]
  rw [zidx f hf]
  exact h
theorem zAb.moved {u U : State} (hvm : u.vm.Alike U.vm) (h : zAb u) : zAb U := by
  unfold zAb Cond.before Cond.holds at h ⊢
  simp only [Cond.value, beq_iff_eq, Option.bind_eq_some_iff, Option.map_eq_some_iff] at h ⊢
  obtain ⟨comp, hc, c, hi, k, hk, hm⟩ := h
  obtain ⟨k', hk', he⟩ := hvm.2.2 _ _ hk
  refine ⟨comp, by rw [hvm.findClass]; exact hc, c, zidx2 hvm _ (fun x y h => by simp only [h]) hi, k', hk', ?_⟩
  have hkind : k'.kind = k.kind := by rw [he]
  rw [hkind, hvm.findClass]
  exact hm
theorem zNs.warm {s U : State} (hW : s.WarmedH U.vm) (h : zNs s) : zNs U := by
  obtain ⟨a1, a2, a3, a4, a5, a6, a7, a8, a9, b1, b2, b3, b4⟩ := h
  exact ⟨a1.warmF hW, a2.warmF hW, a3.warmM hW, a4.warmM hW, a5.warmM hW, a6.warmM hW, a7.warmM hW, a8.warmM hW, a9.warmM hW, b1.moved hW.alike, b2.moved hW.alike, b3.moved hW.alike, b4.moved hW.alike⟩
theorem zKn.warm {X : zX} {s U : State} (hW : s.WarmedH U.vm) (h : zKn X s) : zKn X U := ⟨va_K.moved hW.alike h.1, h.2.warm hW⟩
theorem zSt.go {A : Nat → Prop} {X : zX} {s U : State} {H H1 : Heap} (hvm : s.vm.Alike U.vm) (hq : ∀ a : Nat, a < H.size → ¬ A a → H1[a]? = H[a]?) (h : zSt A X s H) : zSt A X U H1 := ⟨(h.1.moved hvm).kept hq, (h.2.1.moved hvm).kept hq, (h.2.2.1.moved hvm).kept hq, (h.2.2.2.moved hvm).kept hq⟩
theorem zSt.nar {A B : Nat → Prop} {X : zX} {U : State} {H : Heap} (hAB : ∀ q, B q → A q) (h : zSt A X U H) : zSt B X U H := ⟨h.1.narrow hAB, h.2.1.narrow hAB, h.2.2.1.narrow hAB, h.2.2.2.narrow hAB⟩
theorem zFr_A {X : zX} (hA : ∀ q, zDom X q → zA X (zad X q)) : ∀ a, zFr X a → zA X a := fun a h => by
  obtain ⟨q, hq, e⟩ := h
  rw [← e]; exact hA q hq
theorem zWd.at {X : zX} {M : zM} {I : zMem} {p : Program} {s U : State} {m : MethodId} {args : Array Value} {meth : Method} {c : Code} {H : Heap} {locs : List Loc} (hW : s.WarmedH U.vm) (hU : U.heap = H) (G : zGd X M p s m args meth c) (hR : zRel X I H) (hS : va_S (zA X) s.heap H locs) : zWd X I U := ⟨by rw [hU]; exact hR, G.2.2.2.2.2.2.2.1.warm hW, by rw [hU]; exact (G.2.2.2.2.2.2.2.2.1.go hW.alike hS.2.1).nar (zFr_A G.2.2.2.2.2.2.2.2.2.1)⟩
/-- a method's end, where what it wants follows from the world and the frame -/
def zHq (X : zX) : Prop := ∀ (T : zMT) (a : Array Value) (st t : State), zWd X T.2 t → va_F (zA X) st t → zQ X T a st (.returned T.1) t
theorem zHq_N (X : zX) : zHq (zN X) := fun T a st t h1 h2 => ⟨rfl, h1, h2⟩
theorem zNs.same {u U : State} (h : u.vm = U.vm) (hz : zNs u) : zNs U := by
  obtain ⟨a1, a2, a3, a4, a5, a6, a7, a8, a9, b1, b2, b3, b4⟩ := hz
  exact ⟨a1.same rfl h, a2.same rfl h, a3.same rfl h, a4.same rfl h, a5.same rfl h, a6.same rfl h, a7.same rfl h, a8.same rfl h, a9.same rfl h, b1.moved (by rw [h]; exact Vm.Alike.refl _), b2.moved (by rw [h]; exact Vm.Alike.refl _), b3.moved (by rw [h]; exact Vm.Alike.refl _), b4.moved (by rw [h]; exact Vm.Alike.refl _)⟩
theorem zWd.blind {X : zX} {I : zMem} {av : List Value} : FrameBlind (va_Pc av (zWd X I)) := fun a U g mk h => ⟨h.1, h.2.1, ⟨va_K.moved (u := U) (U := U.calling g mk a) (Vm.Alike.refl U.vm) h.2.2.1.1, zNs.same (u := U) (U := U.calling g mk a) rfl h.2.2.1.2⟩, zSt.go (s := U) (U := U.calling g mk a) (Vm.Alike.refl U.vm) (fun _ _ _ => rfl) h.2.2.2⟩
theorem lw_gd {y : MethodName} {b : ByteArray} {n : Nat} {r : Option FieldType} (h : Cond.code y b n r ∈ lw_ok) : GoodIn lw_ok (.code y b n r :: lw_ok) := fun w hw => by
  have hm : w ∈ lw_ok := by
    rcases List.mem_cons.mp hw with e | e
    · rw [e]; exact h
    · exact e
  exact ⟨hm, good_of_word (List.mem_filter.mp hm).2⟩
section
variable {X : zX} {T : zT} {M : zM} {pc : Nat} {lv : List (Nat × Value)} {st : List Value} {I : zMem}
theorem zW_iret {z : Int} (hq : zHq X) (hr : M.2.2.2.1 = some .int) (hd : decode M.1 pc = .ok (.ireturn, 1)) : zW X (some (vi z), I) M pc lv [vi z] I := fun p l e s m args below meth c G H locs ls hl hR hS => W.widen G.2.2.2.2.2.2.2.2.2.2.1 G.2.2.2.2.2.2.2.2.2.2.2.1 (W.iret G.1 G.2.1 (G.2.2.2.2.2.1.trans hr) (fun t ht hW => hq _ _ _ _ (zWd.at hW ht G hR hS) (hS.F ht)) hS.2.2 hd G.2.2.2.2.2.2.1)
theorem zW_zret {z : Int} (hq : zHq X) (hr : M.2.2.2.1 = some .boolean) (hz : zbo z) (hd : decode M.1 pc = .ok (.ireturn, 1)) : zW X (some (vi z), I) M pc lv [vi z] I := fun p l e s m args below meth c G H locs ls hl hR hS => W.widen G.2.2.2.2.2.2.2.2.2.2.1 G.2.2.2.2.2.2.2.2.2.2.2.1 (W.zret G.1 G.2.1 (G.2.2.2.2.2.1.trans hr) (zn_bool hz).1 (fun t ht hW => hq _ _ _ _ (zWd.at hW ht G hR hS) (hS.F ht)) hS.2.2 hd G.2.2.2.2.2.2.1)
theorem zW_lret {z : Int} (hq : zHq X) (hr : M.2.2.2.1 = some .long) (hd : decode M.1 pc = .ok (.lreturn, 1)) : zW X (some (vl z), I) M pc lv [vl z] I := fun p l e s m args below meth c G H locs ls hl hR hS => W.widen G.2.2.2.2.2.2.2.2.2.2.1 G.2.2.2.2.2.2.2.2.2.2.2.1 (W.lret G.1 G.2.1 (G.2.2.2.2.2.1.trans hr) (fun t ht hW => hq _ _ _ _ (zWd.at hW ht G hR hS) (hS.F ht)) hS.2.2 hd G.2.2.2.2.2.2.1)
theorem zW_vret (hq : zHq X) (hr : M.2.2.2.1 = none) (hd : decode M.1 pc = .ok (.return_, 1)) : zW X (none, I) M pc lv [] I := fun p l e s m args below meth c G H locs ls hl hR hS => W.widen G.2.2.2.2.2.2.2.2.2.2.1 G.2.2.2.2.2.2.2.2.2.2.2.1 (W.vret G.1 G.2.1 (G.2.2.2.2.2.1.trans hr) (fun t ht hW => hq _ _ _ _ (zWd.at hW ht G hR hS) (hS.F ht)) hS.2.2 hd G.2.2.2.2.2.2.1)
/-- a method's contract out of its walk -/
theorem zCn_of {y : MethodName} {av : List Value} (hy : plainName y.cls = true) (ho : M.2.1 = y.cls) (hl : decide ((lg_sl av).length ≤ M.2.2.1) = true) (h0 : M.2.2.2.2.cells = 0 ∧ M.2.2.2.2.slots = 0) (h : zW (zN X) T M 0 (lv_args 0 av) [] I) : zCn X M y av I T := fun l => by
  refine Met.ofW (cc := M.1) (maxL := M.2.2.1) (ret := M.2.2.2.1) hy rfl ?_
  intro p e s m args below meth c s₁ B hml hv
  obtain ⟨rfl, hR, hK, hSt⟩ := hv
  have hts := atoms_spec (ws := .code y M.1 M.2.2.1 M.2.2.2.1 :: lw_ok) B.pre
  have hown : s.vm.findClass M.2.1 = some m.cls := by rw [ho]; exact findClass_of_methodNamed B.named
  rw [lg_entry_eq]
  have hh := h p l e s m av.toArray below meth c ⟨B.exec, B.bytes, hml, hown, fun w hw => hts w (List.mem_cons_of_mem _ hw), B.returns, B.notSynchronized, hK, hSt, fun q hq => ⟨q, hq, rfl⟩, Nat.zero_le _, Nat.zero_le _, fun _ hz => absurd h0.1 hz⟩ s.heap [] _ (lv_entry av (of_decide_eq_true hl)) hR va_S.rf
  rw [h0.1, h0.2] at hh
  exact hh
theorem zcall {p : Program} {l : Launch} {e : Env} {R : Room} {s : State} {m : MethodId} {args : Array Value} {below : List Frame} {meth : Method} {c : Code} {H : Heap} {locs : List Loc} {Q : State → Prop} {ls : Array Slot} {rest st0 : List Value} {a : Array Value} {T' : zT} {cs ss : Nat} (hr : va_Run p l e R s m args below meth c H locs cs ss 0 0 (F0 m pc ls st0) rest (zQc X T' a) (zFr X)) (hS : va_S (zA X) s.heap H locs) (hA : ∀ a, zFr X a → zA X a)
    (kk : ∀ (H1 : Heap) (locs1 : List Loc), zRel X T'.2 H1 → va_S (zA X) s.heap H1 locs1 → W p l e R s m args below meth c H1 locs1 cs ss Q (F0 m (pc + 3) ls (T'.1.toList ++ rest))) : W p l e R s m args below meth c H locs cs ss Q (F0 m pc ls st0) := by
  intro U hU Xs
  obtain ⟨v, st₀, t, U', L, h0, X', hL, e1, e2, ⟨hv, hw, hz, hk⟩, st⟩ := hr U hU Xs
  cases Outcome.returned.inj hv
  rw [h0] at hz hk
  obtain ⟨t2, a1, b1⟩ := kk U'.heap (locs ++ L) (by rw [e1]; exact hw.1)
    ⟨Nat.le_trans hS.1 (by rw [e1]; exact hz), fun q h1 h2 => by rw [e1, hk q (Nat.lt_of_lt_of_le h1 hS.1) (fun z => h2 (hA q z))]; exact hS.2.1 q h1 h2, fun q hq => by
      rcases List.mem_append.mp hq with h | h
      · exact hS.2.2 q h
      · exact hA _ (hL q h)⟩ U' rfl X'
  exact ⟨t2, st t2 a1, b1⟩
/-- a method that is called: its words -/
def zMc (own : String) (idx : Nat) (y : MethodName) (M' : zM) (n : Nat) : Prop := Cond.methodLink own idx y ∈ lw_ok ∧ Cond.initialized y.cls ∈ lw_ok ∧ Cond.code y M'.1 M'.2.2.1 M'.2.2.2.1 ∈ lw_ok ∧ (y.cls ≠ "java/lang/invoke/MethodHandle" ∧ y.cls ≠ "java/lang/invoke/VarHandle" ∧ (parseMethodDescriptor y.desc).map (fun d => d.parameters.length) = some n) ∧ M'.2.2.2.2.cells = 0 ∧ M'.2.2.2.2.slots = 0
def zMv (own : String) (idx : Nat) (y : MethodName) (M' : zM) (n ci : Nat) : Prop := zMc own idx y M' n ∧ Cond.instanceMethod y ∈ lw_ok ∧ ∃ (C : String) (Tb : u_T) (N : Nat), vwCl[ci]? = some (C, Tb, N) ∧ Cond.selects C y y ∈ lw_ok ∧ ci < 13
def zMs (own : String) (idx : Nat) (y : MethodName) (M' : zM) (n : Nat) : Prop := zMc own idx y M' n ∧ Cond.static y ∈ lw_ok
theorem zrecv {s : State} {H : Heap} {q : zPl} {ci N : Nat} (hK : zKn X s) (hR : zRel X I H) (hq : zDom X q) (hk : zkd q.1 = (ci, N)) (h13 : ci < 13) {C : String} {Tb : u_T} {N' : Nat} (hc : vwCl[ci]? = some (C, Tb, N')) : ∃ cell : Cell, H[zad X q]? = some cell ∧ cell.vm.isStatics = false ∧ s.vm.findClass C = some cell.cls := by
  obtain ⟨cell, q1, q2, q3, -⟩ := (zat_o hk h13).mp (hR.1 q hq)
  exact ⟨cell, q1, by rw [q3]; rfl, by rw [q2]; exact (hK.1.1 ci _ hc).2.1⟩
theorem zW_callV {y : MethodName} {M' : zM} {As : List Value} {T' : zT} {q : zPl} {idx n ci N : Nat} {stk : List Value} (hC : zCn X M' y (.ref (zad X q) :: As) I T') (hm : zMv M.2.1 idx y M' n ci) (hq : zDom X q) (hk : zkd q.1 = (ci, N)) (hroom : decide (M'.2.2.2.2.frames + 1 ≤ M.2.2.2.2.frames ∧ 8 + (M'.2.2.1 + 11) + M'.2.2.2.2.locals ≤ M.2.2.2.2.locals) = true) (hn : As.length = n) (hsum : decide ((st.map fun v => v.category).sum ≤ 8) = true) (hstk : stk = As.reverse ++ .ref (zad X q) :: st) (hd : decode M.1 pc = .ok (.invokevirtual idx, 3)) (kk : zW X T M (pc + 3) lv (T'.1.toList ++ st) T'.2) : zW X T M pc lv stk I := fun p l e s m args below meth c G H locs ls hl hR hS => by
  subst hstk
  obtain ⟨⟨h1, h2, h3, h4, h5, h6⟩, h7, C, Tb, N', hc, h8, h13⟩ := hm
  have hts := G.2.2.2.2.1
  have cw : CallW M.2.2.2.2 s args M.2.1 C idx y M'.1 M'.2.2.1 M'.2.2.2.1 (.code y M'.1 M'.2.2.1 M'.2.2.2.1 :: lw_ok) M'.2.2.2.2 0 0 n := ⟨callB_of n hts (lw_gd h3) rfl h5 h6 (hts _ h2) (hts _ h1) h4 (of_decide_eq_true hroom), hts _ h7, hts _ h8⟩
  refine zcall (T' := T') (va_runV (Ts := lw_ok) (As := As) (rest := st) (b := zad X q) ⟨G.1, G.2.1, G.2.2.1, G.2.2.2.1, hts⟩ (hC l) cw ⟨zWd.blind, zrecv G.2.2.2.2.2.2.2.1 hR hq hk h13 hc, fun U hU hW => ⟨rfl, zWd.at hW hU G hR hS⟩⟩ rfl hn hl.1 rfl (lv_room (of_decide_eq_true hsum)) hd ⟨G.2.2.2.2.2.2.2.2.2.2.1, G.2.2.2.2.2.2.2.2.2.2.2.1⟩) hS (zFr_A G.2.2.2.2.2.2.2.2.2.1) (fun H1 locs1 hR1 hS1 => kk p l e s m args below meth c G H1 locs1 ls hl hR1 hS1)
theorem zW_callS {y : MethodName} {M' : zM} {As : List Value} {T' : zT} {idx n : Nat} {stk : List Value} (hC : zCn X M' y As I T') (hm : zMs M.2.1 idx y M' n) (hroom : decide (M'.2.2.2.2.frames + 1 ≤ M.2.2.2.2.frames ∧ 8 + (M'.2.2.1 + 11) + M'.2.2.2.2.locals ≤ M.2.2.2.2.locals) = true) (hn : As.length = n) (hsum : decide ((st.map fun v => v.category).sum ≤ 8) = true) (hstk : stk = As.reverse ++ st) (hd : decode M.1 pc = .ok (.invokestatic idx, 3)) (kk : zW X T M (pc + 3) lv (T'.1.toList ++ st) T'.2) : zW X T M pc lv stk I := fun p l e s m args below meth c G H locs ls hl hR hS => by
  subst hstk
  obtain ⟨⟨h1, h2, h3, h4, h5, h6⟩, h7⟩ := hm
  have hts := G.2.2.2.2.1
  refine zcall (T' := T') (va_runS (Ts := lw_ok) (As := As) (rest := st) ⟨G.1, G.2.1, G.2.2.1, G.2.2.2.1, hts⟩ (hC l) ⟨callB_of n hts (lw_gd h3) rfl h5 h6 (hts _ h2) (hts _ h1) h4 (of_decide_eq_true hroom), hts _ h7⟩ ⟨zWd.blind, fun U hU hW => ⟨rfl, zWd.at hW hU G hR hS⟩⟩ rfl hn hl.1 rfl (lv_room (of_decide_eq_true hsum)) hd ⟨G.2.2.2.2.2.2.2.2.2.2.1, G.2.2.2.2.2.2.2.2.2.2.2.1⟩) hS (zFr_A G.2.2.2.2.2.2.2.2.2.1) (fun H1 locs1 hR1 hS1 => kk p l e s m args below meth c G H1 locs1 ls hl hR1 hS1)
end
