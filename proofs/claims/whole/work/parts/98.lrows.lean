/-! THE LAW: two worlds, the class's and the model's, in one heap -/
abbrev lwA (s : State) : Nat → Prop := fun q => s.heap.size ≤ q
def lwH (s : State) (X Y : zX) (I J : zMem) (H : Heap) : Prop := zRel X I H ∧ zRel Y J H ∧ (∀ q q', zDom X q → zDom Y q' → zad X q ≠ zad Y q') ∧ (∀ q, zDom X q → s.heap.size ≤ zad X q) ∧ ∀ q, zDom Y q → s.heap.size ≤ zad Y q
def lwK (s : State) (X : zX) : Prop := zKn X s ∧ zSt (lwA s) X s s.heap
theorem lwH.sy {s : State} {X Y : zX} {I J : zMem} {H : Heap} (h : lwH s X Y I J H) : lwH s Y X J I H := ⟨h.2.1, h.1, fun q q' a b e => h.2.2.1 q' q b a e.symm, h.2.2.2.2, h.2.2.2.1⟩
/-- a world, with another size of the heap -/
def zsz (Y : zX) (z : Nat) : zX := (Y.1, Y.2.1, zad Y, zDom Y, zP Y, ztc Y, ztv Y, zA Y, zQ Y, zk Y, zn Y, z)
theorem zRel_pass {Y : zX} {J : zMem} {H H1 : Heap} {Bf : Nat → Prop} (h : zRel Y J H) (hk : ∀ q, q < H.size → ¬ Bf q → H1[q]? = H[q]?) (hn : ∀ q, zDom Y q → ¬ Bf (zad Y q)) {z : Nat} (hz : H1.size = z) : zRel (zsz Y z) J H1 :=
  ⟨fun q hq => zat_like (X := Y) ⟨rfl, rfl, rfl⟩ (fun _ _ => rfl) (h.1 q hq) (hk _ (zat_lt (h.1 q hq)) (hn q hq)) (fun _ => rfl), h.2.1, hz⟩
theorem zRel_stay {Y : zX} {J : zMem} {H H1 : Heap} {Bf : Nat → Prop} (h : zRel Y J H) (hk : ∀ q, q < H.size → ¬ Bf q → H1[q]? = H[q]?) (hn : ∀ q, zDom Y q → ¬ Bf (zad Y q)) (hz : H1.size = H.size) : zRel Y J H1 :=
  ⟨fun q hq => zat_kept (h.1 q hq) (hk _ (zat_lt (h.1 q hq)) (hn q hq)) (fun _ => rfl), h.2.1, hz.trans h.2.2⟩
theorem zWf.sz {Y : zX} {e : Nat → Prop} {z : Nat} (h : zWf Y e) (hq : zHq (zsz Y z)) : zWf (zsz Y z) e := ⟨h.1, h.2.1, hq⟩
theorem lwK.lk {s : State} {X X' : zX} (h : lwK s X) (hl : zLk X X') : lwK s X' := ⟨zKn_lk hl h.1, zSt_lk hl h.2⟩
theorem i32x (z : Int32) : i32 z.toInt := by
  have h := w32_rng z.toInt
  unfold w32 at h
  rw [Int32.ofInt_toInt] at h
  exact h
theorem w32x (z : Int32) : w32 z.toInt = z.toInt := by unfold w32; rw [Int32.ofInt_toInt]
section
variable {p : Program} {l : Launch} {v : Env} {s : State} {g : MethodId} {B : List Frame} {meth : Method} {co : Code} {b L : Nat} {xs : Nat → Int32} {Q : State → Prop} {H : Heap} {locs : List Loc} {ls : Array Slot} {cs ss pc : Nat} {st stk : List Value} {lv : List (Nat × Value)}
theorem lw_tok (C0 : lw_At p s g meth co b L xs) : ∀ w ∈ lw_ok, w.before #[Value.ref b] s = true := fun w hw => C0.2.2.2.2.2.1 w (List.mem_filter.mp hw).1
theorem lw_wd {X : zX} {I : zMem} {U : State} (hK : lwK s X) (hR : zRel X I H) (hA : ∀ q, zDom X q → s.heap.size ≤ zad X q) (hS : va_S (lwA s) s.heap H locs) (hW : s.WarmedH U.vm) (hU : U.heap = H) : zWd X I U :=
  ⟨by rw [hU]; exact hR, hK.1.warm hW, by rw [hU]; exact (hK.2.go hW.alike hS.2.1).nar (fun a ha => by obtain ⟨q, hq, e⟩ := ha; rw [← e]; exact hA q hq)⟩
theorem lw_run {mc ms : Nat} {X' : zX} {T' : zT} {Bf : Nat → Prop} {st0 rest : List Value} (hr : va_Run p l v room_1 s g #[Value.ref b] B meth co H locs cs ss mc ms (F0 g pc ls st0) rest (fun st oc t => oc = .returned T'.1 ∧ zWd X' T'.2 t ∧ va_F Bf st t) Bf) (hS : va_S (lwA s) s.heap H locs) (hA : ∀ a, Bf a → lwA s a)
    (kk : ∀ (H1 : Heap) (locs1 : List Loc), zRel X' T'.2 H1 → H.size ≤ H1.size → (∀ q, q < H.size → ¬ Bf q → H1[q]? = H[q]?) → va_S (lwA s) s.heap H1 locs1 → W p l v room_1 s g #[Value.ref b] B meth co H1 locs1 (cs + mc) (ss + ms) Q (F0 g (pc + 3) ls (T'.1.toList ++ rest))) : W p l v room_1 s g #[Value.ref b] B meth co H locs cs ss Q (F0 g pc ls st0) := by
  intro U hU Xs
  obtain ⟨r, st₀, t, U', L', h0, X'', hL, e1, e2, ⟨hv, hw, hz, hk⟩, st'⟩ := hr U hU Xs
  cases Outcome.returned.inj hv
  rw [h0] at hz hk
  obtain ⟨t2, a1, b1⟩ := kk U'.heap (locs ++ L') (by rw [e1]; exact hw.1) (by rw [e1]; exact hz) (fun q h1 h2 => by rw [e1]; exact hk q h1 h2)
    ⟨Nat.le_trans hS.1 (by rw [e1]; exact hz), fun q h1 h2 => by rw [e1, hk q (Nat.lt_of_lt_of_le h1 hS.1) (fun z => h2 (hA q z))]; exact hS.2.1 q h1 h2, fun q hq => by
      rcases List.mem_append.mp hq with h | h
      · exact hS.2.2 q h
      · exact hA _ (hL q h)⟩ U' rfl X''
  exact ⟨t2, st' t2 a1, b1⟩
/-- a call that makes no cell: of the world X, beside Y -/
theorem lw_call {X Y : zX} {I J : zMem} {T' : zT} {y : MethodName} {M' : zM} {As : List Value} {q : zPl} {idx n ci N : Nat} (C0 : lw_At p s g meth co b L xs) (hK : lwK s X) (hH : lwH s X Y I J H) (hS : va_S (lwA s) s.heap H locs) (hl : lv_has ls 4 lv) (hcs : cs ≤ room_1.cells ∧ ss ≤ room_1.slots) (hC : zCn X M' y (.ref (zad X q) :: As) I T') (hm : zMv RL idx y M' n ci) (hq : zDom X q) (hk : zkd q.1 = (ci, N)) (hroom : decide (M'.2.2.2.2.frames + 1 ≤ room_1.frames ∧ 8 + (M'.2.2.1 + 11) + M'.2.2.2.2.locals ≤ room_1.locals) = true) (hn : As.length = n) (hsum : decide ((st.map fun v => v.category).sum ≤ 8) = true) (hstk : stk = As.reverse ++ .ref (zad X q) :: st) (hd : decode code pc = .ok (.invokevirtual idx, 3))
    (kk : ∀ (H1 : Heap) (locs1 : List Loc), lwH s X Y T'.2 J H1 → va_S (lwA s) s.heap H1 locs1 → W p l v room_1 s g #[Value.ref b] B meth co H1 locs1 cs ss Q (F0 g (pc + 3) ls (T'.1.toList ++ st))) : W p l v room_1 s g #[Value.ref b] B meth co H locs cs ss Q (F0 g pc ls stk) := by
  subst hstk
  obtain ⟨⟨h1, h2, h3, h4, h5, h6⟩, h7, C, Tb, N', hc, h8, h13⟩ := hm
  have hts := lw_tok C0
  obtain ⟨hx, hb, hr, hml, hown, -⟩ := C0
  have cw : CallW room_1 s #[Value.ref b] RL C idx y M'.1 M'.2.2.1 M'.2.2.2.1 (.code y M'.1 M'.2.2.1 M'.2.2.2.1 :: lw_ok) M'.2.2.2.2 0 0 n := ⟨callB_of n hts (lw_gd h3) rfl h5 h6 (hts _ h2) (hts _ h1) h4 (of_decide_eq_true hroom), hts _ h7, hts _ h8⟩
  have hsz : H.size = zz X := hH.1.2.2
  refine lw_run (X' := X) (T' := T') (Bf := zFr X) (mc := 0) (ms := 0) (rest := st) (va_runV (Ts := lw_ok) (As := As) (rest := st) (b := zad X q) ⟨hx, hb, hml, hown, hts⟩ (hC l) cw ⟨zWd.blind, zrecv hK.1 hH.1 hq hk h13 hc, fun U hU hW => ⟨rfl, lw_wd hK hH.1 hH.2.2.2.1 hS hW hU⟩⟩ rfl hn hl.1 rfl (lv_room (of_decide_eq_true hsum)) hd hcs) hS (fun a ha => by obtain ⟨q', hq', e⟩ := ha; rw [← e]; exact hH.2.2.2.1 q' hq') (fun H1 locs1 hR1 hz1 hk1 hS1 => ?_)
  refine kk H1 locs1 ⟨hR1, zRel_stay hH.2.1 hk1 (fun q' hq' hf => ?_) (hR1.2.2.trans hsz.symm), hH.2.2⟩ hS1
  obtain ⟨q2, hq2, e⟩ := hf
  exact hH.2.2.1 q2 q' hq2 hq' e
/-- a method that makes cells and is called: its words -/
def zMw (own : String) (idx : Nat) (y : MethodName) (M' : zM) (n ci : Nat) : Prop := (Cond.methodLink own idx y ∈ lw_ok ∧ Cond.initialized y.cls ∈ lw_ok ∧ Cond.code y M'.1 M'.2.2.1 M'.2.2.2.1 ∈ lw_ok ∧ (y.cls ≠ "java/lang/invoke/MethodHandle" ∧ y.cls ≠ "java/lang/invoke/VarHandle" ∧ (parseMethodDescriptor y.desc).map (fun d => d.parameters.length) = some n)) ∧ Cond.instanceMethod y ∈ lw_ok ∧ ∃ (C : String) (Tb : u_T) (N : Nat), vwCl[ci]? = some (C, Tb, N) ∧ Cond.selects C y y ∈ lw_ok ∧ ci < 13
/-- a call that makes cells: of the world X, beside Y -/
theorem lw_callK {X X' Y : zX} {I J : zMem} {T' : zT} {y : MethodName} {M' : zM} {As : List Value} {q : zPl} {idx n ci N : Nat} (C0 : lw_At p s g meth co b L xs) (hK : lwK s X) (hH : lwH s X Y I J H) (hS : va_S (lwA s) s.heap H locs) (hl : lv_has ls 4 lv) (hcs : cs + M'.2.2.2.2.cells ≤ room_1.cells ∧ ss + M'.2.2.2.2.slots ≤ room_1.slots) (hC : zCk X X' M' y (.ref (zad X q) :: As) I T') (hm : zMw RL idx y M' n ci) (hG : zGw X X') (hq : zDom X q) (hk : zkd q.1 = (ci, N)) (hroom : decide (M'.2.2.2.2.frames + 1 ≤ room_1.frames ∧ 8 + (M'.2.2.1 + 11) + M'.2.2.2.2.locals ≤ room_1.locals) = true) (hn : As.length = n) (hsum : decide ((st.map fun v => v.category).sum ≤ 8) = true) (hstk : stk = As.reverse ++ .ref (zad X q) :: st) (hd : decode code pc = .ok (.invokevirtual idx, 3))
    (kk : ∀ (H1 : Heap) (locs1 : List Loc), lwH s X' (zsz Y (zz X')) T'.2 J H1 → va_S (lwA s) s.heap H1 locs1 → W p l v room_1 s g #[Value.ref b] B meth co H1 locs1 (cs + M'.2.2.2.2.cells) (ss + M'.2.2.2.2.slots) Q (F0 g (pc + 3) ls (T'.1.toList ++ st))) : W p l v room_1 s g #[Value.ref b] B meth co H locs cs ss Q (F0 g pc ls stk) := by
  subst hstk
  obtain ⟨⟨h1, h2, h3, h4⟩, h7, C, Tb, N', hc, h8, h13⟩ := hm
  have hts := lw_tok C0
  obtain ⟨hx, hb, hr, hml, hown, -⟩ := C0
  have cw : CallW room_1 s #[Value.ref b] RL C idx y M'.1 M'.2.2.1 M'.2.2.2.1 (.code y M'.1 M'.2.2.1 M'.2.2.2.1 :: lw_ok) M'.2.2.2.2 M'.2.2.2.2.cells M'.2.2.2.2.slots n := ⟨callB_of n hts (lw_gd h3) rfl rfl rfl (hts _ h2) (hts _ h1) h4 (of_decide_eq_true hroom), hts _ h7, hts _ h8⟩
  have hsz : H.size = zz X := hH.1.2.2
  have hs0 : s.heap.size ≤ zz X := by rw [← hsz]; exact hS.1
  have hlt : ∀ q', zDom Y q' → zad Y q' < zz X := fun q' hq' => by rw [← hsz]; exact zat_lt (hH.2.1.1 q' hq')
  refine lw_run (X' := X') (T' := T') (Bf := zB X) (mc := M'.2.2.2.2.cells) (ms := M'.2.2.2.2.slots) (rest := st) (va_runV (Ts := lw_ok) (As := As) (rest := st) (b := zad X q) ⟨hx, hb, hml, hown, hts⟩ (hC l) cw ⟨zWd.blind, zrecv hK.1 hH.1 hq hk h13 hc, fun U hU hW => ⟨rfl, lw_wd hK hH.1 hH.2.2.2.1 hS hW hU⟩⟩ rfl hn hl.1 rfl (lv_room (of_decide_eq_true hsum)) hd hcs) hS (fun a ha => by
      rcases ha with ⟨q', hq', e⟩ | ha
      · rw [← e]; exact hH.2.2.2.1 q' hq'
      · exact Nat.le_trans hs0 ha) (fun H1 locs1 hR1 hz1 hk1 hS1 => ?_)
  have had : zad X' = zad X := hG.1.2.2.1
  refine kk H1 locs1 ⟨hR1, zRel_pass hH.2.1 hk1 (fun q' hq' hf => ?_) hR1.2.2, fun q1 q2 g1 g2 e => ?_, fun q1 g1 => ?_, hH.2.2.2.2⟩ hS1
  · rcases hf with ⟨q2, hq2, e⟩ | hf
    · exact hH.2.2.1 q2 q' hq2 hq' e
    · exact absurd (hlt q' hq') (Nat.not_lt.mpr hf)
  · have e' : zad X q1 = zad Y q2 := by rw [← had]; exact e
    rcases hG.2.1 q1 g1 with h | h
    · exact hH.2.2.1 q1 q2 h g2 e'
    · have := hlt q2 g2
      rw [e'] at h; omega
  · rw [had]
    rcases hG.2.1 q1 g1 with h | h
    · exact hH.2.2.2.1 q1 h
    · exact Nat.le_trans hs0 h
/-- an object is made -/
theorem lw_new {X : zX} {I : zMem} {q : zPl} {idx ci N : Nat} (C0 : lw_At p s g meth co b L xs) (hK : zKn X s) (hf : zNk RL idx ci N) (hk : zkd q.1 = (ci, N)) (ha : zad X q = zz X) (hR : zRel X I H) (hS : va_S (lwA s) s.heap H locs) (hcs : cs + 1 ≤ room_1.cells ∧ ss + N ≤ room_1.slots) (hd : decode code pc = .ok (.new idx, 3))
    (kk : ∀ H1 : Heap, zRel (znw X q N) (zzr I q) H1 → H1.size = H.size + 1 → (∀ a, a < H.size → H1[a]? = H[a]?) → va_S (lwA s) s.heap H1 locs → W p l v room_1 s g #[Value.ref b] B meth co H1 locs (cs + 1) (ss + N) Q (F0 g (pc + 3) ls (.ref (zad X q) :: st))) : W p l v room_1 s g #[Value.ref b] B meth co H locs cs ss Q (F0 g pc ls st) := by
  obtain ⟨C, Tb, ty, hc, h13, hin, hcl, hins, hini, hty, hdf⟩ := hf
  have hts := lw_tok C0
  obtain ⟨hx, hb, hr, hml, hown, -⟩ := C0
  have hKn := hK.1.1 ci _ hc
  refine W.newcK hx hb (own := RL) hown (hts _ hcl) (hts _ hins) (hts _ hini) rfl hd hcs.1 hcs.2 hKn.2.1 hR.2.2 fun H1 kC hkC e1 z1 o1 => ?_
  have hs : H1.size = H.size + 1 := by rw [z1, hR.2.2]
  have ho : ∀ a, a < H.size → H1[a]? = H[a]? := fun a h => o1 a (by rw [← hR.2.2]; exact h)
  have hat : zat (znw X q N) (zzr I q) q H1 := (zat_o hk h13).mpr (by
    show t_OB (zad X q) _ _ _ _ _
    rw [ha]
    refine (u_born ty hts hin hKn hkC e1 hty).to fun j hj => ?_
    rw [hdf j hj]
    unfold zfv
    cases hz : zfr ci j
    · simp [zzr]
    · have : zP (znw X q N) q j = none := if_pos rfl
      rw [this]; rfl)
  have h := kk H1 (zRel_new hR ha hat hs ho) hs ho (zS_new hS hs ho)
  rw [ha] at h
  exact h
/-- its constructor is called -/
theorem lw_ini {X X' : zX} {I : zMem} {T' : zT} {y : MethodName} {M' : zM} {q : zPl} {idx : Nat} (C0 : lw_At p s g meth co b L xs) (hK : lwK s X) (hR : zRel X I H) (hA : ∀ q, zDom X q → s.heap.size ≤ zad X q) (hS : va_S (lwA s) s.heap H locs) (hl : lv_has ls 4 lv) (hC : zCk X X' M' y [.ref (zad X q)] I T') (hlk : Cond.methodLink RL idx y ∈ lw_ok) (hm : zMi y M' 0) (hcs : cs + M'.2.2.2.2.cells ≤ room_1.cells ∧ ss + M'.2.2.2.2.slots ≤ room_1.slots) (hroom : decide (M'.2.2.2.2.frames + 1 ≤ room_1.frames ∧ 8 + (M'.2.2.1 + 11) + M'.2.2.2.2.locals ≤ room_1.locals) = true) (hsum : decide ((st.map fun v => v.category).sum ≤ 8) = true) (hd : decode code pc = .ok (.invokespecial idx, 3))
    (kk : ∀ (H1 : Heap) (locs1 : List Loc), zRel X' T'.2 H1 → H.size ≤ H1.size → (∀ q, q < H.size → ¬ zB X q → H1[q]? = H[q]?) → va_S (lwA s) s.heap H1 locs1 → W p l v room_1 s g #[Value.ref b] B meth co H1 locs1 (cs + M'.2.2.2.2.cells) (ss + M'.2.2.2.2.slots) Q (F0 g (pc + 3) ls (T'.1.toList ++ st))) : W p l v room_1 s g #[Value.ref b] B meth co H locs cs ss Q (F0 g pc ls (.ref (zad X q) :: st)) := by
  obtain ⟨h2, h3, h4, h5, h6, h7⟩ := hm
  have hts := lw_tok C0
  obtain ⟨hx, hb, hr, hml, hown, -⟩ := C0
  have hM := hC l
  rw [h7] at hM
  have hsz : H.size = zz X := hR.2.2
  have hs0 : s.heap.size ≤ zz X := by rw [← hsz]; exact hS.1
  refine lw_run (X' := X') (T' := T') (Bf := zB X) (mc := M'.2.2.2.2.cells) (ms := M'.2.2.2.2.slots) (rest := st) (va_runI (Ts := lw_ok) (As := []) (rest := st) (b := zad X q) ⟨hx, hb, hml, hown, hts⟩ hM ⟨callB_of 0 hts (lw_gd h3) rfl rfl rfl (hts _ h2) (hts _ hlk) h4 (of_decide_eq_true hroom), h5, hts _ h6⟩ ⟨zWd.blind, fun U hU hW => ⟨rfl, lw_wd hK hR hA hS hW hU⟩⟩ rfl rfl hl.1 rfl (lv_room (of_decide_eq_true hsum)) hd hcs) hS (fun a ha => by
      rcases ha with ⟨q', hq', e⟩ | ha
      · rw [← e]; exact hA q' hq'
      · exact Nat.le_trans hs0 ha) kk
/-- an int of the script comes onto the stack -/
theorem lw_arg {x1 x2 i : Nat} (j : Nat) {jz : Int} (C0 : lw_At p s g meth co b L xs) (hS : va_S (lwA s) s.heap H locs) (hl : lv_has ls 4 [(0, .ref b), (1, .ref x1), (2, .ref x2), (3, vi (i : Int))]) (hL : L ≤ 3072) (hj : jz = (j : Int)) (hi : i + j < L) (d0 : decode code pc = .ok (.aload_n 0, 1)) (d1 : decode code (pc + 1) = .ok (.iload_n 3, 1)) (d2 : decode code (pc + 1 + 1) = .ok (.iconst jz, 1)) (d3 : decode code (pc + 1 + 1 + 1) = .ok (.iadd, 1)) (d4 : decode code (pc + 1 + 1 + 1 + 1) = .ok (.iaload, 1))
    (k : W p l v room_1 s g #[Value.ref b] B meth co H locs cs ss Q (F0 g (pc + 5) ls (vi (xs (i + j)).toInt :: st))) : W p l v room_1 s g #[Value.ref b] B meth co H locs cs ss Q (F0 g pc ls st) := by
  subst hj
  obtain ⟨hx, hb, hr, hml, hown, hts, hX, hbl, hlocks, hgv⟩ := C0
  have hbA : ¬ lwA s b := Nat.not_le.mpr hbl
  refine lv_aload_n hx hb d0 rfl (lv_at hl 0 rfl) ?_
  refine lv_iload_n hx hb d1 rfl (lv_at hl 3 rfl) ?_
  refine lv_iconst (v := Int32.ofInt (j : Int)) hx hb d2 rfl ?_
  refine lv_iadd hx hb d3 ?_
  rw [← Int32.ofInt_add]
  have hz : zin ((i : Int) + (j : Int)) L := by rw [← Int.natCast_add]; exact zin_nat hi (by omega)
  refine va_sld hx hb hX hbl hbA hS (zin_vp hz) d4 ?_
  have e : xs (Int32.ofInt ((i : Int) + (j : Int))).toNatClampNeg = Int32.ofInt (xs (i + j)).toInt := by
    rw [ix_cl, Int32.ofInt_toInt, ← Int.natCast_add, ix_nat (by omega)]
  rw [e]
  exact k
/-- the answers are alike -/
theorem lw_eq {r off : Int} (C0 : lw_At p s g meth co b L xs) (hd : decode code pc = .ok (.if_icmp .eq off, 3)) (ht : (pc : Int) + off = ((1958 : Nat) : Int)) (k : W p l v room_1 s g #[Value.ref b] B meth co H locs cs ss Q (F0 g 1958 ls st)) : W p l v room_1 s g #[Value.ref b] B meth co H locs cs ss Q (F0 g pc ls (vi r :: vi r :: st)) :=
  lv_icmp_eq C0.1 C0.2.1 hd ht (fun _ => k) (fun h => absurd rfl h)
theorem lw_eql {r off : Int} (C0 : lw_At p s g meth co b L xs) (hd : decode code pc = .ok (.lcmp, 1)) (hd2 : decode code (pc + 1) = .ok (.ifCond .eq off, 3)) (ht : ((pc + 1 : Nat) : Int) + off = ((1958 : Nat) : Int)) (k : W p l v room_1 s g #[Value.ref b] B meth co H locs cs ss Q (F0 g 1958 ls st)) : W p l v room_1 s g #[Value.ref b] B meth co H locs cs ss Q (F0 g pc ls (vl r :: vl r :: st)) :=
  W.lcmp C0.1 C0.2.1 hd (lv_if_eq C0.1 C0.2.1 hd2 ht (fun _ => k) (fun h => absurd ((lg_cmp_eq _ _).mpr rfl) h))
theorem lw_ald {a : Nat} {n : Fin 4} (j : Nat) (C0 : lw_At p s g meth co b L xs) (hl : lv_has ls 4 lv) (hd : decode code pc = .ok (.aload_n n, 1)) (hj : lv[j]? = some ((n : Nat), .ref a)) (k : W p l v room_1 s g #[Value.ref b] B meth co H locs cs ss Q (F0 g (pc + 1) ls (.ref a :: st))) : W p l v room_1 s g #[Value.ref b] B meth co H locs cs ss Q (F0 g pc ls st) := lv_aload_n C0.1 C0.2.1 hd rfl (lv_at hl j hj) k
end
