/-! constructors: a contract that grows the world from X to X' -/
def zB (X : zX) : Nat → Prop := fun a => zFr X a ∨ zz X ≤ a
def zQk (X' : zX) (B : Nat → Prop) (T : zT) : Array Value → State → Outcome → State → Prop := fun _ st oc t => oc = .returned T.1 ∧ zWd X' T.2 t ∧ va_F B st t
/-- a method's contract that makes cells: from the world X to the world X' -/
def zCk (X X' : zX) (M : zM) (y : MethodName) (av : List Value) (I : zMem) (T : zT) : Prop := ∀ l : Launch, Met l y (.code y M.1 M.2.2.1 M.2.2.2.1 :: lw_ok) M.2.2.2.2 (va_Pc av (zWd X I)) (zQk X' (zB X) T) M.2.2.2.2.cells M.2.2.2.2.slots (zB X)
/-- the world of a walk of such a method -/
def zK (X X' : zX) : zX := (X.1, X.2.1, zad X, zDom X, zP X, ztc X, ztv X, zB X, (fun T => zQk X' (zB X) T), 0, 0, zz X)
/-- the world behind a call of such a method -/
def zgo (X X' : zX) (c n : Nat) : zX := (X.1, X.2.1, zad X, zDom X', zP X', ztc X, ztv X, zA X, zQ X, zk X + c, zn X + n, zz X')
/-- what two worlds share -/
def zLk (X X' : zX) : Prop := X'.1 = X.1 ∧ zcy X' = zcy X ∧ zad X' = zad X ∧ ztc X' = ztc X ∧ ztv X' = ztv X
theorem zLk.nw {X X' : zX} {q : zPl} {w : Nat} (h : zLk X X') : zLk X (znw X' q w) := h
theorem zLk.pt {X X' : zX} {q q2 : zPl} {k : Nat} (h : zLk X X') : zLk X (zpt X' q k q2) := h
theorem zLk.rf {X : zX} : zLk X X := ⟨rfl, rfl, rfl, rfl, rfl⟩
/-- X' says the same as X of the heap -/
def zSm (X X' : zX) : Prop := zLk X X' ∧ (∀ q, zDom X' q ↔ zDom X q) ∧ (∀ q j, zDom X q → j < (zkd q.1).2 → zP X' q j = zP X q j) ∧ zz X' = zz X
theorem zSm.rf {X : zX} : zSm X X := ⟨zLk.rf, fun _ => Iff.rfl, fun _ _ _ _ => rfl, rfl⟩
theorem zRel_sm {X X' : zX} {I : zMem} {H : Heap} (hs : zSm X X') (h : zRel X I H) : zRel X' I H := by
  obtain ⟨⟨x1, x2, x3, x4, x5⟩, hd, hp, hz⟩ := hs
  refine ⟨fun q hq => ?_, fun a b h1 h2 e => ?_, h.2.2.trans hz.symm⟩
  · have hq' := (hd q).mp hq
    exact zat_like ⟨x1, x2, x3⟩ (fun j hj => hp q j hq' hj) (h.1 q hq') rfl (fun _ => rfl)
  · rw [x3] at e
    exact h.2.1 a b ((hd a).mp h1) ((hd b).mp h2) e
theorem zKn_lk {X X' : zX} {U : State} (hs : zLk X X') (h : zKn X U) : zKn X' U := by
  obtain ⟨x1, x2, -⟩ := hs
  unfold zKn ztys at h ⊢
  rw [x1, x2]; exact h
theorem zSt_lk {X X' : zX} {A : Nat → Prop} {U : State} {H : Heap} (hs : zLk X X') (h : zSt A X U H) : zSt A X' U H := by
  obtain ⟨-, -, -, x4, x5⟩ := hs
  unfold zSt at h ⊢
  rw [x4, x5]; exact h
theorem zT_wide {ty : FieldType} {t N : Nat} {f : Nat → Value} {A B : Nat → Prop} {U : State} {H : Heap} (hB : ∀ a, B a → A a ∨ H.size ≤ a) (h : va_T ty t N f A U H) : va_T ty t N f B U H := by
  obtain ⟨cell, h1, h2, h3, h4, h5, h6, h7⟩ := h
  refine ⟨cell, h1, h2, h3, h4, h5, h6, fun hb => ?_⟩
  have hlt := (Array.getElem?_eq_some_iff.mp h1).1
  rcases hB _ hb with h | h
  · exact h7 h
  · omega
theorem zZ_wide {C n d : String} {v : Value} {A B : Nat → Prop} {U : State} {H : Heap} (hB : ∀ a, B a → A a ∨ H.size ≤ a) (h : va_Z C n d v A U H) : va_Z C n d v B U H := by
  obtain ⟨cf, kf, fi, f, a, cell, h1, h2, h3, h4, h5, h6, h7, h8⟩ := h
  refine ⟨cf, kf, fi, f, a, cell, h1, h2, h3, h4, h5, h6, h7, fun hb => ?_⟩
  have hlt := (Array.getElem?_eq_some_iff.mp h5).1
  rcases hB _ hb with h | h
  · exact h8 h
  · omega
theorem zSt_wide {X : zX} {A B : Nat → Prop} {U : State} {H : Heap} (hB : ∀ a, B a → A a ∨ H.size ≤ a) (h : zSt A X U H) : zSt B X U H := ⟨zZ_wide hB h.1, zT_wide hB h.2.1, zZ_wide hB h.2.2.1, zT_wide hB h.2.2.2⟩
section
variable {X : zX} {T : zT} {M : zM} {pc : Nat} {lv : List (Nat × Value)} {st : List Value} {I : zMem}
/-- such a contract out of its walk -/
theorem zCk_of {X' : zX} {y : MethodName} {av : List Value} (hy : plainName y.cls = true) (ho : M.2.1 = y.cls) (hl : decide ((lg_sl av).length ≤ M.2.2.1) = true) (hn : M.2.2.2.1 = none → y.name = "<init>") (h : zW (zK X X') T M 0 (lv_args 0 av) [] I) : zCk X X' M y av I T := fun l => by
  refine Met.ofW (cc := M.1) (maxL := M.2.2.1) (ret := M.2.2.2.1) hy rfl ?_
  intro p e s m args below meth c s₁ B hml hv
  obtain ⟨rfl, hR, hK, hSt⟩ := hv
  have hts := atoms_spec (ws := .code y M.1 M.2.2.1 M.2.2.2.1 :: lw_ok) B.pre
  have hown : s.vm.findClass M.2.1 = some m.cls := by rw [ho]; exact findClass_of_methodNamed B.named
  rw [lg_entry_eq]
  have hsz : s.heap.size = zz X := hR.2.2
  exact h p l e s m av.toArray below meth c ⟨B.exec, B.bytes, hml, hown, fun w hw => hts w (List.mem_cons_of_mem _ hw), B.returns, B.notSynchronized, hK, zSt_wide (fun a ha => by rw [hsz]; exact ha) hSt, fun q hq => Or.inl ⟨q, hq, rfl⟩, Nat.zero_le _, Nat.zero_le _, fun hz _ => ((name_of_methodNamed B.named B.method).1).trans (hn hz)⟩ s.heap [] _ (lv_entry av (of_decide_eq_true hl)) hR va_S.rf
/-- the end of such a walk, in the world X1, where X' says the same -/
theorem zHk {X1 X' : zX} {B : Nat → Prop} (hs : zSm X1 X') (hA : zA X1 = B) (hQ : zQ X1 = fun T => zQk X' B T) : zHq X1 := fun T a st t h1 h2 => by
  rw [hQ]
  refine ⟨rfl, ⟨zRel_sm hs h1.1, zKn_lk hs.1 h1.2.1, zSt_lk hs.1 (h1.2.2.nar fun a ha => ?_)⟩, by rw [← hA]; exact h2⟩
  obtain ⟨q, hq, e⟩ := ha
  exact ⟨q, (hs.2.1 q).mp hq, by rw [← hs.1.2.2.1]; exact e⟩
theorem zcallK {p : Program} {l : Launch} {e : Env} {R : Room} {s : State} {m : MethodId} {args : Array Value} {below : List Frame} {meth : Method} {c : Code} {H : Heap} {locs : List Loc} {Q : State → Prop} {ls : Array Slot} {rest st0 : List Value} {a : Array Value} {T' : zT} {cs ss mc ms : Nat} {X' : zX} (hr : va_Run p l e R s m args below meth c H locs cs ss mc ms (F0 m pc ls st0) rest (zQk X' (zB X) T' a) (zB X)) (hS : va_S (zA X) s.heap H locs) (hA : ∀ a, zB X a → zA X a)
    (kk : ∀ (H1 : Heap) (locs1 : List Loc), zRel X' T'.2 H1 → va_S (zA X) s.heap H1 locs1 → W p l e R s m args below meth c H1 locs1 (cs + mc) (ss + ms) Q (F0 m (pc + 3) ls (T'.1.toList ++ rest))) : W p l e R s m args below meth c H locs cs ss Q (F0 m pc ls st0) := by
  intro U hU Xs
  obtain ⟨v, st₀, t, U', L, h0, X', hL, e1, e2, ⟨hv, hw, hz, hk⟩, st⟩ := hr U hU Xs
  cases Outcome.returned.inj hv
  rw [h0] at hz hk
  obtain ⟨t2, a1, b1⟩ := kk U'.heap (locs ++ L) (by rw [e1]; exact hw.1)
    ⟨Nat.le_trans hS.1 (by rw [e1]; exact hz), fun q h1 h2 => by rw [e1, hk q (Nat.lt_of_lt_of_le h1 hS.1) (fun z => h2 (hA q z))]; exact hS.2.1 q h1 h2, fun q hq => by
      rcases List.mem_append.mp hq with h | h
      · exact hS.2.2 q h
      · exact hA _ (hL q h)⟩ U' rfl X'
  exact ⟨t2, st t2 a1, b1⟩
theorem zGd_go {X' : zX} {cm nm : Nat} {p : Program} {s : State} {m : MethodId} {args : Array Value} {meth : Method} {c : Code} (G : zGd X M p s m args meth c) (hA : ∀ a, zz X ≤ a → zA X a) (hD : ∀ q, zDom X' q → zDom X q ∨ zz X ≤ zad X q) (hr : zk X + cm ≤ M.2.2.2.2.cells ∧ zn X + nm ≤ M.2.2.2.2.slots) : zGd (zgo X X' cm nm) M p s m args meth c := by
  obtain ⟨h1, h2, h3, h4, h5, h6, h7, h8, h9, h10, -, -, h13⟩ := G
  refine ⟨h1, h2, h3, h4, h5, h6, h7, h8, h9, fun q' h' => ?_, hr.1, hr.2, h13⟩
  rcases hD q' h' with h | h
  · exact h10 q' h
  · exact hA _ h
theorem zRel_go {X' : zX} {cm nm : Nat} {H : Heap} (hs : zLk X X') (h : zRel X' I H) : zRel (zgo X X' cm nm) I H := zRel_sm (X := X') ⟨⟨hs.1.symm, hs.2.1.symm, hs.2.2.1.symm, hs.2.2.2.1.symm, hs.2.2.2.2.symm⟩, fun _ => Iff.rfl, fun _ _ _ _ => rfl, rfl⟩ h
/-- a constructor that is called: its words -/
def zMi (y : MethodName) (M' : zM) (n : Nat) : Prop := Cond.initialized y.cls ∈ lw_ok ∧ Cond.code y M'.1 M'.2.2.1 none ∈ lw_ok ∧ (y.cls ≠ "java/lang/invoke/MethodHandle" ∧ y.cls ≠ "java/lang/invoke/VarHandle" ∧ (parseMethodDescriptor y.desc).map (fun d => d.parameters.length) = some n) ∧ y.name = "<init>" ∧ Cond.instanceMethod y ∈ lw_ok ∧ M'.2.2.2.1 = none
theorem zW_ini {y : MethodName} {M' : zM} {X' : zX} {As : List Value} {T' : zT} {q : zPl} {idx n : Nat} {stk : List Value} (hC : zCk X X' M' y (.ref (zad X q) :: As) I T') (hlk : Cond.methodLink M.2.1 idx y ∈ lw_ok ∨ ∃ host, ∀ U : State, zNs U → va_Nw (.methodLinkNest M.2.1 idx y host) U) (hm : zMi y M' n) (hs : zLk X X') (hA : ∀ a, zz X ≤ a → zA X a) (hD : ∀ q, zDom X' q → zDom X q ∨ zz X ≤ zad X q) (hr : zk X + M'.2.2.2.2.cells ≤ M.2.2.2.2.cells ∧ zn X + M'.2.2.2.2.slots ≤ M.2.2.2.2.slots) (hroom : decide (M'.2.2.2.2.frames + 1 ≤ M.2.2.2.2.frames ∧ 8 + (M'.2.2.1 + 11) + M'.2.2.2.2.locals ≤ M.2.2.2.2.locals) = true) (hn : As.length = n) (hsum : decide ((st.map fun v => v.category).sum ≤ 8) = true) (hstk : stk = As.reverse ++ .ref (zad X q) :: st) (hd : decode M.1 pc = .ok (.invokespecial idx, 3)) (kk : zW (zgo X X' M'.2.2.2.2.cells M'.2.2.2.2.slots) T M (pc + 3) lv (T'.1.toList ++ st) T'.2) : zW X T M pc lv stk I := fun p l e s m args below meth c G H locs ls hl hR hS => by
  subst hstk
  obtain ⟨h2, h3, h4, h5, h6, h7⟩ := hm
  have hts := G.2.2.2.2.1
  have hBA : ∀ a, zB X a → zA X a := fun a h => h.elim (zFr_A G.2.2.2.2.2.2.2.2.2.1 a) (hA a)
  have hM := hC l
  rw [h7] at hM
  have hrun : va_Run p l e M.2.2.2.2 s m args below meth c H locs (zk X) (zn X) M'.2.2.2.2.cells M'.2.2.2.2.slots (F0 m pc ls (As.reverse ++ .ref (zad X q) :: st)) st (zQk X' (zB X) T' (Value.ref (zad X q) :: As).toArray) (zB X) := by
    rcases hlk with hlk | ⟨host, hlk⟩
    · exact va_runI (Ts := lw_ok) (As := As) (rest := st) (b := zad X q) ⟨G.1, G.2.1, G.2.2.1, G.2.2.2.1, hts⟩ hM ⟨callB_of n hts (lw_gd h3) rfl rfl rfl (hts _ h2) (hts _ hlk) h4 (of_decide_eq_true hroom), h5, hts _ h6⟩ ⟨zWd.blind, fun U hU hW => ⟨rfl, zWd.at hW hU G hR hS⟩⟩ rfl hn hl.1 rfl (lv_room (of_decide_eq_true hsum)) hd hr
    · exact va_runIN (Ts := lw_ok) (As := As) (rest := st) (b := zad X q) ⟨G.1, G.2.1, G.2.2.1, G.2.2.2.1, hts⟩ hM ⟨va_cnB n hts (lw_gd h3) rfl rfl rfl (hlk _ G.2.2.2.2.2.2.2.1.2) (hts _ h2) h4 (of_decide_eq_true hroom), h5, hts _ h6⟩ ⟨zWd.blind, fun U hU hW => ⟨rfl, zWd.at hW hU G hR hS⟩⟩ rfl hn hl.1 rfl (lv_room (of_decide_eq_true hsum)) hd hr
  exact zcallK (T' := T') hrun hS hBA (fun H1 locs1 hR1 hS1 => kk p l e s m args below meth c (zGd_go G hA hD hr) H1 locs1 ls hl (zRel_go hs hR1) hS1)
end
/-- a list of places lies from b on -/
def zAt (X : zX) (b : Nat) (l : List zPl) : Prop := ∀ (i : Nat) (q : zPl), l[i]? = some q → zad X q = b + i
theorem zAt.sub {X : zX} {b n : Nat} {l l2 : List zPl} (h : zAt X b l) (hl : l.drop n = l2 ++ l.drop (n + l2.length)) : zAt X (b + n) l2 := fun i q hi => by
  have hlt : i < l2.length := (List.getElem?_eq_some_iff.mp hi).1
  have e : l[n + i]? = some q := by
    rw [← List.getElem?_drop, hl, List.getElem?_append_left hlt]; exact hi
  rw [h _ _ e]; omega
/-- the world X' grew out of X -/
def zGw (X X' : zX) : Prop := zLk X X' ∧ (∀ q, zDom X' q → zDom X q ∨ zz X ≤ zad X q) ∧ zz X ≤ zz X'
theorem zGw.rf {X : zX} : zGw X X := ⟨zLk.rf, fun _ h => Or.inl h, Nat.le_refl _⟩
theorem zGw.nw {X X' : zX} {q : zPl} {w : Nat} (h : zGw X X') (ha : zad X q = zz X') : zGw X (znw X' q w) := ⟨h.1, fun a ho => ho.elim (fun e => Or.inr (by rw [e, ha]; exact h.2.2)) (h.2.1 a), Nat.le_succ_of_le h.2.2⟩
theorem zGw.pt {X X' : zX} {q q2 : zPl} {k : Nat} (h : zGw X X') : zGw X (zpt X' q k q2) := ⟨h.1, h.2.1, h.2.2⟩
theorem zGw.tr {X X1 X2 : zX} (h : zGw X X1) (h2 : zGw X1 X2) : zGw X X2 := by
  obtain ⟨⟨a1, a2, a3, a4, a5⟩, b, c⟩ := h
  obtain ⟨⟨a1', a2', a3', a4', a5'⟩, b', c'⟩ := h2
  refine ⟨⟨a1'.trans a1, a2'.trans a2, a3'.trans a3, a4'.trans a4, a5'.trans a5⟩, fun q hq => ?_, Nat.le_trans c c'⟩
  rcases b' q hq with h | h
  · exact b q h
  · rw [a3] at h; exact Or.inr (Nat.le_trans c h)
def zNA (X : zX) : Prop := ∀ a, zz X ≤ a → zA X a
theorem zNA.nw {X : zX} {q : zPl} {w : Nat} (h : zNA X) : zNA (znw X q w) := fun a ha => h a (Nat.le_of_succ_le ha)
section
variable {X : zX} {T : zT} {M : zM} {pc : Nat} {lv : List (Nat × Value)} {st : List Value} {I : zMem}
theorem zV_ini {y : MethodName} {M' : zM} {X' : zX} {As : List Value} {T' : zT} {q : zPl} {idx n : Nat} {stk : List Value} (hC : zCk X X' M' y (.ref (zad X q) :: As) I T') (hlk : Cond.methodLink M.2.1 idx y ∈ lw_ok ∨ ∃ host, ∀ U : State, zNs U → va_Nw (.methodLinkNest M.2.1 idx y host) U) (hm : zMi y M' n) (hs : zGw X X') (hA : zNA X) (hE : zgo X X' M'.2.2.2.2.cells M'.2.2.2.2.slots = X') (hr : zk X + M'.2.2.2.2.cells ≤ M.2.2.2.2.cells ∧ zn X + M'.2.2.2.2.slots ≤ M.2.2.2.2.slots) (hroom : decide (M'.2.2.2.2.frames + 1 ≤ M.2.2.2.2.frames ∧ 8 + (M'.2.2.1 + 11) + M'.2.2.2.2.locals ≤ M.2.2.2.2.locals) = true) (hn : As.length = n) (hsum : decide ((st.map fun v => v.category).sum ≤ 8) = true) (hstk : stk = As.reverse ++ .ref (zad X q) :: st) (hd : decode M.1 pc = .ok (.invokespecial idx, 3)) (kk : zNA X' → zW X' T M (pc + 3) lv (T'.1.toList ++ st) T'.2) : zW X T M pc lv stk I :=
  zW_ini hC hlk hm hs.1 hA hs.2.1 hr hroom hn hsum hstk hd (by
    have hN : zNA X' := fun a ha => by rw [← hE]; exact hA a (Nat.le_trans hs.2.2 ha)
    have h := kk hN
    rw [hE]; exact h)
theorem zV_new {q : zPl} {idx ci N : Nat} (hf : zNk M.2.1 idx ci N) (hk : zkd q.1 = (ci, N)) (ha : zad X q = zz X) (hA : zNA X) (hr : zk X + 1 ≤ M.2.2.2.2.cells ∧ zn X + N ≤ M.2.2.2.2.slots) (hd : decode M.1 pc = .ok (.new idx, 3)) (kk : zNA (znw X q N) → zW (znw X q N) T M (pc + 3) lv (.ref (zad X q) :: st) (zzr I q)) : zW X T M pc lv st I := zW_new hf hk ha (hA _ (Nat.le_refl _)) hr hd (kk hA.nw)
theorem zV_newI {q : zPl} {N : Nat} {z : Int} (harr : Cond.arrayClass .int ∈ lw_ok) (hN : z = (N : Int)) (hb : decide (N < 100000 ∧ N * componentBytes .int ≤ 536870912 ∧ 13 ≤ 14) = true) (hk : zkd q.1 = (14, N)) (ha : zad X q = zz X) (hA : zNA X) (hr : zk X + 1 ≤ M.2.2.2.2.cells ∧ zn X + N ≤ M.2.2.2.2.slots) (hd : decode M.1 pc = .ok (.newarray .int, 2)) (kk : zNA (znw X q N) → zW (znw X q N) T M (pc + 2) lv (.ref (zad X q) :: st) (zzr I q)) : zW X T M pc lv (vi z :: st) I := zW_newI harr hN hb hk ha (hA _ (Nat.le_refl _)) hr hd (kk hA.nw)
theorem zV_newL {q : zPl} {N : Nat} {z : Int} (harr : Cond.arrayClass .long ∈ lw_ok) (hN : z = (N : Int)) (hb : decide (N < 100000 ∧ N * componentBytes .long ≤ 536870912 ∧ 13 ≤ 15) = true) (hk : zkd q.1 = (15, N)) (ha : zad X q = zz X) (hA : zNA X) (hr : zk X + 1 ≤ M.2.2.2.2.cells ∧ zn X + N ≤ M.2.2.2.2.slots) (hd : decode M.1 pc = .ok (.newarray .long, 2)) (kk : zNA (znw X q N) → zW (znw X q N) T M (pc + 2) lv (.ref (zad X q) :: st) (zzr I q)) : zW X T M pc lv (vi z :: st) I := zW_newL harr hN hb hk ha (hA _ (Nat.le_refl _)) hr hd (kk hA.nw)
theorem zV_newZ {q : zPl} {N : Nat} {z : Int} (harr : Cond.arrayClass .boolean ∈ lw_ok) (hN : z = (N : Int)) (hb : decide (N < 100000 ∧ N * componentBytes .boolean ≤ 536870912 ∧ 13 ≤ 16) = true) (hk : zkd q.1 = (16, N)) (ha : zad X q = zz X) (hA : zNA X) (hr : zk X + 1 ≤ M.2.2.2.2.cells ∧ zn X + N ≤ M.2.2.2.2.slots) (hd : decode M.1 pc = .ok (.newarray .boolean, 2)) (kk : zNA (znw X q N) → zW (znw X q N) T M (pc + 2) lv (.ref (zad X q) :: st) (zzr I q)) : zW X T M pc lv (vi z :: st) I := zW_newZ harr hN hb hk ha (hA _ (Nat.le_refl _)) hr hd (kk hA.nw)
theorem zV_newR {q : zPl} {C : String} {idx kd N : Nat} {z : Int} (i : Nat) (hcl : Cond.classLink M.2.1 idx C ∈ lw_ok) (hao : ∀ U : State, zNs U → va_AO C U) (hi : (ztys X)[i]? = some (zcy X kd, .object C)) (hN : z = (N : Int)) (hb : decide (N < 100000 ∧ 17 ≤ kd) = true) (hk : zkd q.1 = (kd, N)) (ha : zad X q = zz X) (hA : zNA X) (hr : zk X + 1 ≤ M.2.2.2.2.cells ∧ zn X + N ≤ M.2.2.2.2.slots) (hd : decode M.1 pc = .ok (.anewarray idx, 3)) (kk : zNA (znw X q N) → zW (znw X q N) T M (pc + 3) lv (.ref (zad X q) :: st) (zzr I q)) : zW X T M pc lv (vi z :: st) I := zW_newR i hcl hao hi hN hb hk ha (hA _ (Nat.le_refl _)) hr hd (kk hA.nw)
theorem zV_aast {qa qv : zPl} {kd n ci N : Nat} {z : Int} {C : String} {Tb : u_T} (i k : Nat) (hzk : ix z = k) (hi : (ztys X)[i]? = some (zcy X kd, .object C)) (hc : vwCl[ci]? = some (C, Tb, N)) (hqa : zDom X qa) (hka : zkd qa.1 = (kd, n)) (h17 : decide (17 ≤ kd ∧ ci < 13) = true) (hqv : zDom X qv) (hkv : zkd qv.1 = (ci, N)) (hb : zin z n) (hd : decode M.1 pc = .ok (.aastore, 1)) (kk : zW (zpt X qa k qv) T M (pc + 1) lv st I) : zW X T M pc lv (.ref (zad X qv) :: vi z :: .ref (zad X qa) :: st) I := by
  subst hzk
  exact zW_aast i hi hc hqa hka h17 hqv hkv hb hd kk
theorem zW_iastk {q : zPl} {n : Nat} {z x : Int} (k : Nat) (hzk : ix z = k) (hq : zDom X q) (hk : zkd q.1 = (14, n)) (hb : zin z n) (hd : decode M.1 pc = .ok (.iastore, 1)) (kk : zW X T M (pc + 1) lv st (zst I q k x)) : zW X T M pc lv (vi x :: vi z :: .ref (zad X q) :: st) I := by
  subst hzk
  exact zW_iast hq hk hb hd kk
end
