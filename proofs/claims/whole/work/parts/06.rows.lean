def lw_ok : List Cond := lw_tbl.filter goodWord
abbrev zPl : Type := Nat × Nat × Nat
abbrev zMem : Type := zPl → Nat → Int
abbrev zRf : Type := zPl → Nat → Option zPl
/-- one number of the memory is another -/
def zst (I : zMem) (q : zPl) (k : Nat) (z : Int) : zMem := fun q' k' => if q' = q ∧ k' = k then z else I q' k'
/-- n numbers of a from sp on come to b from dp on -/
def zcp (I : zMem) (a : zPl) (sp : Nat) (b : zPl) (dp n : Nat) : zMem := fun q k => if q = b ∧ dp ≤ k ∧ k < dp + n then I a (sp + (k - dp)) else I q k
def zkd : Nat → Nat × Nat := fun r => match r with
  | 0 => (11, 11)
  | 1 => (1, 2)
  | 2 => (6, 3)
  | 3 => (10, 2)
  | 4 => (2, 6)
  | 5 => (0, 6)
  | 6 => (9, 2)
  | 7 => (4, 9)
  | 8 => (7, 11)
  | 9 => (5, 11)
  | 10 => (8, 6)
  | 11 => (3, 4)
  | 12 => (18, 2)
  | 13 => (14, 39)
  | 14 => (14, 39)
  | 15 => (15, 256)
  | 16 => (15, 2048)
  | 17 => (15, 256)
  | 18 => (14, 39)
  | 19 => (14, 49)
  | 20 => (14, 60)
  | 21 => (15, 6)
  | 22 => (14, 104)
  | 23 => (14, 2048)
  | 24 => (14, 4)
  | 25 => (14, 4)
  | 26 => (14, 4)
  | 27 => (14, 4)
  | 28 => (14, 60)
  | 29 => (20, 4)
  | 30 => (13, 60)
  | 31 => (14, 4)
  | 32 => (19, 8)
  | 33 => (14, 20)
  | 34 => (14, 8)
  | 35 => (14, 8)
  | 36 => (14, 8)
  | 37 => (14, 39)
  | 38 => (17, 8)
  | 39 => (14, 8)
  | 40 => (14, 256)
  | 41 => (14, 39)
  | 50 => (12, 19)
  | 51 => (14, 3099)
  | 52 => (14, 1033)
  | 53 => (16, 2)
  | 54 => (15, 2048)
  | 55 => (14, 48)
  | 56 => (14, 60)
  | 57 => (14, 39)
  | 58 => (14, 39)
  | 59 => (14, 4)
  | 60 => (14, 4)
  | 61 => (14, 4)
  | 62 => (14, 4)
  | 63 => (14, 60)
  | 64 => (14, 256)
  | 65 => (14, 256)
  | 66 => (14, 4)
  | 67 => (14, 240)
  | _ => (99, 0)
def zrk : Nat → Nat := fun r => match r with
  | 0 => 0
  | 1 => 0
  | 2 => 0
  | 3 => 0
  | 4 => 0
  | 5 => 0
  | 6 => 0
  | 7 => 1
  | 8 => 1
  | 9 => 1
  | 10 => 2
  | 11 => 2
  | 12 => 0
  | 13 => 0
  | 14 => 0
  | 15 => 0
  | 16 => 0
  | 17 => 0
  | 18 => 0
  | 19 => 0
  | 20 => 0
  | 21 => 0
  | 22 => 0
  | 23 => 0
  | 24 => 0
  | 25 => 0
  | 26 => 0
  | 27 => 0
  | 28 => 0
  | 29 => 0
  | 30 => 3
  | 31 => 0
  | 32 => 1
  | 33 => 1
  | 34 => 1
  | 35 => 1
  | 36 => 1
  | 37 => 2
  | 38 => 1
  | 39 => 1
  | 40 => 1
  | 41 => 2
  | 50 => 4
  | 51 => 4
  | 52 => 4
  | 53 => 4
  | 54 => 4
  | 55 => 4
  | 56 => 4
  | 57 => 4
  | 58 => 4
  | 59 => 4
  | 60 => 4
  | 61 => 4
  | 62 => 4
  | 63 => 4
  | 64 => 4
  | 65 => 4
  | 66 => 4
  | 67 => 4
  | _ => 9
def zfr : Nat → Nat → Bool := fun ci k => match ci with
  | 0 => ([true, true, true, true, true, false] : List Bool).getD k false
  | 1 => ([true, true] : List Bool).getD k false
  | 2 => ([true, true, true, true, true, true] : List Bool).getD k false
  | 3 => ([false, false, false, true] : List Bool).getD k false
  | 4 => ([false, false, false, false, false, false, false, true, true] : List Bool).getD k false
  | 5 => ([true, true, true, false, false, false, false, false, false, false, false] : List Bool).getD k false
  | 6 => ([true, true, true] : List Bool).getD k false
  | 7 => ([true, true, true, true, true, false, false, false, false, false, false] : List Bool).getD k false
  | 8 => ([false, false, false, false, false, true] : List Bool).getD k false
  | 9 => ([true, true] : List Bool).getD k false
  | 10 => ([true, false] : List Bool).getD k false
  | 11 => ([true, true, true, true, true, true, true, true, true, true, true] : List Bool).getD k false
  | 12 => ([false, true, true, true, true, true, true, true, true, true, true, true, true, true, false, true, true, true, true] : List Bool).getD k false
  | _ => false
def zPs : zRf := fun q k => match q.1 with
  | 0 => ([some (1, 0, 0), some (2, 0, 0), some (3, 0, 0), some (4, 0, 0), some (5, 0, 0), some (6, 0, 0), some (7, 1, 0), some (12, 0, 0), some (13, 0, 0), some (14, 0, 0), some (15, 0, 0)] : List (Option zPl)).getD k none
  | 1 => ([some (16, 0, 0), some (17, 0, 0)] : List (Option zPl)).getD k none
  | 2 => ([some (18, 0, 0), some (19, 0, 0), some (20, 0, 0)] : List (Option zPl)).getD k none
  | 3 => ([some (21, 0, 0)] : List (Option zPl)).getD k none
  | 4 => ([some (22, 0, 0), some (23, 0, 0), some (24, 0, 0), some (25, 0, 0), some (26, 0, 0), some (27, 0, 0)] : List (Option zPl)).getD k none
  | 5 => ([some (1, 0, 0), some (2, 0, 0), some (4, 0, 0), some (28, 0, 0), some (7, 0, 0)] : List (Option zPl)).getD k none
  | 6 => ([some (29, 0, 0), some (31, 0, 0)] : List (Option zPl)).getD k none
  | 7 => ([none, none, none, none, none, none, none, some (8, q.2.1, 0), some (9, q.2.1, 0)] : List (Option zPl)).getD k none
  | 8 => ([some (32, q.2.1, 0), some (33, q.2.1, 0), some (34, q.2.1, 0), some (35, q.2.1, 0), some (36, q.2.1, 0)] : List (Option zPl)).getD k none
  | 9 => ([some (38, q.2.1, 0), some (39, q.2.1, 0), some (40, q.2.1, 0)] : List (Option zPl)).getD k none
  | 10 => ([none, none, none, none, none, some (37, q.2.1, q.2.2)] : List (Option zPl)).getD k none
  | 11 => ([none, none, none, some (41, q.2.1, q.2.2)] : List (Option zPl)).getD k none
  | 29 => some (30, 0, k)
  | 32 => some (10, q.2.1, k)
  | 38 => some (11, q.2.1, k)
  | 50 => ([none, some (51, 0, 0), some (52, 0, 0), some (53, 0, 0), some (54, 0, 0), some (55, 0, 0), some (56, 0, 0), some (57, 0, 0), some (58, 0, 0), some (59, 0, 0), some (60, 0, 0), some (61, 0, 0), some (62, 0, 0), some (63, 0, 0), none, some (64, 0, 0), some (65, 0, 0), some (66, 0, 0), some (67, 0, 0)] : List (Option zPl)).getD k none
  | _ => none
abbrev zMT : Type := Option Value × zMem
/-- a world: tables, addresses, which places there are, references, the two static rows; then what a method may change, its end, cells and slots made so far -/
abbrev zX : Type := va_G × (Nat → ClassId) × (zPl → Nat) × (zPl → Prop) × zRf × Nat × Nat × (Nat → Prop) × (zMT → Array Value → State → Outcome → State → Prop) × Nat × Nat × Nat
abbrev zcy (X : zX) : Nat → ClassId := X.2.1
abbrev zad (X : zX) : zPl → Nat := X.2.2.1
abbrev zDom (X : zX) : zPl → Prop := X.2.2.2.1
abbrev zP (X : zX) : zRf := X.2.2.2.2.1
abbrev ztc (X : zX) : Nat := X.2.2.2.2.2.1
abbrev ztv (X : zX) : Nat := X.2.2.2.2.2.2.1
abbrev zA (X : zX) : Nat → Prop := X.2.2.2.2.2.2.2.1
abbrev zQ (X : zX) : zMT → Array Value → State → Outcome → State → Prop := X.2.2.2.2.2.2.2.2.1
abbrev zk (X : zX) : Nat := X.2.2.2.2.2.2.2.2.2.1
abbrev zn (X : zX) : Nat := X.2.2.2.2.2.2.2.2.2.2.1
/-- the heap's size -/
abbrev zz (X : zX) : Nat := X.2.2.2.2.2.2.2.2.2.2.2
def zfv (X : zX) (I : zMem) (q : zPl) (ci k : Nat) : Value := match zfr ci k with
  | true => va_rf ((zP X q k).map (zad X))
  | false => vi (I q k)
def zav (X : zX) (I : zMem) (q : zPl) (kd j : Nat) : Value := if kd = 15 then vl (I q j) else if kd < 17 then vi (I q j) else va_rf ((zP X q j).map (zad X))
/-- a place's cell, as the heap has it -/
def zat (X : zX) (I : zMem) (q : zPl) (H : Heap) : Prop := if (zkd q.1).1 < 13 then t_OB (zad X q) (X.1.1 (zkd q.1).1) (zkd q.1).2 (X.1.2 (zkd q.1).1) H (zfv X I q (zkd q.1).1) else H[zad X q]? = some (arrV (zcy X (zkd q.1).1) (zkd q.1).2 (zav X I q (zkd q.1).1))
def zRel (X : zX) (I : zMem) (H : Heap) : Prop := (∀ q, zDom X q → zat X I q H) ∧ (∀ q q', zDom X q → zDom X q' → zad X q = zad X q' → q = q') ∧ H.size = zz X
def zFr (X : zX) : Nat → Prop := fun a => ∃ q, zDom X q ∧ zad X q = a
def ztys (X : zX) : List (ClassId × FieldType) := [(zcy X 13, .byte), (zcy X 14, .int), (zcy X 15, .long), (zcy X 16, .boolean), (zcy X 17, .object RX3), (zcy X 18, .object RX4), (zcy X 19, .object RX8), (zcy X 20, .array .byte)]
def zAb (U : State) : Prop := (Cond.arrayOver (.array .byte)).before #[] U = true
/-- words that hold where the machine has warmed, too, but are no good words -/
def zNs (U : State) : Prop := va_Nw (.fieldLinkNest RX6 25 RX11 "COLUMNS" "[I" RX11) U ∧ va_Nw (.fieldLinkNest RX0 71 RX11 "VERSION_ORDER" "[I" RX11) U ∧ va_Nw (.methodLinkNest RX11 25 yX10_init RX11) U ∧ va_Nw (.methodLinkNest RX11 32 yX2_init RX11) U ∧ va_Nw (.methodLinkNest RX0 17 yX4_init RX11) U ∧ va_Nw (.methodLinkNest RX7 30 yX8_init RX11) U ∧ va_Nw (.methodLinkNest RX5 24 yX3_init RX11) U ∧ va_Nw (.methodLinkNest RX11 48 yX9_init RX11) U ∧ va_Nw (.methodLinkNest RX11 55 yX4_init RX11) U ∧ va_AO RX3 U ∧ va_AO RX4 U ∧ va_AO RX8 U ∧ zAb U
def zKn (X : zX) (U : State) : Prop := va_K X.1 vwCl (ztys X) U ∧ zNs U
def zcol (j : Nat) : Int := ([0, 2, 1, 3] : List Int).getD j 0
def zver (j : Nat) : Int := ([0, 2, 3, 1] : List Int).getD j 0
def zSt (A : Nat → Prop) (X : zX) (U : State) (H : Heap) : Prop := va_Z RX11 "COLUMNS" "[I" (.ref (ztc X)) A U H ∧ va_T .int (ztc X) 4 (fun j => vi (zcol j)) A U H ∧ va_Z RX11 "VERSION_ORDER" "[I" (.ref (ztv X)) A U H ∧ va_T .int (ztv X) 4 (fun j => vi (zver j)) A U H
def zWd (X : zX) (I : zMem) (U : State) : Prop := zRel X I U.heap ∧ zKn X U ∧ zSt (zFr X) X U U.heap
/-- a method: code, class, locals, what it returns, room -/
abbrev zM : Type := ByteArray × String × Nat × Option FieldType × Room
abbrev zT : Type := Option Value × zMem
def zGd (X : zX) (M : zM) (p : Program) (s : State) (m : MethodId) (args : Array Value) (meth : Method) (c : Code) : Prop := p.tables.exec = Jvm.exec ∧ c.code = M.1 ∧ c.maxLocals = M.2.2.1 ∧ s.vm.findClass M.2.1 = some m.cls ∧ (∀ w ∈ lw_ok, w.before args s = true) ∧ meth.sig.returnType = M.2.2.2.1 ∧ meth.locks = false ∧ zKn X s ∧ zSt (zA X) X s s.heap ∧ (∀ q, zDom X q → zA X (zad X q)) ∧ zk X ≤ M.2.2.2.2.cells ∧ zn X ≤ M.2.2.2.2.slots ∧ (M.2.2.2.1 = none → M.2.2.2.2.cells ≠ 0 → meth.name = "<init>")
def zQc (X : zX) (T : zT) : Array Value → State → Outcome → State → Prop := fun _ st oc t => oc = .returned T.1 ∧ zWd X T.2 t ∧ va_F (zFr X) st t
/-- THE JUDGEMENT: from pc, with these locals, stack and memory, the method returns T -/
def zW (X : zX) (T : zT) (M : zM) (pc : Nat) (lv : List (Nat × Value)) (st : List Value) (I : zMem) : Prop := ∀ (p : Program) (l : Launch) (e : Env) (s : State) (m : MethodId) (args : Array Value) (below : List Frame) (meth : Method) (c : Code), zGd X M p s m args meth c → ∀ (H : Heap) (locs : List Loc) (ls : Array Slot), lv_has ls M.2.2.1 lv → zRel X I H → va_S (zA X) s.heap H locs → W p l e M.2.2.2.2 s m args below meth c H locs (zk X) (zn X) (MQ below (zQ X T) args s M.2.2.2.2.cells M.2.2.2.2.slots (zA X)) (F0 m pc ls st)
/-- A CONTRACT: called so, in this memory, the method returns T -/
def zCn (X : zX) (M : zM) (y : MethodName) (av : List Value) (I : zMem) (T : zT) : Prop := ∀ l : Launch, Met l y (.code y M.1 M.2.2.1 M.2.2.2.1 :: lw_ok) M.2.2.2.2 (va_Pc av (zWd X I)) (zQc X T) 0 0 (zFr X)
/-- the world of a method that makes nothing -/
def zN (X : zX) : zX := (X.1, X.2.1, X.2.2.1, X.2.2.2.1, X.2.2.2.2.1, X.2.2.2.2.2.1, X.2.2.2.2.2.2.1, zFr X, zQc X, 0, 0, zz X)
abbrev zR (f n : Nat) : Room := { frames := f, cells := 0, slots := 0, locals := n }
section
variable {X : zX} {T : zT} {M : zM} {pc : Nat} {lv : List (Nat × Value)} {st : List Value} {I : zMem}
theorem zW_iconst {n : Int} (hd : decode M.1 pc = .ok (.iconst n, 1)) (k : zW X T M (pc + 1) lv (vi n :: st) I) : zW X T M pc lv (st) I := fun p l e s m args below meth c G H locs ls hl hR hS => lv_iconst G.1 G.2.1 hd rfl (k p l e s m args below meth c G H locs ls hl hR hS)
theorem zbp (n : Int) (hn : decide (-128 ≤ n ∧ n < 128) = true) : (Int8.ofInt n).toInt32 = Int32.ofInt n := by
  have h := of_decide_eq_true hn
  rw [← Int32.toInt_inj, Int8.toInt_toInt32, Int32.toInt_ofInt]
  show w8 n = _
  rw [w8_id h.1 h.2]
  show n = n.bmod 4294967296
  rw [Int.bmod_def]; omega
theorem zsp (n : Int) (hn : decide (-32768 ≤ n ∧ n < 32768) = true) : (Int16.ofInt n).toInt32 = Int32.ofInt n := by
  have h := of_decide_eq_true hn
  rw [← Int32.toInt_inj, Int16.toInt_toInt32, Int32.toInt_ofInt, Int16.toInt_ofInt]
  show n.bmod 65536 = n.bmod 4294967296
  rw [Int.bmod_def, Int.bmod_def]; omega
theorem zW_bipush {n : Int} (hd : decode M.1 pc = .ok (.bipush n, 2)) (hn : decide (-128 ≤ n ∧ n < 128) = true) (k : zW X T M (pc + 2) lv (vi n :: st) I) : zW X T M pc lv (st) I := fun p l e s m args below meth c G H locs ls hl hR hS => lv_bipush G.1 G.2.1 hd (zbp n hn) (k p l e s m args below meth c G H locs ls hl hR hS)
theorem zW_sipush {n : Int} (hd : decode M.1 pc = .ok (.sipush n, 3)) (hn : decide (-32768 ≤ n ∧ n < 32768) = true) (k : zW X T M (pc + 3) lv (vi n :: st) I) : zW X T M pc lv (st) I := fun p l e s m args below meth c G H locs ls hl hR hS => lv_sipush G.1 G.2.1 hd (zsp n hn) (k p l e s m args below meth c G H locs ls hl hR hS)
theorem zW_lconst {n : Fin 2} (hd : decode M.1 pc = .ok (.lconst n, 1)) (k : zW X T M (pc + 1) lv (vl ((n : Nat) : Int) :: st) I) : zW X T M pc lv (st) I := fun p l e s m args below meth c G H locs ls hl hR hS => lv_lconst G.1 G.2.1 hd rfl (k p l e s m args below meth c G H locs ls hl hR hS)
theorem zW_ldc {i : Nat} {n : Int} (hd : decode M.1 pc = .ok (.ldc i, 2)) (hw : Cond.constant M.2.1 i (Int32.ofInt n) ∈ lw_ok) (k : zW X T M (pc + 2) lv (vi n :: st) I) : zW X T M pc lv (st) I := fun p l e s m args below meth c G H locs ls hl hR hS => lv_ldc G.1 G.2.1 G.2.2.2.1 (G.2.2.2.2.1 _ hw) hd (k p l e s m args below meth c G H locs ls hl hR hS)
theorem zW_ldcw {i : Nat} {n : Int} (hd : decode M.1 pc = .ok (.ldc_w i, 3)) (hw : Cond.constant M.2.1 i (Int32.ofInt n) ∈ lw_ok) (k : zW X T M (pc + 3) lv (vi n :: st) I) : zW X T M pc lv (st) I := fun p l e s m args below meth c G H locs ls hl hR hS => lv_ldcw G.1 G.2.1 G.2.2.2.1 (G.2.2.2.2.1 _ hw) hd (k p l e s m args below meth c G H locs ls hl hR hS)
theorem zW_ldc2 {i : Nat} {n : Int} (hd : decode M.1 pc = .ok (.ldc2_w i, 3)) (hw : Cond.constantLong M.2.1 i (Int64.ofInt n) ∈ lw_ok) (k : zW X T M (pc + 3) lv (vl n :: st) I) : zW X T M pc lv (st) I := fun p l e s m args below meth c G H locs ls hl hR hS => lv_ldc2 G.1 G.2.1 G.2.2.2.1 (G.2.2.2.2.1 _ hw) hd (k p l e s m args below meth c G H locs ls hl hR hS)
theorem zW_iload_n {n : Fin 4} {z : Int} (j : Nat) (hd : decode M.1 pc = .ok (.iload_n n, 1)) (hj : lv[j]? = some ((n : Nat), vi z)) (k : zW X T M (pc + 1) lv (vi z :: st) I) : zW X T M pc lv (st) I := fun p l e s m args below meth c G H locs ls hl hR hS => lv_iload_n G.1 G.2.1 hd rfl (lv_at hl j hj) (k p l e s m args below meth c G H locs ls hl hR hS)
theorem zW_iload {i : Nat} {z : Int} (j : Nat) (hd : decode M.1 pc = .ok (.iload i, 2)) (hj : lv[j]? = some (i, vi z)) (k : zW X T M (pc + 2) lv (vi z :: st) I) : zW X T M pc lv (st) I := fun p l e s m args below meth c G H locs ls hl hR hS => lv_iload G.1 G.2.1 hd (lv_at hl j hj) (k p l e s m args below meth c G H locs ls hl hR hS)
theorem zW_lload_n {n : Fin 4} {z : Int} (j : Nat) (hd : decode M.1 pc = .ok (.lload_n n, 1)) (hj : lv[j]? = some ((n : Nat), vl z)) (k : zW X T M (pc + 1) lv (vl z :: st) I) : zW X T M pc lv (st) I := fun p l e s m args below meth c G H locs ls hl hR hS => lv_lload_n G.1 G.2.1 hd rfl (lv_at hl j hj) (k p l e s m args below meth c G H locs ls hl hR hS)
theorem zW_lload {i : Nat} {z : Int} (j : Nat) (hd : decode M.1 pc = .ok (.lload i, 2)) (hj : lv[j]? = some (i, vl z)) (k : zW X T M (pc + 2) lv (vl z :: st) I) : zW X T M pc lv (st) I := fun p l e s m args below meth c G H locs ls hl hR hS => lv_lload G.1 G.2.1 hd (lv_at hl j hj) (k p l e s m args below meth c G H locs ls hl hR hS)
theorem zW_aload_n {n : Fin 4} {a : Nat} (j : Nat) (hd : decode M.1 pc = .ok (.aload_n n, 1)) (hj : lv[j]? = some ((n : Nat), .ref a)) (k : zW X T M (pc + 1) lv (.ref a :: st) I) : zW X T M pc lv (st) I := fun p l e s m args below meth c G H locs ls hl hR hS => lv_aload_n G.1 G.2.1 hd rfl (lv_at hl j hj) (k p l e s m args below meth c G H locs ls hl hR hS)
theorem zW_aload {i : Nat} {a : Nat} (j : Nat) (hd : decode M.1 pc = .ok (.aload i, 2)) (hj : lv[j]? = some (i, .ref a)) (k : zW X T M (pc + 2) lv (.ref a :: st) I) : zW X T M pc lv (st) I := fun p l e s m args below meth c G H locs ls hl hR hS => lv_aload G.1 G.2.1 hd (lv_at hl j hj) (k p l e s m args below meth c G H locs ls hl hR hS)
theorem zW_istore_n {n : Fin 4} {z : Int} {lv' : List (Nat × Value)} (hd : decode M.1 pc = .ok (.istore_n n, 1)) (hl' : ((n : Nat), (vi z : Value)) :: lv.filter (fun q => !(q.1 == (n : Nat)) && !(q.1 + 1 == (n : Nat) && q.2.category == 2)) = lv') (hn : decide ((n : Nat) < M.2.2.1) = true) (k : zW X T M (pc + 1) lv' st I) : zW X T M pc lv (vi z :: st) I := fun p l e s m args below meth c G H locs ls hl hR hS => lv_istore_n G.1 G.2.1 hd rfl hl (of_decide_eq_true hn) hl' (fun ls2 hl2 => k p l e s m args below meth c G H locs ls2 hl2 hR hS)
theorem zW_istore {i : Nat} {z : Int} {lv' : List (Nat × Value)} (hd : decode M.1 pc = .ok (.istore i, 2)) (hl' : (i, (vi z : Value)) :: lv.filter (fun q => !(q.1 == i) && !(q.1 + 1 == i && q.2.category == 2)) = lv') (hn : decide (i < M.2.2.1) = true) (k : zW X T M (pc + 2) lv' st I) : zW X T M pc lv (vi z :: st) I := fun p l e s m args below meth c G H locs ls hl hR hS => lv_istore G.1 G.2.1 hd hl (of_decide_eq_true hn) hl' (fun ls2 hl2 => k p l e s m args below meth c G H locs ls2 hl2 hR hS)
theorem zW_astore_n {n : Fin 4} {a : Nat} {lv' : List (Nat × Value)} (hd : decode M.1 pc = .ok (.astore_n n, 1)) (hl' : ((n : Nat), (.ref a : Value)) :: lv.filter (fun q => !(q.1 == (n : Nat)) && !(q.1 + 1 == (n : Nat) && q.2.category == 2)) = lv') (hn : decide ((n : Nat) < M.2.2.1) = true) (k : zW X T M (pc + 1) lv' st I) : zW X T M pc lv (.ref a :: st) I := fun p l e s m args below meth c G H locs ls hl hR hS => lv_astore_n G.1 G.2.1 hd rfl hl (of_decide_eq_true hn) hl' (fun ls2 hl2 => k p l e s m args below meth c G H locs ls2 hl2 hR hS)
theorem zW_astore {i : Nat} {a : Nat} {lv' : List (Nat × Value)} (hd : decode M.1 pc = .ok (.astore i, 2)) (hl' : (i, (.ref a : Value)) :: lv.filter (fun q => !(q.1 == i) && !(q.1 + 1 == i && q.2.category == 2)) = lv') (hn : decide (i < M.2.2.1) = true) (k : zW X T M (pc + 2) lv' st I) : zW X T M pc lv (.ref a :: st) I := fun p l e s m args below meth c G H locs ls hl hR hS => lv_astore G.1 G.2.1 hd hl (of_decide_eq_true hn) hl' (fun ls2 hl2 => k p l e s m args below meth c G H locs ls2 hl2 hR hS)
theorem zW_lstore_n {n : Fin 4} {z : Int} {lv' : List (Nat × Value)} (hd : decode M.1 pc = .ok (.lstore_n n, 1)) (hl' : ((n : Nat), (vl z : Value)) :: lv.filter (fun q => !(q.1 == (n : Nat)) && (!(q.1 == (n : Nat) + 1) && !(q.1 + 1 == (n : Nat) && q.2.category == 2))) = lv') (hn : decide ((n : Nat) + 1 < M.2.2.1) = true) (k : zW X T M (pc + 1) lv' st I) : zW X T M pc lv (vl z :: st) I := fun p l e s m args below meth c G H locs ls hl hR hS => lv_lstore_n G.1 G.2.1 hd rfl hl (of_decide_eq_true hn) hl' (fun ls2 hl2 => k p l e s m args below meth c G H locs ls2 hl2 hR hS)
theorem zW_lstore {i : Nat} {z : Int} {lv' : List (Nat × Value)} (hd : decode M.1 pc = .ok (.lstore i, 2)) (hl' : (i, (vl z : Value)) :: lv.filter (fun q => !(q.1 == i) && (!(q.1 == i + 1) && !(q.1 + 1 == i && q.2.category == 2))) = lv') (hn : decide (i + 1 < M.2.2.1) = true) (k : zW X T M (pc + 2) lv' st I) : zW X T M pc lv (vl z :: st) I := fun p l e s m args below meth c G H locs ls hl hR hS => lv_lstore G.1 G.2.1 hd hl (of_decide_eq_true hn) hl' (fun ls2 hl2 => k p l e s m args below meth c G H locs ls2 hl2 hR hS)
theorem zW_iinc {i : Nat} {n z : Int} {lv' : List (Nat × Value)} (j : Nat) (hd : decode M.1 pc = .ok (.iinc i n, 3)) (hj : lv[j]? = some (i, vi z)) (hl' : (i, (vi (z + n) : Value)) :: lv.filter (fun q => !(q.1 == i) && !(q.1 + 1 == i && q.2.category == 2)) = lv') (hn : decide (i < M.2.2.1) = true) (k : zW X T M (pc + 3) lv' st I) : zW X T M pc lv st I := fun p l e s m args below meth c G H locs ls hl hR hS => lv_iinc G.1 G.2.1 hd hl hj (Int32.ofInt_add z n).symm (of_decide_eq_true hn) hl' (fun ls2 hl2 => k p l e s m args below meth c G H locs ls2 hl2 hR hS)
theorem zW_iadd {a b : Int} (hd : decode M.1 pc = .ok (.iadd, 1)) (k : zW X T M (pc + 1) lv (vi (a + b) :: st) I) : zW X T M pc lv (vi b :: vi a :: st) I := fun p l e s m args below meth c G H locs ls hl hR hS => by
  have h := k p l e s m args below meth c G H locs ls hl hR hS
  exact lv_iadd G.1 G.2.1 hd (by rw [← Int32.ofInt_add]; exact h)
theorem zW_isub {a b : Int} (hd : decode M.1 pc = .ok (.isub, 1)) (k : zW X T M (pc + 1) lv (vi (a - b) :: st) I) : zW X T M pc lv (vi b :: vi a :: st) I := fun p l e s m args below meth c G H locs ls hl hR hS => by
  have h := k p l e s m args below meth c G H locs ls hl hR hS
  exact lv_isub G.1 G.2.1 hd (by rw [← Int32.ofInt_sub]; exact h)
theorem zW_imul {a b : Int} (hd : decode M.1 pc = .ok (.imul, 1)) (k : zW X T M (pc + 1) lv (vi (a * b) :: st) I) : zW X T M pc lv (vi b :: vi a :: st) I := fun p l e s m args below meth c G H locs ls hl hR hS => by
  have h := k p l e s m args below meth c G H locs ls hl hR hS
  exact lv_imul G.1 G.2.1 hd (by rw [← Int32.ofInt_mul]; exact h)
theorem zW_iand {a b : Int} (hd : decode M.1 pc = .ok (.iand, 1)) (k : zW X T M (pc + 1) lv (vi (iand a b) :: st) I) : zW X T M pc lv (vi b :: vi a :: st) I := fun p l e s m args below meth c G H locs ls hl hR hS => by
  have h := k p l e s m args below meth c G H locs ls hl hR hS
  exact lv_iand G.1 G.2.1 hd (by rw [← oi_and]; exact h)
theorem zW_ior {a b : Int} (hd : decode M.1 pc = .ok (.ior, 1)) (k : zW X T M (pc + 1) lv (vi (ior a b) :: st) I) : zW X T M pc lv (vi b :: vi a :: st) I := fun p l e s m args below meth c G H locs ls hl hR hS => by
  have h := k p l e s m args below meth c G H locs ls hl hR hS
  exact lv_ior G.1 G.2.1 hd (by rw [← oi_or]; exact h)
theorem zW_ixor {a b : Int} (hd : decode M.1 pc = .ok (.ixor, 1)) (k : zW X T M (pc + 1) lv (vi (ixor a b) :: st) I) : zW X T M pc lv (vi b :: vi a :: st) I := fun p l e s m args below meth c G H locs ls hl hR hS => by
  have h := k p l e s m args below meth c G H locs ls hl hR hS
  exact lv_ixor G.1 G.2.1 hd (by rw [← oi_xor]; exact h)
theorem zW_ishl {a b : Int} (hd : decode M.1 pc = .ok (.ishl, 1)) (k : zW X T M (pc + 1) lv (vi (ishl a b) :: st) I) : zW X T M pc lv (vi b :: vi a :: st) I := fun p l e s m args below meth c G H locs ls hl hR hS => by
  have h := k p l e s m args below meth c G H locs ls hl hR hS
  exact lv_ishl G.1 G.2.1 hd (by rw [oi_shl]; exact h)
theorem zW_ishr {a b : Int} (hd : decode M.1 pc = .ok (.ishr, 1)) (k : zW X T M (pc + 1) lv (vi (ishr a b) :: st) I) : zW X T M pc lv (vi b :: vi a :: st) I := fun p l e s m args below meth c G H locs ls hl hR hS => by
  have h := k p l e s m args below meth c G H locs ls hl hR hS
  exact lv_ishr G.1 G.2.1 hd (by rw [oi_shr]; exact h)
theorem zW_ladd {a b : Int} (hd : decode M.1 pc = .ok (.ladd, 1)) (k : zW X T M (pc + 1) lv (vl (a + b) :: st) I) : zW X T M pc lv (vl b :: vl a :: st) I := fun p l e s m args below meth c G H locs ls hl hR hS => by
  have h := k p l e s m args below meth c G H locs ls hl hR hS
  exact lv_ladd G.1 G.2.1 hd (by rw [← Int64.ofInt_add]; exact h)
theorem zW_lsub {a b : Int} (hd : decode M.1 pc = .ok (.lsub, 1)) (k : zW X T M (pc + 1) lv (vl (a - b) :: st) I) : zW X T M pc lv (vl b :: vl a :: st) I := fun p l e s m args below meth c G H locs ls hl hR hS => by
  have h := k p l e s m args below meth c G H locs ls hl hR hS
  exact lv_lsub G.1 G.2.1 hd (by rw [← Int64.ofInt_sub]; exact h)
theorem zW_lmul {a b : Int} (hd : decode M.1 pc = .ok (.lmul, 1)) (k : zW X T M (pc + 1) lv (vl (a * b) :: st) I) : zW X T M pc lv (vl b :: vl a :: st) I := fun p l e s m args below meth c G H locs ls hl hR hS => by
  have h := k p l e s m args below meth c G H locs ls hl hR hS
  exact lv_lmul G.1 G.2.1 hd (by rw [← Int64.ofInt_mul]; exact h)
theorem zW_land {a b : Int} (hd : decode M.1 pc = .ok (.land, 1)) (k : zW X T M (pc + 1) lv (vl (land a b) :: st) I) : zW X T M pc lv (vl b :: vl a :: st) I := fun p l e s m args below meth c G H locs ls hl hR hS => by
  have h := k p l e s m args below meth c G H locs ls hl hR hS
  exact lv_land G.1 G.2.1 hd (by rw [← ol_and]; exact h)
theorem zW_lor {a b : Int} (hd : decode M.1 pc = .ok (.lor, 1)) (k : zW X T M (pc + 1) lv (vl (lor a b) :: st) I) : zW X T M pc lv (vl b :: vl a :: st) I := fun p l e s m args below meth c G H locs ls hl hR hS => by
  have h := k p l e s m args below meth c G H locs ls hl hR hS
  exact lv_lor G.1 G.2.1 hd (by rw [← ol_or]; exact h)
theorem zW_lxor {a b : Int} (hd : decode M.1 pc = .ok (.lxor, 1)) (k : zW X T M (pc + 1) lv (vl (lxor a b) :: st) I) : zW X T M pc lv (vl b :: vl a :: st) I := fun p l e s m args below meth c G H locs ls hl hR hS => by
  have h := k p l e s m args below meth c G H locs ls hl hR hS
  exact lv_lxor G.1 G.2.1 hd (by rw [← ol_xor]; exact h)
theorem zW_iand_1 {a : Int} (hd : decode M.1 pc = .ok (.iand, 1)) (k : zW X T M (pc + 1) lv (vi (a % 2) :: st) I) : zW X T M pc lv (vi 1 :: vi a :: st) I := fun p l e s m args below meth c G H locs ls hl hR hS => by
  have h := k p l e s m args below meth c G H locs ls hl hR hS
  exact lv_iand G.1 G.2.1 hd (by rw [oi_m1]; exact h)
theorem zW_iand_3 {a : Int} (hd : decode M.1 pc = .ok (.iand, 1)) (k : zW X T M (pc + 1) lv (vi (a % 4) :: st) I) : zW X T M pc lv (vi 3 :: vi a :: st) I := fun p l e s m args below meth c G H locs ls hl hR hS => by
  have h := k p l e s m args below meth c G H locs ls hl hR hS
  exact lv_iand G.1 G.2.1 hd (by rw [oi_m3]; exact h)
theorem zW_iand_7 {a : Int} (hd : decode M.1 pc = .ok (.iand, 1)) (k : zW X T M (pc + 1) lv (vi (a % 8) :: st) I) : zW X T M pc lv (vi 7 :: vi a :: st) I := fun p l e s m args below meth c G H locs ls hl hR hS => by
  have h := k p l e s m args below meth c G H locs ls hl hR hS
  exact lv_iand G.1 G.2.1 hd (by rw [oi_m7]; exact h)
theorem zW_iand_15 {a : Int} (hd : decode M.1 pc = .ok (.iand, 1)) (k : zW X T M (pc + 1) lv (vi (a % 16) :: st) I) : zW X T M pc lv (vi 15 :: vi a :: st) I := fun p l e s m args below meth c G H locs ls hl hR hS => by
  have h := k p l e s m args below meth c G H locs ls hl hR hS
  exact lv_iand G.1 G.2.1 hd (by rw [oi_m15]; exact h)
theorem zW_iand_31 {a : Int} (hd : decode M.1 pc = .ok (.iand, 1)) (k : zW X T M (pc + 1) lv (vi (a % 32) :: st) I) : zW X T M pc lv (vi 31 :: vi a :: st) I := fun p l e s m args below meth c G H locs ls hl hR hS => by
  have h := k p l e s m args below meth c G H locs ls hl hR hS
  exact lv_iand G.1 G.2.1 hd (by rw [oi_m31]; exact h)
theorem zW_iand_63 {a : Int} (hd : decode M.1 pc = .ok (.iand, 1)) (k : zW X T M (pc + 1) lv (vi (a % 64) :: st) I) : zW X T M pc lv (vi 63 :: vi a :: st) I := fun p l e s m args below meth c G H locs ls hl hR hS => by
  have h := k p l e s m args below meth c G H locs ls hl hR hS
  exact lv_iand G.1 G.2.1 hd (by rw [oi_m63]; exact h)
theorem zW_iand_127 {a : Int} (hd : decode M.1 pc = .ok (.iand, 1)) (k : zW X T M (pc + 1) lv (vi (a % 128) :: st) I) : zW X T M pc lv (vi 127 :: vi a :: st) I := fun p l e s m args below meth c G H locs ls hl hR hS => by
  have h := k p l e s m args below meth c G H locs ls hl hR hS
  exact lv_iand G.1 G.2.1 hd (by rw [oi_m127]; exact h)
theorem zW_iand_255 {a : Int} (hd : decode M.1 pc = .ok (.iand, 1)) (k : zW X T M (pc + 1) lv (vi (a % 256) :: st) I) : zW X T M pc lv (vi 255 :: vi a :: st) I := fun p l e s m args below meth c G H locs ls hl hR hS => by
  have h := k p l e s m args below meth c G H locs ls hl hR hS
  exact lv_iand G.1 G.2.1 hd (by rw [oi_m255]; exact h)
theorem zW_iushr {a b : Int} (hd : decode M.1 pc = .ok (.iushr, 1)) (k : zW X T M (pc + 1) lv (vi (iushr a b) :: st) I) : zW X T M pc lv (vi b :: vi a :: st) I := fun p l e s m args below meth c G H locs ls hl hR hS => lv_iushr G.1 G.2.1 hd (oi_ushr a b) (k p l e s m args below meth c G H locs ls hl hR hS)
theorem zW_lshl {a b : Int} (hd : decode M.1 pc = .ok (.lshl, 1)) (k : zW X T M (pc + 1) lv (vl (lshl a b) :: st) I) : zW X T M pc lv (vi b :: vl a :: st) I := fun p l e s m args below meth c G H locs ls hl hR hS => lv_lshl G.1 G.2.1 hd (ol_shl a b) (k p l e s m args below meth c G H locs ls hl hR hS)
theorem zW_lshr {a b : Int} (hd : decode M.1 pc = .ok (.lshr, 1)) (k : zW X T M (pc + 1) lv (vl (lshr a b) :: st) I) : zW X T M pc lv (vi b :: vl a :: st) I := fun p l e s m args below meth c G H locs ls hl hR hS => lv_lshr G.1 G.2.1 hd (ol_shr a b) (k p l e s m args below meth c G H locs ls hl hR hS)
theorem zW_lushr {a b : Int} (hd : decode M.1 pc = .ok (.lushr, 1)) (k : zW X T M (pc + 1) lv (vl (lushr a b) :: st) I) : zW X T M pc lv (vi b :: vl a :: st) I := fun p l e s m args below meth c G H locs ls hl hR hS => lv_lushr G.1 G.2.1 hd (ol_ushr a b) (k p l e s m args below meth c G H locs ls hl hR hS)
theorem zW_idiv {a b : Int} (hd : decode M.1 pc = .ok (.idiv, 1)) (hb : ¬ w32 b = 0) (k : zW X T M (pc + 1) lv (vi (idiv a b) :: st) I) : zW X T M pc lv (vi b :: vi a :: st) I := fun p l e s m args below meth c G H locs ls hl hR hS => by
  have h := k p l e s m args below meth c G H locs ls hl hR hS
  exact lv_idiv G.1 G.2.1 hd (oi_ne0 hb) (by rw [oi_div]; exact h)
theorem zW_irem {a b : Int} (hd : decode M.1 pc = .ok (.irem, 1)) (hb : ¬ w32 b = 0) (k : zW X T M (pc + 1) lv (vi (irem a b) :: st) I) : zW X T M pc lv (vi b :: vi a :: st) I := fun p l e s m args below meth c G H locs ls hl hR hS => by
  have h := k p l e s m args below meth c G H locs ls hl hR hS
  exact lv_irem G.1 G.2.1 hd (oi_ne0 hb) (by rw [oi_rem]; exact h)
theorem zW_ineg {a : Int} (hd : decode M.1 pc = .ok (.ineg, 1)) (k : zW X T M (pc + 1) lv (vi (-a) :: st) I) : zW X T M pc lv (vi a :: st) I := fun p l e s m args below meth c G H locs ls hl hR hS => by
  have h := k p l e s m args below meth c G H locs ls hl hR hS
  exact lv_ineg G.1 G.2.1 hd (by rw [← Int32.ofInt_neg]; exact h)
theorem zW_i2l {z : Int} (hd : decode M.1 pc = .ok (.i2l, 1)) (k : zW X T M (pc + 1) lv (vl (w32 z) :: st) I) : zW X T M pc lv (vi z :: st) I := fun p l e s m args below meth c G H locs ls hl hR hS => lv_i2l G.1 G.2.1 hd (oi_i2l z) (k p l e s m args below meth c G H locs ls hl hR hS)
theorem zW_l2i {z : Int} (hd : decode M.1 pc = .ok (.l2i, 1)) (k : zW X T M (pc + 1) lv (vi z :: st) I) : zW X T M pc lv (vl z :: st) I := fun p l e s m args below meth c G H locs ls hl hR hS => lv_l2i G.1 G.2.1 hd (ol_l2i z) (k p l e s m args below meth c G H locs ls hl hR hS)
theorem zW_i2b {z : Int} (hd : decode M.1 pc = .ok (.i2b, 1)) (k : zW X T M (pc + 1) lv (vi (w8 z) :: st) I) : zW X T M pc lv (vi z :: st) I := fun p l e s m args below meth c G H locs ls hl hR hS => lv_i2b G.1 G.2.1 hd (oi_i2b z) (k p l e s m args below meth c G H locs ls hl hR hS)
theorem zW_dup {v : Value} (hd : decode M.1 pc = .ok (.dup, 1)) (hv : v.category = 1) (k : zW X T M (pc + 1) lv (v :: v :: st) I) : zW X T M pc lv (v :: st) I := fun p l e s m args below meth c G H locs ls hl hR hS => lv_dup G.1 G.2.1 hd hv (k p l e s m args below meth c G H locs ls hl hR hS)
theorem zW_dup2 {v w : Value} (hd : decode M.1 pc = .ok (.dup2, 1)) (hv : v.category = 1) (hw : w.category = 1) (k : zW X T M (pc + 1) lv (v :: w :: v :: w :: st) I) : zW X T M pc lv (v :: w :: st) I := fun p l e s m args below meth c G H locs ls hl hR hS => lv_dup2_11 G.1 G.2.1 hd hv hw (k p l e s m args below meth c G H locs ls hl hR hS)
theorem zW_pop {v : Value} (hd : decode M.1 pc = .ok (.pop, 1)) (hv : v.category = 1) (k : zW X T M (pc + 1) lv (st) I) : zW X T M pc lv (v :: st) I := fun p l e s m args below meth c G H locs ls hl hR hS => lv_pop G.1 G.2.1 hd hv (k p l e s m args below meth c G H locs ls hl hR hS)
theorem zW_goto {off : Int} (tgt : Nat) (hd : decode M.1 pc = .ok (.goto off, 3)) (ht : (pc : Int) + off = (tgt : Int)) (k : zW X T M tgt lv st I) : zW X T M pc lv st I := fun p l e s m args below meth c G H locs ls hl hR hS => lv_goto G.1 G.2.1 hd ht (k p l e s m args below meth c G H locs ls hl hR hS)
theorem zW_icmp_lt {a b off : Int} (tgt : Nat) (hd : decode M.1 pc = .ok (.if_icmp .lt off, 3)) (ht : (pc : Int) + off = (tgt : Int)) (kt : w32 a < w32 b → zW X T M tgt lv st I) (kf : ¬ w32 a < w32 b → zW X T M (pc + 3) lv st I) : zW X T M pc lv (vi b :: vi a :: st) I := fun p l e s m args below meth c G H locs ls hl hR hS => lv_icmp_lt G.1 G.2.1 hd ht (fun h => (kt ((oi_lt a b).mp h) p l e s m args below meth c G H locs ls hl hR hS)) (fun h => (kf (fun h2 => h ((oi_lt a b).mpr h2)) p l e s m args below meth c G H locs ls hl hR hS))
theorem zW_icmp_ge {a b off : Int} (tgt : Nat) (hd : decode M.1 pc = .ok (.if_icmp .ge off, 3)) (ht : (pc : Int) + off = (tgt : Int)) (kt : w32 b ≤ w32 a → zW X T M tgt lv st I) (kf : ¬ w32 b ≤ w32 a → zW X T M (pc + 3) lv st I) : zW X T M pc lv (vi b :: vi a :: st) I := fun p l e s m args below meth c G H locs ls hl hR hS => lv_icmp_ge G.1 G.2.1 hd ht (fun h => (kt ((oi_le b a).mp h) p l e s m args below meth c G H locs ls hl hR hS)) (fun h => (kf (fun h2 => h ((oi_le b a).mpr h2)) p l e s m args below meth c G H locs ls hl hR hS))
theorem zW_icmp_gt {a b off : Int} (tgt : Nat) (hd : decode M.1 pc = .ok (.if_icmp .gt off, 3)) (ht : (pc : Int) + off = (tgt : Int)) (kt : w32 b < w32 a → zW X T M tgt lv st I) (kf : ¬ w32 b < w32 a → zW X T M (pc + 3) lv st I) : zW X T M pc lv (vi b :: vi a :: st) I := fun p l e s m args below meth c G H locs ls hl hR hS => lv_icmp_gt G.1 G.2.1 hd ht (fun h => (kt ((oi_lt b a).mp h) p l e s m args below meth c G H locs ls hl hR hS)) (fun h => (kf (fun h2 => h ((oi_lt b a).mpr h2)) p l e s m args below meth c G H locs ls hl hR hS))
theorem zW_icmp_le {a b off : Int} (tgt : Nat) (hd : decode M.1 pc = .ok (.if_icmp .le off, 3)) (ht : (pc : Int) + off = (tgt : Int)) (kt : w32 a ≤ w32 b → zW X T M tgt lv st I) (kf : ¬ w32 a ≤ w32 b → zW X T M (pc + 3) lv st I) : zW X T M pc lv (vi b :: vi a :: st) I := fun p l e s m args below meth c G H locs ls hl hR hS => lv_icmp_le G.1 G.2.1 hd ht (fun h => (kt ((oi_le a b).mp h) p l e s m args below meth c G H locs ls hl hR hS)) (fun h => (kf (fun h2 => h ((oi_le a b).mpr h2)) p l e s m args below meth c G H locs ls hl hR hS))
theorem zW_icmp_eq {a b off : Int} (tgt : Nat) (hd : decode M.1 pc = .ok (.if_icmp .eq off, 3)) (ht : (pc : Int) + off = (tgt : Int)) (kt : w32 a = w32 b → zW X T M tgt lv st I) (kf : ¬ w32 a = w32 b → zW X T M (pc + 3) lv st I) : zW X T M pc lv (vi b :: vi a :: st) I := fun p l e s m args below meth c G H locs ls hl hR hS => lv_icmp_eq G.1 G.2.1 hd ht (fun h => (kt ((oi_eq a b).mp h) p l e s m args below meth c G H locs ls hl hR hS)) (fun h => (kf (fun h2 => h ((oi_eq a b).mpr h2)) p l e s m args below meth c G H locs ls hl hR hS))
theorem zW_icmp_ne {a b off : Int} (tgt : Nat) (hd : decode M.1 pc = .ok (.if_icmp .ne off, 3)) (ht : (pc : Int) + off = (tgt : Int)) (kf : w32 a = w32 b → zW X T M (pc + 3) lv st I) (kt : ¬ w32 a = w32 b → zW X T M tgt lv st I) : zW X T M pc lv (vi b :: vi a :: st) I := fun p l e s m args below meth c G H locs ls hl hR hS => lv_icmp_ne G.1 G.2.1 hd ht (fun h => (kt (fun h2 => h ((oi_eq a b).mpr h2)) p l e s m args below meth c G H locs ls hl hR hS)) (fun h => (kf ((oi_eq a b).mp h) p l e s m args below meth c G H locs ls hl hR hS))
theorem zW_if_lt {a off : Int} (tgt : Nat) (hd : decode M.1 pc = .ok (.ifCond .lt off, 3)) (ht : (pc : Int) + off = (tgt : Int)) (kt : w32 a < 0 → zW X T M tgt lv st I) (kf : ¬ w32 a < 0 → zW X T M (pc + 3) lv st I) : zW X T M pc lv (vi a :: st) I := fun p l e s m args below meth c G H locs ls hl hR hS => lv_if_lt G.1 G.2.1 hd ht (fun h => (kt ((oi_lt a 0).mp h) p l e s m args below meth c G H locs ls hl hR hS)) (fun h => (kf (fun h2 => h ((oi_lt a 0).mpr h2)) p l e s m args below meth c G H locs ls hl hR hS))
theorem zW_if_ge {a off : Int} (tgt : Nat) (hd : decode M.1 pc = .ok (.ifCond .ge off, 3)) (ht : (pc : Int) + off = (tgt : Int)) (kt : 0 ≤ w32 a → zW X T M tgt lv st I) (kf : ¬ 0 ≤ w32 a → zW X T M (pc + 3) lv st I) : zW X T M pc lv (vi a :: st) I := fun p l e s m args below meth c G H locs ls hl hR hS => lv_if_ge G.1 G.2.1 hd ht (fun h => (kt ((oi_le 0 a).mp h) p l e s m args below meth c G H locs ls hl hR hS)) (fun h => (kf (fun h2 => h ((oi_le 0 a).mpr h2)) p l e s m args below meth c G H locs ls hl hR hS))
theorem zW_if_gt {a off : Int} (tgt : Nat) (hd : decode M.1 pc = .ok (.ifCond .gt off, 3)) (ht : (pc : Int) + off = (tgt : Int)) (kt : 0 < w32 a → zW X T M tgt lv st I) (kf : ¬ 0 < w32 a → zW X T M (pc + 3) lv st I) : zW X T M pc lv (vi a :: st) I := fun p l e s m args below meth c G H locs ls hl hR hS => lv_if_gt G.1 G.2.1 hd ht (fun h => (kt ((oi_lt 0 a).mp h) p l e s m args below meth c G H locs ls hl hR hS)) (fun h => (kf (fun h2 => h ((oi_lt 0 a).mpr h2)) p l e s m args below meth c G H locs ls hl hR hS))
theorem zW_if_le {a off : Int} (tgt : Nat) (hd : decode M.1 pc = .ok (.ifCond .le off, 3)) (ht : (pc : Int) + off = (tgt : Int)) (kt : w32 a ≤ 0 → zW X T M tgt lv st I) (kf : ¬ w32 a ≤ 0 → zW X T M (pc + 3) lv st I) : zW X T M pc lv (vi a :: st) I := fun p l e s m args below meth c G H locs ls hl hR hS => lv_if_le G.1 G.2.1 hd ht (fun h => (kt ((oi_le a 0).mp h) p l e s m args below meth c G H locs ls hl hR hS)) (fun h => (kf (fun h2 => h ((oi_le a 0).mpr h2)) p l e s m args below meth c G H locs ls hl hR hS))
theorem zW_if_eq {a off : Int} (tgt : Nat) (hd : decode M.1 pc = .ok (.ifCond .eq off, 3)) (ht : (pc : Int) + off = (tgt : Int)) (kt : w32 a = 0 → zW X T M tgt lv st I) (kf : ¬ w32 a = 0 → zW X T M (pc + 3) lv st I) : zW X T M pc lv (vi a :: st) I := fun p l e s m args below meth c G H locs ls hl hR hS => lv_if_eq G.1 G.2.1 hd ht (fun h => (kt ((oi_eq a 0).mp h) p l e s m args below meth c G H locs ls hl hR hS)) (fun h => (kf (fun h2 => h ((oi_eq a 0).mpr h2)) p l e s m args below meth c G H locs ls hl hR hS))
theorem zW_if_ne {a off : Int} (tgt : Nat) (hd : decode M.1 pc = .ok (.ifCond .ne off, 3)) (ht : (pc : Int) + off = (tgt : Int)) (kf : w32 a = 0 → zW X T M (pc + 3) lv st I) (kt : ¬ w32 a = 0 → zW X T M tgt lv st I) : zW X T M pc lv (vi a :: st) I := fun p l e s m args below meth c G H locs ls hl hR hS => lv_if_ne G.1 G.2.1 hd ht (fun h => (kt (fun h2 => h ((oi_eq a 0).mpr h2)) p l e s m args below meth c G H locs ls hl hR hS)) (fun h => (kf ((oi_eq a 0).mp h) p l e s m args below meth c G H locs ls hl hR hS))
theorem zW_lcmp_lt {a b off : Int} (tgt : Nat) (hd : decode M.1 pc = .ok (.lcmp, 1)) (hd2 : decode M.1 (pc + 1) = .ok (.ifCond .lt off, 3)) (ht : ((pc + 1 : Nat) : Int) + off = (tgt : Int)) (kt : w64 a < w64 b → zW X T M tgt lv st I) (kf : ¬ w64 a < w64 b → zW X T M (pc + 1 + 3) lv st I) : zW X T M pc lv (vl b :: vl a :: st) I := fun p l e s m args below meth c G H locs ls hl hR hS => W.lcmp G.1 G.2.1 hd (lv_if_lt G.1 G.2.1 hd2 ht (fun h => (kt (((lg_cmp_lt _ _).trans (ol_lt a b)).mp h) p l e s m args below meth c G H locs ls hl hR hS)) (fun h => (kf (fun h2 => h (((lg_cmp_lt _ _).trans (ol_lt a b)).mpr h2)) p l e s m args below meth c G H locs ls hl hR hS)))
theorem zW_lcmp_ge {a b off : Int} (tgt : Nat) (hd : decode M.1 pc = .ok (.lcmp, 1)) (hd2 : decode M.1 (pc + 1) = .ok (.ifCond .ge off, 3)) (ht : ((pc + 1 : Nat) : Int) + off = (tgt : Int)) (kt : w64 b ≤ w64 a → zW X T M tgt lv st I) (kf : ¬ w64 b ≤ w64 a → zW X T M (pc + 1 + 3) lv st I) : zW X T M pc lv (vl b :: vl a :: st) I := fun p l e s m args below meth c G H locs ls hl hR hS => W.lcmp G.1 G.2.1 hd (lv_if_ge G.1 G.2.1 hd2 ht (fun h => (kt (((lg_cmp_ge _ _).trans (ol_le b a)).mp h) p l e s m args below meth c G H locs ls hl hR hS)) (fun h => (kf (fun h2 => h (((lg_cmp_ge _ _).trans (ol_le b a)).mpr h2)) p l e s m args below meth c G H locs ls hl hR hS)))
theorem zW_lcmp_gt {a b off : Int} (tgt : Nat) (hd : decode M.1 pc = .ok (.lcmp, 1)) (hd2 : decode M.1 (pc + 1) = .ok (.ifCond .gt off, 3)) (ht : ((pc + 1 : Nat) : Int) + off = (tgt : Int)) (kt : w64 b < w64 a → zW X T M tgt lv st I) (kf : ¬ w64 b < w64 a → zW X T M (pc + 1 + 3) lv st I) : zW X T M pc lv (vl b :: vl a :: st) I := fun p l e s m args below meth c G H locs ls hl hR hS => W.lcmp G.1 G.2.1 hd (lv_if_gt G.1 G.2.1 hd2 ht (fun h => (kt (((lg_cmp_gt _ _).trans (ol_lt b a)).mp h) p l e s m args below meth c G H locs ls hl hR hS)) (fun h => (kf (fun h2 => h (((lg_cmp_gt _ _).trans (ol_lt b a)).mpr h2)) p l e s m args below meth c G H locs ls hl hR hS)))
theorem zW_lcmp_le {a b off : Int} (tgt : Nat) (hd : decode M.1 pc = .ok (.lcmp, 1)) (hd2 : decode M.1 (pc + 1) = .ok (.ifCond .le off, 3)) (ht : ((pc + 1 : Nat) : Int) + off = (tgt : Int)) (kt : w64 a ≤ w64 b → zW X T M tgt lv st I) (kf : ¬ w64 a ≤ w64 b → zW X T M (pc + 1 + 3) lv st I) : zW X T M pc lv (vl b :: vl a :: st) I := fun p l e s m args below meth c G H locs ls hl hR hS => W.lcmp G.1 G.2.1 hd (lv_if_le G.1 G.2.1 hd2 ht (fun h => (kt (((lg_cmp_le _ _).trans (ol_le a b)).mp h) p l e s m args below meth c G H locs ls hl hR hS)) (fun h => (kf (fun h2 => h (((lg_cmp_le _ _).trans (ol_le a b)).mpr h2)) p l e s m args below meth c G H locs ls hl hR hS)))
theorem zW_lcmp_eq {a b off : Int} (tgt : Nat) (hd : decode M.1 pc = .ok (.lcmp, 1)) (hd2 : decode M.1 (pc + 1) = .ok (.ifCond .eq off, 3)) (ht : ((pc + 1 : Nat) : Int) + off = (tgt : Int)) (kt : w64 a = w64 b → zW X T M tgt lv st I) (kf : ¬ w64 a = w64 b → zW X T M (pc + 1 + 3) lv st I) : zW X T M pc lv (vl b :: vl a :: st) I := fun p l e s m args below meth c G H locs ls hl hR hS => W.lcmp G.1 G.2.1 hd (lv_if_eq G.1 G.2.1 hd2 ht (fun h => (kt (((lg_cmp_eq _ _).trans (ol_eq a b)).mp h) p l e s m args below meth c G H locs ls hl hR hS)) (fun h => (kf (fun h2 => h (((lg_cmp_eq _ _).trans (ol_eq a b)).mpr h2)) p l e s m args below meth c G H locs ls hl hR hS)))
theorem zW_lcmp_ne {a b off : Int} (tgt : Nat) (hd : decode M.1 pc = .ok (.lcmp, 1)) (hd2 : decode M.1 (pc + 1) = .ok (.ifCond .ne off, 3)) (ht : ((pc + 1 : Nat) : Int) + off = (tgt : Int)) (kf : w64 a = w64 b → zW X T M (pc + 1 + 3) lv st I) (kt : ¬ w64 a = w64 b → zW X T M tgt lv st I) : zW X T M pc lv (vl b :: vl a :: st) I := fun p l e s m args below meth c G H locs ls hl hR hS => W.lcmp G.1 G.2.1 hd (lv_if_ne G.1 G.2.1 hd2 ht (fun h => (kt (fun h2 => h (((lg_cmp_eq _ _).trans (ol_eq a b)).mpr h2)) p l e s m args below meth c G H locs ls hl hR hS)) (fun h => (kf (((lg_cmp_eq _ _).trans (ol_eq a b)).mp h) p l e s m args below meth c G H locs ls hl hR hS)))
theorem zW_sub (ks : List Nat) {lv' : List (Nat × Value)} (hp : lv_pick lv ks = lv') (k : zW X T M pc lv' st I) : zW X T M pc lv st I := fun p l e s m args below meth c G H locs ls hl hR hS => k p l e s m args below meth c G H locs ls (lv_sub hl ks hp) hR hS
theorem zW_tab {a lo hi dflt : Int} {offs : Array Int} {len : Nat} (j : Nat) (tgt : Nat) {off : Int} (hd : decode M.1 pc = .ok (.tableswitch dflt lo hi offs, len)) (ha : w32 a = lo + (j : Int)) (hj : decide (lo + (j : Int) ≤ hi) = true) (ho : offs[j]? = some off) (ht : (pc : Int) + off = (tgt : Int)) (k : zW X T M tgt lv st I) : zW X T M pc lv (vi a :: st) I := fun p l e s m args below meth c G H locs ls hl hR hS => by
  have hj' := of_decide_eq_true hj
  have h0 : (Int32.ofInt a).toInt = lo + (j : Int) := ha
  exact lv_tableIn G.1 G.2.1 hd (by rw [h0]; omega) (by rw [h0]; omega) (off := off) (by rw [h0, show (lo + (j : Int) - lo).toNat = j by omega]; exact ho) ht (k p l e s m args below meth c G H locs ls hl hR hS)
theorem zW_tabd {a lo hi dflt : Int} {offs : Array Int} {len : Nat} (tgt : Nat) (hd : decode M.1 pc = .ok (.tableswitch dflt lo hi offs, len)) (ha : w32 a < lo ∨ hi < w32 a) (ht : (pc : Int) + dflt = (tgt : Int)) (k : zW X T M tgt lv st I) : zW X T M pc lv (vi a :: st) I := fun p l e s m args below meth c G H locs ls hl hR hS => lv_tableOut G.1 G.2.1 hd ha ht (k p l e s m args below meth c G H locs ls hl hR hS)
end
