/-! rows for constructors whose worlds are never unfolded against each other (a comparison of two grown worlds costs 2 to the steps) -/
theorem zNA.pt {X : zX} {q q2 : zPl} {k : Nat} (h : zNA X) : zNA (zpt X q k q2) := h
theorem zSm.nw {A B : zX} {q : zPl} {w : Nat} (h : zSm A B) : zSm (znw A q w) (znw B q w) := by
  obtain ⟨⟨x1, x2, x3, x4, x5⟩, hd, hp, hz⟩ := h
  refine ⟨⟨x1, x2, x3, x4, x5⟩, fun a => ?_, fun a j ha hj => ?_, ?_⟩
  · show a = q ∨ zDom B a ↔ a = q ∨ zDom A a
    rw [hd a]
  · show (if a = q then none else zP B a j) = if a = q then none else zP A a j
    by_cases e : a = q
    · rw [if_pos e, if_pos e]
    · rw [if_neg e, if_neg e]
      exact hp a j (ha.resolve_left e) hj
  · show zz B + 1 = zz A + 1
    rw [hz]
theorem zSm.pt {A B : zX} {q q2 : zPl} {k : Nat} (h : zSm A B) : zSm (zpt A q k q2) (zpt B q k q2) := by
  obtain ⟨⟨x1, x2, x3, x4, x5⟩, hd, hp, hz⟩ := h
  refine ⟨⟨x1, x2, x3, x4, x5⟩, hd, fun a j ha hj => ?_, hz⟩
  show (if a = q ∧ j = k then some q2 else zP B a j) = if a = q ∧ j = k then some q2 else zP A a j
  rw [hp a j ha hj]
theorem zSm.K {X X' : zX} : zSm (zK X X') X := ⟨⟨rfl, rfl, rfl, rfl, rfl⟩, fun _ => Iff.rfl, fun _ _ _ _ => rfl, rfl⟩
/-- the world X' has grown out of X by c cells and n slots, and the rest is the same -/
def zE (X X' : zX) (c n : Nat) : Prop := (X'.1 = X.1 ∧ X'.2.1 = X.2.1 ∧ zad X' = zad X ∧ ztc X' = ztc X ∧ ztv X' = ztv X) ∧ zA X' = zA X ∧ zQ X' = zQ X ∧ zk X' = zk X + c ∧ zn X' = zn X + n
theorem zE.rf {X : zX} : zE X X 0 0 := ⟨⟨rfl, rfl, rfl, rfl, rfl⟩, rfl, rfl, rfl, rfl⟩
theorem zE.nw {X X' : zX} {q : zPl} {c n w : Nat} (h : zE X X' c n) : zE X (znw X' q w) (c + 1) (n + w) := by
  obtain ⟨⟨x1, x2, x3, x4, x5⟩, h1, h2, h3, h4⟩ := h
  refine ⟨⟨x1, x2, x3, x4, x5⟩, h1, h2, ?_, ?_⟩
  · show zk X' + 1 = _; rw [h3]; omega
  · show zn X' + w = _; rw [h4]; omega
theorem zE.pt {X X' : zX} {q q2 : zPl} {c n k : Nat} (h : zE X X' c n) : zE X (zpt X' q k q2) c n := h
theorem zE.tr {X X1 X2 : zX} {c n c' n' : Nat} (h : zE X X1 c n) (h2 : zE X1 X2 c' n') : zE X X2 (c + c') (n + n') := by
  obtain ⟨⟨x1, x2, x3, x4, x5⟩, h1, h2', h3, h4⟩ := h
  obtain ⟨⟨y1, y2, y3, y4, y5⟩, g1, g2, g3, g4⟩ := h2
  exact ⟨⟨y1.trans x1, y2.trans x2, y3.trans x3, y4.trans x4, y5.trans x5⟩, g1.trans h1, g2.trans h2', by rw [g3, h3]; omega, by rw [g4, h4]; omega⟩
theorem zE.go {X X' : zX} {c n : Nat} (h : zE X X' c n) : zgo X X' c n = X' := by
  obtain ⟨⟨x1, x2, x3, x4, x5⟩, h1, h2, h3, h4⟩ := h
  obtain ⟨a1, a2, a3, a4, a5, a6, a7, a8, a9, a10, a11, a12⟩ := X'
  simp only [zgo] at *
  subst x1 x2 x3 x4 x5 h1 h2 h3 h4
  rfl
theorem zP_pt {X : zX} {q q2 a : zPl} {k j : Nat} : zP (zpt X q k q2) a j = if a = q ∧ j = k then some q2 else zP X a j := rfl
theorem zP_nw {X : zX} {q a : zPl} {w j : Nat} : zP (znw X q w) a j = if a = q then none else zP X a j := rfl
section
variable {X : zX} {T : zT} {M : zM} {pc : Nat} {lv : List (Nat × Value)} {st : List Value} {I : zMem}
theorem zU_new {q : zPl} {idx ci N : Nat} (a : Nat) (hf : zNk M.2.1 idx ci N) (hk : zkd q.1 = (ci, N)) (hadr : zad X q = a) (ha : a = zz X) (hA : zNA X) (hr : zk X + 1 ≤ M.2.2.2.2.cells ∧ zn X + N ≤ M.2.2.2.2.slots) (hd : decode M.1 pc = .ok (.new idx, 3)) (kk : zNA (znw X q N) → zW (znw X q N) T M (pc + 3) lv (.ref a :: st) (zzr I q)) : zW X T M pc lv st I := by
  subst hadr; exact zV_new hf hk ha hA hr hd kk
theorem zU_newI {q : zPl} {N : Nat} {z : Int} (a : Nat) (harr : Cond.arrayClass .int ∈ lw_ok) (hN : z = (N : Int)) (hb : decide (N < 100000 ∧ N * componentBytes .int ≤ 536870912 ∧ 13 ≤ 14) = true) (hk : zkd q.1 = (14, N)) (hadr : zad X q = a) (ha : a = zz X) (hA : zNA X) (hr : zk X + 1 ≤ M.2.2.2.2.cells ∧ zn X + N ≤ M.2.2.2.2.slots) (hd : decode M.1 pc = .ok (.newarray .int, 2)) (kk : zNA (znw X q N) → zW (znw X q N) T M (pc + 2) lv (.ref a :: st) (zzr I q)) : zW X T M pc lv (vi z :: st) I := by
  subst hadr; exact zV_newI harr hN hb hk ha hA hr hd kk
theorem zU_newL {q : zPl} {N : Nat} {z : Int} (a : Nat) (harr : Cond.arrayClass .long ∈ lw_ok) (hN : z = (N : Int)) (hb : decide (N < 100000 ∧ N * componentBytes .long ≤ 536870912 ∧ 13 ≤ 15) = true) (hk : zkd q.1 = (15, N)) (hadr : zad X q = a) (ha : a = zz X) (hA : zNA X) (hr : zk X + 1 ≤ M.2.2.2.2.cells ∧ zn X + N ≤ M.2.2.2.2.slots) (hd : decode M.1 pc = .ok (.newarray .long, 2)) (kk : zNA (znw X q N) → zW (znw X q N) T M (pc + 2) lv (.ref a :: st) (zzr I q)) : zW X T M pc lv (vi z :: st) I := by
  subst hadr; exact zV_newL harr hN hb hk ha hA hr hd kk
theorem zU_newZ {q : zPl} {N : Nat} {z : Int} (a : Nat) (harr : Cond.arrayClass .boolean ∈ lw_ok) (hN : z = (N : Int)) (hb : decide (N < 100000 ∧ N * componentBytes .boolean ≤ 536870912 ∧ 13 ≤ 16) = true) (hk : zkd q.1 = (16, N)) (hadr : zad X q = a) (ha : a = zz X) (hA : zNA X) (hr : zk X + 1 ≤ M.2.2.2.2.cells ∧ zn X + N ≤ M.2.2.2.2.slots) (hd : decode M.1 pc = .ok (.newarray .boolean, 2)) (kk : zNA (znw X q N) → zW (znw X q N) T M (pc + 2) lv (.ref a :: st) (zzr I q)) : zW X T M pc lv (vi z :: st) I := by
  subst hadr; exact zV_newZ harr hN hb hk ha hA hr hd kk
theorem zU_newR {q : zPl} {C : String} {idx kd N : Nat} {z : Int} (a i : Nat) (hcl : Cond.classLink M.2.1 idx C ∈ lw_ok) (hao : ∀ U : State, zNs U → va_AO C U) (hi : (ztys X)[i]? = some (zcy X kd, .object C)) (hN : z = (N : Int)) (hb : decide (N < 100000 ∧ 17 ≤ kd) = true) (hk : zkd q.1 = (kd, N)) (hadr : zad X q = a) (ha : a = zz X) (hA : zNA X) (hr : zk X + 1 ≤ M.2.2.2.2.cells ∧ zn X + N ≤ M.2.2.2.2.slots) (hd : decode M.1 pc = .ok (.anewarray idx, 3)) (kk : zNA (znw X q N) → zW (znw X q N) T M (pc + 3) lv (.ref a :: st) (zzr I q)) : zW X T M pc lv (vi z :: st) I := by
  subst hadr; exact zV_newR i hcl hao hi hN hb hk ha hA hr hd kk
theorem zU_putR {q q2 : zPl} {idx ci N k : Nat} {t : FieldType} (a a2 : Nat) (hin2 : M.2.2.2.1 = none ∧ M.2.2.2.2.cells ≠ 0) (hf : zFk M.2.1 idx ci N k true t) (hown : ∀ C Tb N', vwCl[ci]? = some (C, Tb, N') → (Tb k).1 = M.2.1) (hq : zDom X q) (hk : zkd q.1 = (ci, N)) (hz : zfr ci k = true) (hn : ∀ a, narrow t (.ref a) = .ref a ∧ fits t (.ref a) = true) (ha : zad X q = a) (ha2 : zad X q2 = a2) (hA : zNA X) (hd : decode M.1 pc = .ok (.putfield idx, 3)) (kk : zNA (zpt X q k q2) → zW (zpt X q k q2) T M (pc + 3) lv st I) : zW X T M pc lv (.ref a2 :: .ref a :: st) I := by
  subst ha ha2; exact zW_putR hin2 hf hown hq hk hz hn hd (kk hA.pt)
theorem zU_put {q : zPl} {idx ci N k : Nat} {t : FieldType} {z : Int} (a : Nat) (hf : zFk M.2.1 idx ci N k false t) (hq : zDom X q) (hk : zkd q.1 = (ci, N)) (hz : zfr ci k = false) (hn : narrow t (vi z) = vi z ∧ fits t (vi z) = true) (ha : zad X q = a) (hd : decode M.1 pc = .ok (.putfield idx, 3)) (kk : zW X T M (pc + 3) lv st (zst I q k z)) : zW X T M pc lv (vi z :: .ref a :: st) I := by
  subst ha; exact zW_put hf hq hk hz hn hd kk
theorem zU_getR {q q' : zPl} {idx ci N k : Nat} {fl : Bool} {t : FieldType} (a a' : Nat) (hf : zFk M.2.1 idx ci N k fl t) (hq : zDom X q) (hk : zkd q.1 = (ci, N)) (hz : zfr ci k = true) (hp : zP X q k = some q') (ha : zad X q = a) (ha' : zad X q' = a') (hd : decode M.1 pc = .ok (.getfield idx, 3)) (kk : zW X T M (pc + 3) lv (.ref a' :: st) I) : zW X T M pc lv (.ref a :: st) I := by
  subst ha ha'; exact zW_getR hf hq hk hz hp hd kk
theorem zU_ini {y : MethodName} {M' : zM} {X' : zX} {As : List Value} {T' : zT} {q : zPl} {idx n cc nn : Nat} {stk : List Value} (a : Nat) (hC : zCk X X' M' y (.ref a :: As) I T') (hlk : Cond.methodLink M.2.1 idx y ∈ lw_ok ∨ ∃ host, ∀ U : State, zNs U → va_Nw (.methodLinkNest M.2.1 idx y host) U) (hm : zMi y M' n) (hs : zGw X X') (hE : zE X X' cc nn) (hc : cc = M'.2.2.2.2.cells ∧ nn = M'.2.2.2.2.slots) (ha : zad X q = a) (hA : zNA X) (hr : zk X + M'.2.2.2.2.cells ≤ M.2.2.2.2.cells ∧ zn X + M'.2.2.2.2.slots ≤ M.2.2.2.2.slots) (hroom : decide (M'.2.2.2.2.frames + 1 ≤ M.2.2.2.2.frames ∧ 8 + (M'.2.2.1 + 11) + M'.2.2.2.2.locals ≤ M.2.2.2.2.locals) = true) (hn : As.length = n) (hsum : decide ((st.map fun v => v.category).sum ≤ 8) = true) (hstk : stk = As.reverse ++ .ref a :: st) (hd : decode M.1 pc = .ok (.invokespecial idx, 3)) (kk : zNA X' → zW X' T M (pc + 3) lv (T'.1.toList ++ st) T'.2) : zW X T M pc lv stk I := by
  subst ha
  obtain ⟨rfl, rfl⟩ := hc
  exact zV_ini (q := q) hC hlk hm hs hA hE.go hr hroom hn hsum hstk hd kk
theorem zU_aast {qa qv : zPl} {kd n ci N : Nat} {z : Int} {C : String} {Tb : u_T} (i k a v : Nat) (hzk : ix z = k) (hi : (ztys X)[i]? = some (zcy X kd, .object C)) (hc : vwCl[ci]? = some (C, Tb, N)) (hqa : zDom X qa) (hka : zkd qa.1 = (kd, n)) (h17 : decide (17 ≤ kd ∧ ci < 13) = true) (hqv : zDom X qv) (hkv : zkd qv.1 = (ci, N)) (hb : zin z n) (ha : zad X qa = a) (hv : zad X qv = v) (hA : zNA X) (hd : decode M.1 pc = .ok (.aastore, 1)) (kk : zNA (zpt X qa k qv) → zW (zpt X qa k qv) T M (pc + 1) lv st I) : zW X T M pc lv (.ref v :: vi z :: .ref a :: st) I := by
  subst ha hv; exact zV_aast i k hzk hi hc hqa hka h17 hqv hkv hb hd (kk hA.pt)
theorem zU_iastk {q : zPl} {n : Nat} {z x : Int} (k a : Nat) (hzk : ix z = k) (hq : zDom X q) (hk : zkd q.1 = (14, n)) (hb : zin z n) (ha : zad X q = a) (hd : decode M.1 pc = .ok (.iastore, 1)) (kk : zW X T M (pc + 1) lv st (zst I q k x)) : zW X T M pc lv (vi x :: vi z :: .ref a :: st) I := by
  subst ha; exact zW_iastk k hzk hq hk hb hd kk
end
theorem zAt.of {X : zX} {ad : zPl → Nat} {z n : Nat} {l l2 : List zPl} (hx : zad X = ad) (hb : zz X = z + n) (h : ∀ i q, l[i]? = some q → ad q = z + i) (hl : l.drop n = l2 ++ l.drop (n + l2.length)) : zAt X (zz X) l2 := fun i q hi => by
  have hlt : i < l2.length := (List.getElem?_eq_some_iff.mp hi).1
  have e : l[n + i]? = some q := by
    rw [← List.getElem?_drop, hl, List.getElem?_append_left hlt]; exact hi
  rw [hx, h _ _ e, hb]; omega
theorem zfillI {X : zX} {I : zMem} {q : zPl} {n : Nat} (v : Int) (a : Nat) (hq : zDom X q) (hk : zkd q.1 = (14, n)) (hn : n < 4000) (ha : zad X q = a) : zCn X mJ7_fill_53178 yJ7_fill_53178 [.ref a, vi v] I (none, zmp I q n (fun _ => v)) := by
  subst ha
  exact kJ7_fill_53178 (X := zN X) (zWf0 (zHq_N X)) (q0 := q) (n0 := n) (v1 := v) hq hk (s_fillI q hn v I)
theorem zGw.mn {X X' : zX} (h : zGw X X') (h0 : zad X (29, 0, 0) = zz X') (hi : ∀ i, i < 4 → zad X (30, 0, i) = zz X' + 1 + i) : ∀ i, i ≤ 4 → zGw X (wmn X' i)
  | 0, _ => h.nw h0
  | i + 1, hl => ((zGw.mn h h0 hi i (by omega)).nw (by rw [(wmn_fix X' i).2.2.2.2.2.2.2.2.2.1]; exact hi i (by omega))).pt
theorem zE.mn {X X' : zX} {c n : Nat} (h : zE X X' c n) : ∀ i, zE X (wmn X' i) (c + 1 + i) (n + 4 + 60 * i)
  | 0 => h.nw
  | i + 1 => by
    have h2 := ((zE.mn h i).nw (q := (30, 0, i)) (w := 60)).pt (q := (29, 0, 0)) (q2 := (30, 0, i)) (k := i)
    have e : n + 4 + 60 * (i + 1) = n + 4 + 60 * i + 60 := by omega
    rw [e]; exact h2
theorem zSm.mn {A B : zX} (h : zSm A B) : ∀ i, zSm (wmn A i) (wmn B i)
  | 0 => h.nw
  | i + 1 => ((zSm.mn h i).nw).pt
theorem zNA.mn {X : zX} (h : zNA X) (i : Nat) : zNA (wmn X i) := fun a ha => by
  obtain ⟨-, -, -, -, -, h6, -, -, -, h10, -⟩ := wmn_fix X i
  rw [h6]
  rw [h10] at ha
  exact h a (by omega)
theorem zU_mna {X : zX} {T : zT} {M : zM} {pc : Nat} {lv : List (Nat × Value)} {st : List Value} {I : zMem} {idx : Nat} (a : Nat) (hcl : Cond.classLink M.2.1 idx "[[B" ∈ lw_ok) (harr : Cond.arrayClass .byte ∈ lw_ok) (hadr : zad X (29, 0, 0) = a) (h0 : zad X (29, 0, 0) = zz X) (h1 : zad X (30, 0, 0) = zz X + 1) (h2 : zad X (30, 0, 1) = zz X + 2) (h3 : zad X (30, 0, 2) = zz X + 3) (h4 : zad X (30, 0, 3) = zz X + 4) (hA : zNA X) (hr : zk X + 5 ≤ M.2.2.2.2.cells ∧ zn X + 244 ≤ M.2.2.2.2.slots) (hd : decode M.1 pc = .ok (.multianewarray idx 2, 4)) (kk : zNA (wmn X 4) → zW (wmn X 4) T M (pc + 4) lv (.ref a :: st) (imn I 4)) : zW X T M pc lv (vi 60 :: vi 4 :: st) I := by
  subst hadr
  refine zV_mna hcl harr h0 (fun i hi => ?_) hA hr hd (kk (hA.mn 4))
  rcases i with _ | _ | _ | _ | i
  · exact h1
  · exact h2
  · exact h3
  · exact h4
  · omega
theorem zmn4 {ad : zPl → Nat} {z : Nat} (h1 : ad (30, 0, 0) = z + 1) (h2 : ad (30, 0, 1) = z + 2) (h3 : ad (30, 0, 2) = z + 3) (h4 : ad (30, 0, 3) = z + 4) : ∀ i, i < 4 → ad (30, 0, i) = z + 1 + i := fun i hi => by
  rcases i with _ | _ | _ | _ | i
  · exact h1
  · exact h2
  · exact h3
  · exact h4
  · omega
theorem zDmn {X : zX} {q : zPl} (h : zDom X q) : ∀ i, zDom (wmn X i) q
  | 0 => Or.inr h
  | i + 1 => Or.inr (zDmn h i)
