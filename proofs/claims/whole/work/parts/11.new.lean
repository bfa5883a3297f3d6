/-! making cells: the world grows by a place; the new cell's address is the heap's size -/
def zzr (I : zMem) (q : zPl) : zMem := fun q' k => if q' = q then 0 else I q' k
def znw (X : zX) (q : zPl) (w : Nat) : zX := (X.1, X.2.1, zad X, (fun a => a = q ∨ zDom X a), (fun a j => if a = q then none else zP X a j), ztc X, ztv X, zA X, zQ X, zk X + 1, zn X + w, zz X + 1)
def zpt (X : zX) (q : zPl) (k : Nat) (q' : zPl) : zX := (X.1, X.2.1, zad X, zDom X, (fun a j => if a = q ∧ j = k then some q' else zP X a j), ztc X, ztv X, zA X, zQ X, zk X, zn X, zz X)
theorem zat_lt {X : zX} {I : zMem} {q : zPl} {H : Heap} (h : zat X I q H) : zad X q < H.size := by
  unfold zat at h
  split at h
  · obtain ⟨cell, q1, -⟩ := h; exact (Array.getElem?_eq_some_iff.mp q1).1
  · exact (Array.getElem?_eq_some_iff.mp h).1
theorem arrV_ext {c : ClassId} {n : Nat} {f g : Nat → Value} (h : ∀ j, j < n → f j = g j) : arrV c n f = arrV c n g := by
  unfold arrV
  congr 1
  apply Array.ext (by simp)
  intro i h1 h2
  simp at h1 h2 ⊢
  exact h i (by omega)
theorem zat_like {X X' : zX} {I I1 : zMem} {q : zPl} {H H1 : Heap} (hX : X'.1 = X.1 ∧ zcy X' = zcy X ∧ zad X' = zad X) (hp : ∀ j, j < (zkd q.1).2 → zP X' q j = zP X q j) (h : zat X I q H) (hH : H1[zad X q]? = H[zad X q]?) (hI : ∀ k, I1 q k = I q k) : zat X' I1 q H1 := by
  obtain ⟨x1, x2, x3⟩ := hX
  unfold zat at h ⊢
  rw [x1, x2, x3]
  split at h
  · rw [if_pos (by assumption)]
    refine (h.kept hH).to fun j hj => ?_
    unfold zfv; rw [hp j hj, hI, x3]
  · rw [if_neg (by assumption), hH, h]
    apply congrArg some
    apply arrV_ext
    intro j hj
    unfold zav; rw [hp j hj, hI, x3]
theorem zRel_new {X : zX} {I : zMem} {q : zPl} {w : Nat} {H H1 : Heap} (hR : zRel X I H) (ha : zad X q = zz X) (hn : zat (znw X q w) (zzr I q) q H1) (hs : H1.size = H.size + 1) (ho : ∀ a, a < H.size → H1[a]? = H[a]?) : zRel (znw X q w) (zzr I q) H1 := by
  have hne : ∀ q', zDom X q' → zad X q' ≠ zz X := fun q' h' e => by
    have h1 := zat_lt (hR.1 q' h')
    have h2 := hR.2.2
    omega
  refine ⟨fun q' hq' => ?_, fun a b h1 h2 e => ?_, by rw [hs, hR.2.2]; rfl⟩
  · rcases hq' with rfl | h'
    · exact hn
    · have hx : q' ≠ q := fun e => hne q' h' (by rw [e]; exact ha)
      exact zat_like (X := X) (X' := znw X q w) ⟨rfl, rfl, rfl⟩ (fun j _ => if_neg hx) (hR.1 q' h') (ho _ (zat_lt (hR.1 q' h'))) (fun k => if_neg hx)
  · have e' : zad X a = zad X b := e
    rcases h1 with h1 | h1 <;> rcases h2 with h2 | h2
    · rw [h1, h2]
    · exact absurd (by rw [← e', h1]; exact ha) (hne b h2)
    · exact absurd (by rw [e', h2]; exact ha) (hne a h1)
    · exact hR.2.1 a b h1 h2 e'
theorem zGd_new {X : zX} {M : zM} {p : Program} {s : State} {m : MethodId} {args : Array Value} {meth : Method} {c : Code} {q : zPl} {w : Nat} (G : zGd X M p s m args meth c) (ha : zad X q = zz X) (hA : zA X (zz X)) (hr : zk X + 1 ≤ M.2.2.2.2.cells ∧ zn X + w ≤ M.2.2.2.2.slots) : zGd (znw X q w) M p s m args meth c := by
  obtain ⟨h1, h2, h3, h4, h5, h6, h7, h8, h9, h10, -, -, h13⟩ := G
  refine ⟨h1, h2, h3, h4, h5, h6, h7, h8, h9, fun q' h' => ?_, hr.1, hr.2, h13⟩
  rcases h' with h' | h'
  · rw [h']; show zA X (zad X q); rw [ha]; exact hA
  · exact h10 q' h'
theorem zS_new {A : Nat → Prop} {H0 H H1 : Heap} {locs : List Loc} (h : va_S A H0 H locs) (hs : H1.size = H.size + 1) (ho : ∀ a, a < H.size → H1[a]? = H[a]?) : va_S A H0 H1 locs := ⟨Nat.le_trans h.1 (by omega), fun x h1 h2 => (ho x (Nat.lt_of_lt_of_le h1 h.1)).trans (h.2.1 x h1 h2), h.2.2⟩
/-- a class that is made: its words and what its fields are at first -/
def zNk (own : String) (idx ci N : Nat) : Prop := ∃ (C : String) (T : u_T) (ty : Nat → FieldType), vwCl[ci]? = some (C, T, N) ∧ ci < 13 ∧ (∀ w ∈ u_ws C T N, w ∈ lw_ok) ∧ Cond.classLink own idx C ∈ lw_ok ∧ Cond.instantiable C N ∈ lw_ok ∧ Cond.initialized C ∈ lw_ok ∧ (∀ k, k < N → parseFieldDescriptor (T k).2.2.1 = some (ty k)) ∧ ∀ k, k < N → defaultValue (ty k) = if zfr ci k = true then .null else vi 0
section
variable {X : zX} {T : zT} {M : zM} {pc : Nat} {lv : List (Nat × Value)} {st : List Value} {I : zMem}
theorem zW_new {q : zPl} {idx ci N : Nat} (hf : zNk M.2.1 idx ci N) (hk : zkd q.1 = (ci, N)) (ha : zad X q = zz X) (hA : zA X (zz X)) (hr : zk X + 1 ≤ M.2.2.2.2.cells ∧ zn X + N ≤ M.2.2.2.2.slots) (hd : decode M.1 pc = .ok (.new idx, 3)) (kk : zW (znw X q N) T M (pc + 3) lv (.ref (zad X q) :: st) (zzr I q)) : zW X T M pc lv st I := fun p l e s m args below meth c G H locs ls hl hR hS => by
  obtain ⟨C, Tb, ty, hc, h13, hin, hcl, hins, hini, hty, hdf⟩ := hf
  have hts := G.2.2.2.2.1
  have hKn := G.2.2.2.2.2.2.2.1.1.1 ci _ hc
  refine W.newcK G.1 G.2.1 G.2.2.2.1 (hts _ hcl) (hts _ hins) (hts _ hini) rfl hd hr.1 hr.2 hKn.2.1 hR.2.2 fun H1 kC hkC e1 z1 o1 => ?_
  have hs : H1.size = H.size + 1 := by rw [z1, hR.2.2]
  have ho : ∀ a, a < H.size → H1[a]? = H[a]? := fun a h => o1 a (by rw [← hR.2.2]; exact h)
  have hat : zat (znw X q N) (zzr I q) q H1 := (zat_o hk h13).mpr (by
    show t_OB (zad X q) _ _ _ _ _
    rw [ha]
    refine (u_born ty hts hin hKn hkC e1 hty).to fun j hj => ?_
    rw [hdf j hj]
    unfold zfv
    cases hz : zfr ci j
    · simp [zzr]
    · have : zP (znw X q N) q j = none := if_pos rfl
      rw [this]; rfl)
  have h := kk p l e s m args below meth c (zGd_new G ha hA hr) H1 locs ls hl (zRel_new hR ha hat hs ho) (zS_new hS hs ho)
  rw [ha] at h
  exact h
theorem zW_newa {q : zPl} {atype : ArrayType} {ty : FieldType} {kd N : Nat} {z : Int} (i : Nat) (harr : Cond.arrayClass (newarray.typeOf atype) ∈ lw_ok) (hty : newarray.typeOf atype = ty) (hi : (ztys X)[i]? = some (zcy X kd, ty)) (hN : z = (N : Int)) (hb : decide (N < 100000 ∧ N * componentBytes ty ≤ 536870912 ∧ 13 ≤ kd) = true) (hdf : ∀ j, zav (znw X q N) (zzr I q) q kd j = defaultValue ty) (hk : zkd q.1 = (kd, N)) (ha : zad X q = zz X) (hA : zA X (zz X)) (hr : zk X + 1 ≤ M.2.2.2.2.cells ∧ zn X + N ≤ M.2.2.2.2.slots) (hd : decode M.1 pc = .ok (.newarray atype, 2)) (kk : zW (znw X q N) T M (pc + 2) lv (.ref (zad X q) :: st) (zzr I q)) : zW X T M pc lv (vi z :: st) I := fun p l e s m args below meth c G H locs ls hl hR hS => by
  subst hty hN
  obtain ⟨b1, b2, b3⟩ := of_decide_eq_true hb
  have hts := G.2.2.2.2.1
  have hra := (G.2.2.2.2.2.2.2.1.1.2 i _ hi).2
  have hw : w32 (N : Int) = N := w32_id (by omega) (by omega)
  refine va_newaK G.1 G.2.1 (hts _ harr) rfl hd rfl (fun h => by have := (oi_lt (N : Int) 0).mp h; rw [hw] at this; have h0 : w32 0 = 0 := rfl; omega) (show (w32 (N : Int)).toNat = N by rw [hw]; rfl) b2 hr.1 hr.2 hR.2.2 fun H1 cA e1 z1 o1 hAr hNm => ?_
  have hcA : cA = zcy X kd := by
    cases atype <;> exact Option.some.inj (hNm.symm.trans hra)
  subst hcA
  have hs : H1.size = H.size + 1 := by rw [z1, hR.2.2]
  have ho : ∀ a, a < H.size → H1[a]? = H[a]? := fun a h => o1 a (by rw [← hR.2.2]; exact h)
  have hat : zat (znw X q N) (zzr I q) q H1 := (zat_a hk (by omega)).mpr (by
    show H1[zad X q]? = _
    rw [ha, e1]
    congr 2
    funext j
    exact (hdf j).symm)
  have h := kk p l e s m args below meth c (zGd_new G ha hA hr) H1 locs ls hl (zRel_new hR ha hat hs ho) (zS_new hS hs ho)
  rw [ha] at h
  exact h
theorem zav_0i {q : zPl} {kd j : Nat} (h1 : ¬ kd = 15) (h2 : kd < 17) : zav X (zzr I q) q kd j = vi 0 := by rw [zav_i h1 h2]; simp [zzr]
theorem zav_0l {q : zPl} {j : Nat} : zav X (zzr I q) q 15 j = vl 0 := by rw [zav_l]; simp [zzr]
theorem zW_newI {q : zPl} {N : Nat} {z : Int} (harr : Cond.arrayClass .int ∈ lw_ok) (hN : z = (N : Int)) (hb : decide (N < 100000 ∧ N * componentBytes .int ≤ 536870912 ∧ 13 ≤ 14) = true) (hk : zkd q.1 = (14, N)) (ha : zad X q = zz X) (hA : zA X (zz X)) (hr : zk X + 1 ≤ M.2.2.2.2.cells ∧ zn X + N ≤ M.2.2.2.2.slots) (hd : decode M.1 pc = .ok (.newarray .int, 2)) (kk : zW (znw X q N) T M (pc + 2) lv (.ref (zad X q) :: st) (zzr I q)) : zW X T M pc lv (vi z :: st) I := zW_newa (atype := .int) (ty := .int) 1 harr rfl rfl hN hb (fun _ => zav_0i (by decide) (by decide)) hk ha hA hr hd kk
theorem zW_newL {q : zPl} {N : Nat} {z : Int} (harr : Cond.arrayClass .long ∈ lw_ok) (hN : z = (N : Int)) (hb : decide (N < 100000 ∧ N * componentBytes .long ≤ 536870912 ∧ 13 ≤ 15) = true) (hk : zkd q.1 = (15, N)) (ha : zad X q = zz X) (hA : zA X (zz X)) (hr : zk X + 1 ≤ M.2.2.2.2.cells ∧ zn X + N ≤ M.2.2.2.2.slots) (hd : decode M.1 pc = .ok (.newarray .long, 2)) (kk : zW (znw X q N) T M (pc + 2) lv (.ref (zad X q) :: st) (zzr I q)) : zW X T M pc lv (vi z :: st) I := zW_newa (atype := .long) (ty := .long) 2 harr rfl rfl hN hb (fun _ => zav_0l) hk ha hA hr hd kk
theorem zW_newZ {q : zPl} {N : Nat} {z : Int} (harr : Cond.arrayClass .boolean ∈ lw_ok) (hN : z = (N : Int)) (hb : decide (N < 100000 ∧ N * componentBytes .boolean ≤ 536870912 ∧ 13 ≤ 16) = true) (hk : zkd q.1 = (16, N)) (ha : zad X q = zz X) (hA : zA X (zz X)) (hr : zk X + 1 ≤ M.2.2.2.2.cells ∧ zn X + N ≤ M.2.2.2.2.slots) (hd : decode M.1 pc = .ok (.newarray .boolean, 2)) (kk : zW (znw X q N) T M (pc + 2) lv (.ref (zad X q) :: st) (zzr I q)) : zW X T M pc lv (vi z :: st) I := zW_newa (atype := .boolean) (ty := .boolean) 3 harr rfl rfl hN hb (fun _ => zav_0i (by decide) (by decide)) hk ha hA hr hd kk
/-- an array of references -/
theorem zW_newR {q : zPl} {C : String} {idx kd N : Nat} {z : Int} (i : Nat) (hcl : Cond.classLink M.2.1 idx C ∈ lw_ok) (hao : ∀ U : State, zNs U → va_AO C U) (hi : (ztys X)[i]? = some (zcy X kd, .object C)) (hN : z = (N : Int)) (hb : decide (N < 100000 ∧ 17 ≤ kd) = true) (hk : zkd q.1 = (kd, N)) (ha : zad X q = zz X) (hA : zA X (zz X)) (hr : zk X + 1 ≤ M.2.2.2.2.cells ∧ zn X + N ≤ M.2.2.2.2.slots) (hd : decode M.1 pc = .ok (.anewarray idx, 3)) (kk : zW (znw X q N) T M (pc + 3) lv (.ref (zad X q) :: st) (zzr I q)) : zW X T M pc lv (vi z :: st) I := fun p l e s m args below meth c G H locs ls hl hR hS => by
  subst hN
  obtain ⟨b1, b3⟩ := of_decide_eq_true hb
  have hts := G.2.2.2.2.1
  obtain ⟨-, -, -, -, -, hNm⟩ := (G.2.2.2.2.2.2.2.1.1.2 i _ hi).2
  have hw : w32 (N : Int) = N := w32_id (by omega) (by omega)
  have hcl' : (Int32.ofInt (N : Int)).toNatClampNeg = N := show (w32 (N : Int)).toNat = N by rw [hw]; rfl
  refine W.anew G.1 G.2.1 G.2.2.2.1 (hts _ hcl) (va_AO.use (hao _ G.2.2.2.2.2.2.2.1.2)) rfl hd rfl (fun h => by have := (oi_lt (N : Int) 0).mp h; rw [hw] at this; have h0 : w32 0 = 0 := rfl; omega) (by rw [hcl']; omega) hr.1 (by rw [hcl']; exact hr.2) fun cA kA comp f1 f2 f3 f4 => ?_
  rw [hcl']
  have hcA : cA = zcy X kd := Option.some.inj (f1.symm.trans hNm)
  subst hcA
  generalize hH1 : H.push ({ cls := zcy X kd, slots := Array.replicate N .null, vm := .none } : Cell) = H1
  have hs : H1.size = H.size + 1 := by rw [← hH1, Array.size_push]
  have e1 : H1[zz X]? = some (arrV (zcy X kd) N (fun _ => .null)) := by rw [← hR.2.2, ← hH1, Array.getElem?_push_size, ← arrV_new]
  have ho : ∀ a, a < H.size → H1[a]? = H[a]? := fun a h => by rw [← hH1, Array.getElem?_push, if_neg (Nat.ne_of_lt h)]
  have hat : zat (znw X q N) (zzr I q) q H1 := (zat_a hk (by omega)).mpr (by
    show H1[zad X q]? = _
    rw [ha, e1]
    congr 2
    funext j
    exact (zav_n (by omega) (by omega) (if_pos rfl)).symm)
  have h := kk p l e s m args below meth c (zGd_new G ha hA hr) H1 locs ls hl (zRel_new hR ha hat hs ho) (zS_new hS hs ho)
  rw [ha] at h
  rw [hR.2.2]
  exact h
theorem zRel_pt {X : zX} {I : zMem} {q q2 : zPl} {k : Nat} {H H1 : Heap} (hR : zRel X I H) (hq : zDom X q) (hn : zat (zpt X q k q2) I q H1) (ho : ∀ a, a ≠ zad X q → H1[a]? = H[a]?) (hz : H1.size = H.size) : zRel (zpt X q k q2) I H1 := by
  refine ⟨fun q' hq' => ?_, hR.2.1, hz.trans hR.2.2⟩
  by_cases e : q' = q
  · subst e; exact hn
  · exact zat_like (X := X) (X' := zpt X q k q2) ⟨rfl, rfl, rfl⟩ (fun j _ => if_neg fun c => e c.1) (hR.1 q' hq') (ho _ fun c => e (hR.2.1 q' q hq' hq c)) (fun _ => rfl)
theorem zfv_pt {q q2 : zPl} {ci k : Nat} (hf : zfr ci k = true) : ∀ j, updV (zfv X I q ci) k (.ref (zad X q2)) j = zfv (zpt X q k q2) I q ci j := fun j => by
  unfold updV zfv
  by_cases e : j = k
  · subst e
    have : zP (zpt X q j q2) q j = some q2 := if_pos ⟨rfl, rfl⟩
    rw [if_pos rfl, hf, this]; rfl
  · rw [if_neg e]
    have : zP (zpt X q k q2) q j = zP X q j := if_neg fun c => e c.2
    rw [this]; rfl
/-- a reference into a final field of an object that is being made -/
theorem zW_putR {q q2 : zPl} {idx ci N k : Nat} {t : FieldType} (hin2 : M.2.2.2.1 = none ∧ M.2.2.2.2.cells ≠ 0) (hf : zFk M.2.1 idx ci N k true t) (hown : ∀ C Tb N', vwCl[ci]? = some (C, Tb, N') → (Tb k).1 = M.2.1) (hq : zDom X q) (hk : zkd q.1 = (ci, N)) (hz : zfr ci k = true) (hn : ∀ a, narrow t (.ref a) = .ref a ∧ fits t (.ref a) = true) (hd : decode M.1 pc = .ok (.putfield idx, 3)) (kk : zW (zpt X q k q2) T M (pc + 3) lv st I) : zW X T M pc lv (.ref (zad X q2) :: .ref (zad X q) :: st) I := fun p l e s m args below meth c G H locs ls hl hR hS => by
  obtain ⟨C, Tb, ty, hc, hkN, h13, hin, hlk, hty, hnm, hfl, htk⟩ := hf
  obtain ⟨cell, q1, q2', q3, q4⟩ := (zat_o hk h13).mp (hR.1 q hq)
  obtain ⟨hx, hb, -, hown', hts, -, -, ⟨hK, -⟩, -⟩ := id G
  have hap := va_apart (own := M.2.1) hts hin ty hty hnm hK hc
  obtain ⟨hSl, hfc, kC, hkC, hkind⟩ := hK.1 ci _ hc
  obtain ⟨cf, kf, fi, f, hi, hsl⟩ := hSl k hkN
  have hlay := hts _ (hin _ (u_in_lay hkN))
  unfold u_lay at hlay
  rw [if_pos hfl] at hlay
  have hst := (u_facts hfc hkC (u_lays hts hin hkN) hi).1
  have hcf : m.cls = cf := by
    obtain ⟨_, _, c', _, _, _, -, -, hf', -, -, -, hown2, -⟩ := Cond.laysFinal_spec hlay
    have e1 : c' = cf := by have := hi.symm.trans hf'; simp at this; exact this.1.symm
    rw [hown _ _ _ hc] at hown2
    rw [← e1]; exact Option.some.inj (hown'.symm.trans hown2)
  have h6 := u_fits hfc hkC hkind (Or.inr hlay) hi ((hty k hkN).trans (by rw [htk])) (hn (zad X q2)).1 (hn (zad X q2)).2
  refine W.putFinK hx hb hown' (hts _ hlk) hi hst hcf (G.2.2.2.2.2.2.2.2.2.2.2.2 hin2.1 hin2.2) (by rw [q2']; exact h6) q1 q3 (by rw [hsl]; exact k2_hasslot (q4 k hkN)) rfl rfl hd fun H' e1 e2 e3 => ?_
  rw [hsl] at e1 ⊢
  exact kk p l e s m args below meth c G H' _ ls hl (zRel_pt hR hq ((zat_o hk h13).mpr (t_OB.to (V := updV (zfv X I q ci) k (.ref (zad X q2))) ⟨_, e1, q2', q3, t_set q4 hap hkN _⟩ (fun j _ => zfv_pt hz j))) e3 e2) (hS.put e2 e3 (G.2.2.2.2.2.2.2.2.2.1 q hq))
theorem zW_aast {qa qv : zPl} {kd n ci N : Nat} {z : Int} {C : String} {Tb : u_T} (i : Nat) (hi : (ztys X)[i]? = some (zcy X kd, .object C)) (hc : vwCl[ci]? = some (C, Tb, N)) (hqa : zDom X qa) (hka : zkd qa.1 = (kd, n)) (h17 : decide (17 ≤ kd ∧ ci < 13) = true) (hqv : zDom X qv) (hkv : zkd qv.1 = (ci, N)) (hb : zin z n) (hd : decode M.1 pc = .ok (.aastore, 1)) (kk : zW (zpt X qa (ix z) qv) T M (pc + 1) lv st I) : zW X T M pc lv (.ref (zad X qv) :: vi z :: .ref (zad X qa) :: st) I := fun p l e s m args below meth c G H locs ls hl hR hS => by
  obtain ⟨h17, h13⟩ := of_decide_eq_true h17
  obtain ⟨cellV, g1, g2, g3, -⟩ := (zat_o hkv h13).mp (hR.1 qv hqv)
  have hK := G.2.2.2.2.2.2.2.1.1
  have hcls := (hK.1 ci _ hc).2
  obtain ⟨kA, comp, k1, k2, k3, -⟩ := (hK.2 i _ hi).2
  have hcomp : comp = X.1.1 ci := Option.some.inj (k3.symm.trans hcls.1)
  subst hcomp
  obtain ⟨kC, hkC, -⟩ := hcls.2
  have hc0 := (zat_a hka (by omega)).mp (hR.1 qa hqa)
  have hin := zin_vp hb
  have hlt : (Int32.ofInt z).toNatClampNeg < n := Nat.not_le.mp fun q => hin (Or.inr q)
  have h0 : ¬ Int32.ofInt z < 0 := fun q => hin (Or.inl q)
  refine W.aast G.1 G.2.1 hc0 (fun q h => by cases h) (fun h => by cases h) k1 k2 rfl hkC ⟨h0, by rw [arrV_size]; exact hlt⟩ g1 (fun q h => by rw [g3] at h; cases h) (by rw [g2]; exact hkC) (by rw [g2]; exact va_assign hcls) rfl rfl hd fun H1 e1 e2 e3 => ?_
  rw [ix_cl, arrV_store] at e1
  refine kk p l e s m args below meth c G H1 _ ls hl (zRel_pt hR hqa ((zat_a hka (by omega)).mpr (e1.trans ?_)) e3 e2) (hS.put e2 e3 (G.2.2.2.2.2.2.2.2.2.1 qa hqa))
  apply congrArg some
  apply arrV_ext
  intro j hj
  unfold updV
  by_cases ej : j = ix z
  · rw [if_pos ej, zav_r (by omega) (by omega) (if_pos ⟨rfl, ej⟩)]; rfl
  · rw [if_neg ej]
    unfold zav
    have : zP (zpt X qa (ix z) qv) qa j = zP X qa j := if_neg fun c => ej c.2
    rw [this]; rfl
/-- Object's constructor -/
def zMo (own : String) (idx : Nat) : Prop := Cond.methodLink own idx Lib.objectInit ∈ lw_ok ∧ Cond.instanceMethod Lib.objectInit ∈ lw_ok ∧ Cond.code Lib.objectInit ⟨#[0xb1]⟩ 1 none ∈ lw_ok
theorem zW_obj {a idx : Nat} (hm : zMo M.2.1 idx) (hr : decide (1 ≤ M.2.2.2.2.frames ∧ (st.map fun v => v.category).sum + 12 ≤ M.2.2.2.2.locals) = true) (hd : decode M.1 pc = .ok (.invokespecial idx, 3)) (kk : zW X T M (pc + 3) lv st I) : zW X T M pc lv (.ref a :: st) I := fun p l e s m args below meth c G H locs ls hl hR hS => by
  have hts := G.2.2.2.2.1
  have hr := of_decide_eq_true hr
  exact W.objInit G.1 G.2.1 G.2.2.2.1 (hts _ hm.1) (hts _ hm.2.1) (hts _ hm.2.2) rfl (by rw [G.2.2.1]; exact hl.1) rfl hd hr.1 (by show 2 * 0 + _ + _ ≤ _; have := hr.2; omega) (kk p l e s m args below meth c G H locs ls hl hR hS)
end
