theorem zat_kept {X : zX} {I I1 : zMem} {q : zPl} {H H1 : Heap} (h : zat X I q H) (hH : H1[zad X q]? = H[zad X q]?) (hI : ∀ k, I1 q k = I q k) : zat X I1 q H1 := by
  have e1 : ∀ ci, zfv X I1 q ci = zfv X I q ci := fun ci => funext fun k => by unfold zfv; rw [hI]
  have e2 : ∀ kd, zav X I1 q kd = zav X I q kd := fun kd => funext fun k => by unfold zav; rw [hI]
  unfold zat at h ⊢
  rw [e1, e2]
  split at h
  · rw [if_pos (by assumption)]; exact h.kept hH
  · rw [if_neg (by assumption), hH]; exact h
theorem zst_ne {I : zMem} {q q' : zPl} {k : Nat} {z : Int} (h : q' ≠ q) : ∀ j, zst I q k z q' j = I q' j := fun j => if_neg fun c => h c.1
theorem zat_o {X : zX} {I : zMem} {q : zPl} {H : Heap} {ci N : Nat} (hk : zkd q.1 = (ci, N)) (hc : ci < 13) : zat X I q H ↔ t_OB (zad X q) (X.1.1 ci) N (X.1.2 ci) H (zfv X I q ci) := by
  unfold zat
  rw [hk, if_pos hc]
theorem zat_a {X : zX} {I : zMem} {q : zPl} {H : Heap} {kd N : Nat} (hk : zkd q.1 = (kd, N)) (hc : ¬ kd < 13) : zat X I q H ↔ H[zad X q]? = some (arrV (zcy X kd) N (zav X I q kd)) := by
  unfold zat
  rw [hk, if_neg hc]
theorem zRel_st {X : zX} {I : zMem} {q : zPl} {k : Nat} {z : Int} {H H1 : Heap} (hR : zRel X I H) (hq : zDom X q) (hn : zat X (zst I q k z) q H1) (ho : ∀ a, a ≠ zad X q → H1[a]? = H[a]?) (hz : H1.size = H.size) : zRel X (zst I q k z) H1 := by
  refine ⟨fun q' hq' => ?_, hR.2.1, hz.trans hR.2.2⟩
  by_cases e : q' = q
  · subst e; exact hn
  · exact zat_kept (hR.1 q' hq') (ho _ fun c => e (hR.2.1 q' q hq' hq c)) (zst_ne e)
theorem zfv_st {X : zX} {I : zMem} {q : zPl} {ci k : Nat} {z : Int} (hf : zfr ci k = false) : ∀ j, updV (zfv X I q ci) k (vi z) j = zfv X (zst I q k z) q ci j := fun j => by
  unfold updV zfv
  by_cases e : j = k
  · subst e; rw [if_pos rfl, hf]; simp [zst]
  · rw [if_neg e]; simp [zst, e]
theorem zav_st {X : zX} {I : zMem} {q : zPl} {kd k : Nat} {z : Int} (h : kd < 17) : updV (zav X I q kd) k (if kd = 15 then vl z else vi z) = zav X (zst I q k z) q kd := funext fun j => by
  unfold updV zav
  by_cases e : j = k
  · subst e; rw [if_pos rfl]; simp [zst, h]
  · rw [if_neg e]; simp [zst, e]
/-- a field by the pool: its class, number, whether final, type -/
def zFk (own : String) (idx ci N k : Nat) (fl : Bool) (t : FieldType) : Prop := ∃ (C : String) (T : u_T) (ty : Nat → FieldType), vwCl[ci]? = some (C, T, N) ∧ k < N ∧ ci < 13 ∧ (∀ w ∈ u_ws C T N, w ∈ lw_ok) ∧ Cond.fieldLink own idx (T k).1 (T k).2.1 (T k).2.2.1 ∈ lw_ok ∧ (∀ k, k < N → parseFieldDescriptor (T k).2.2.1 = some (ty k)) ∧ (∀ a, a < N → ∀ b, b < N → a ≠ b → (T a).2.1 ≠ (T b).2.1) ∧ (T k).2.2.2 = fl ∧ ty k = t
theorem zS_put {A : Nat → Prop} {H0 H H1 : Heap} {locs : List Loc} {a k : Nat} (h : va_S A H0 H locs) (z : H1.size = H.size) (oq : ∀ q : Nat, q ≠ a → H1[q]? = H[q]?) (ha : A a) : va_S A H0 H1 (locs ++ [⟨a, k⟩]) := h.put z oq ha
section
variable {X : zX} {T : zT} {M : zM} {pc : Nat} {lv : List (Nat × Value)} {st : List Value} {I : zMem}
theorem zget {p : Program} {l : Launch} {e : Env} {s : State} {m : MethodId} {args : Array Value} {below : List Frame} {meth : Method} {c : Code} {H : Heap} {locs : List Loc} {ls : Array Slot} {q : zPl} {idx ci N k : Nat} {fl : Bool} {t : FieldType} {R : Room} {Q : State → Prop} {cs ss : Nat} (hf : zFk M.2.1 idx ci N k fl t) (hq : zDom X q) (hk : zkd q.1 = (ci, N)) (hd : decode M.1 pc = .ok (.getfield idx, 3)) (G : zGd X M p s m args meth c) (hR : zRel X I H) (kk : W p l e R s m args below meth c H locs cs ss Q (F0 m (pc + 3) ls (zfv X I q ci k :: st))) : W p l e R s m args below meth c H locs cs ss Q (F0 m pc ls (.ref (zad X q) :: st)) := by
  obtain ⟨C, Tb, ty, hc, hkN, h13, hin, hlk, -, -, -, -⟩ := hf
  obtain ⟨cell, q1, q2, q3, q4⟩ := (zat_o hk h13).mp (hR.1 q hq)
  obtain ⟨hx, hb, -, hown, hts, -, -, ⟨hK, -⟩, -⟩ := G
  obtain ⟨hS, hfc, kC, hkC, hkind⟩ := hK.1 ci _ hc
  obtain ⟨cf, kf, fi, f, hi, hsl⟩ := hS k hkN
  refine W.getf hx hb hown (hts _ hlk) hi (u_facts hfc hkC (u_lays hts hin hkN) hi).1 q1 (by rw [q3]; exact fun h => by cases h) (v := zfv X I q ci k) ?_ rfl rfl hd kk
  rw [hsl, q4 k hkN]
theorem zW_getI {q : zPl} {idx ci N k : Nat} {fl : Bool} {t : FieldType} (hf : zFk M.2.1 idx ci N k fl t) (hq : zDom X q) (hk : zkd q.1 = (ci, N)) (hz : zfr ci k = false) (hd : decode M.1 pc = .ok (.getfield idx, 3)) (kk : zW X T M (pc + 3) lv (vi (I q k) :: st) I) : zW X T M pc lv (.ref (zad X q) :: st) I := fun p l e s m args below meth c G H locs ls hl hR hS => by
  have h := kk p l e s m args below meth c G H locs ls hl hR hS
  refine zget hf hq hk hd G hR ?_
  have e : zfv X I q ci k = vi (I q k) := by unfold zfv; rw [hz]
  rw [e]; exact h
theorem zW_getR {q q' : zPl} {idx ci N k : Nat} {fl : Bool} {t : FieldType} (hf : zFk M.2.1 idx ci N k fl t) (hq : zDom X q) (hk : zkd q.1 = (ci, N)) (hz : zfr ci k = true) (hp : zP X q k = some q') (hd : decode M.1 pc = .ok (.getfield idx, 3)) (kk : zW X T M (pc + 3) lv (.ref (zad X q') :: st) I) : zW X T M pc lv (.ref (zad X q) :: st) I := fun p l e s m args below meth c G H locs ls hl hR hS => by
  have h := kk p l e s m args below meth c G H locs ls hl hR hS
  refine zget hf hq hk hd G hR ?_
  have e : zfv X I q ci k = .ref (zad X q') := by unfold zfv; rw [hz, hp]; rfl
  rw [e]; exact h
theorem zW_put {q : zPl} {idx ci N k : Nat} {t : FieldType} {z : Int} (hf : zFk M.2.1 idx ci N k false t) (hq : zDom X q) (hk : zkd q.1 = (ci, N)) (hz : zfr ci k = false) (hn : narrow t (vi z) = vi z ∧ fits t (vi z) = true) (hd : decode M.1 pc = .ok (.putfield idx, 3)) (kk : zW X T M (pc + 3) lv st (zst I q k z)) : zW X T M pc lv (vi z :: .ref (zad X q) :: st) I := fun p l e s m args below meth c G H locs ls hl hR hS => by
  obtain ⟨C, Tb, ty, hc, hkN, h13, hin, hlk, hty, hnm, hfl, htk⟩ := hf
  obtain ⟨cell, q1, q2, q3, q4⟩ := (zat_o hk h13).mp (hR.1 q hq)
  obtain ⟨hx, hb, -, hown, hts, -, -, ⟨hK, -⟩, -⟩ := id G
  have hap := va_apart (own := M.2.1) hts hin ty hty hnm hK hc
  obtain ⟨hSl, hfc, kC, hkC, hkind⟩ := hK.1 ci _ hc
  obtain ⟨cf, kf, fi, f, hi, hsl⟩ := hSl k hkN
  have hlay := hts _ (hin _ (u_in_lay hkN))
  unfold u_lay at hlay
  rw [if_neg (by rw [hfl]; decide)] at hlay
  have hst := (u_facts hfc hkC (u_lays hts hin hkN) hi).1
  have h6 := u_store hfc hkC hkind hlay hi ((hty k hkN).trans (by rw [htk])) hn.1 hn.2
  refine W.putK hx hb (f := f) ⟨hown, hts _ hlk, ⟨_, _, _, hi⟩, hst⟩ (by rw [q2]; exact h6) q1 q3 (by rw [hsl]; exact k2_hasslot (q4 k hkN)) rfl rfl hd fun H' e1 e2 e3 => ?_
  rw [hsl] at e1 ⊢
  refine kk p l e s m args below meth c G H' _ ls hl (zRel_st hR hq ((zat_o hk h13).mpr (t_OB.to (V := updV (zfv X I q ci) k (vi z)) ⟨_, e1, q2, q3, t_set q4 hap hkN _⟩ (fun j _ => zfv_st hz j))) e3 e2) (hS.put e2 e3 (G.2.2.2.2.2.2.2.2.2.1 q hq))
theorem zn_int (z : Int) : narrow .int (vi z) = vi z ∧ fits .int (vi z) = true := ⟨rfl, rfl⟩
theorem zn_bool {z : Int} (h : zbo z) : narrow .boolean (vi z) = vi z ∧ fits .boolean (vi z) = true := by
  rcases h with h | h <;> subst h <;> exact ⟨rfl, rfl⟩
theorem zarr {X : zX} {U : State} (h : zKn X U) {kd : Nat} {ty : FieldType} (i : Nat) (hi : (ztys X)[i]? = some (zcy X kd, ty)) (n : Nat) (f : Nat → Value) : U.isArrayOf (arrV (zcy X kd) n f) ty := (h.1.2 i _ hi).1 n f
theorem zav_i {X : zX} {I : zMem} {q : zPl} {kd j : Nat} (h1 : ¬ kd = 15) (h2 : kd < 17) : zav X I q kd j = vi (I q j) := by unfold zav; rw [if_neg h1, if_pos h2]
theorem zav_l {X : zX} {I : zMem} {q : zPl} {j : Nat} : zav X I q 15 j = vl (I q j) := by unfold zav; rw [if_pos rfl]
theorem zW_iald {q : zPl} {n : Nat} {z : Int} (hq : zDom X q) (hk : zkd q.1 = (14, n)) (hb : zin z n) (hd : decode M.1 pc = .ok (.iaload, 1)) (kk : zW X T M (pc + 1) lv (vi (I q (ix z)) :: st) I) : zW X T M pc lv (vi z :: .ref (zad X q) :: st) I := fun p l e s m args below meth c G H locs ls hl hR hS => by
  have h := kk p l e s m args below meth c G H locs ls hl hR hS
  have hc := (zat_a hk (by decide)).mp (hR.1 q hq)
  refine W.iald (v := vi (I q (ix z))) G.1 G.2.1 hc (zarr G.2.2.2.2.2.2.2.1 1 rfl _ _) (fun c => by cases c) (by rw [arrV_size]; exact zin_vp hb) ?_ rfl rfl hd h
  rw [arrV_read _ _ (by rw [ix_cl]; exact ix_lt hb), ix_cl, zav_i (by decide) (by decide)]
theorem zW_lald {q : zPl} {n : Nat} {z : Int} (hq : zDom X q) (hk : zkd q.1 = (15, n)) (hb : zin z n) (hd : decode M.1 pc = .ok (.laload, 1)) (kk : zW X T M (pc + 1) lv (vl (I q (ix z)) :: st) I) : zW X T M pc lv (vi z :: .ref (zad X q) :: st) I := fun p l e s m args below meth c G H locs ls hl hR hS => by
  have h := kk p l e s m args below meth c G H locs ls hl hR hS
  have hc := (zat_a hk (by decide)).mp (hR.1 q hq)
  refine W.lald (v := vl (I q (ix z))) G.1 G.2.1 hc (zarr G.2.2.2.2.2.2.2.1 2 rfl _ _) (fun c => by cases c) (by rw [arrV_size]; exact zin_vp hb) ?_ rfl rfl hd h
  rw [arrV_read _ _ (by rw [ix_cl]; exact ix_lt hb), ix_cl, zav_l]
theorem zW_bald {q : zPl} {n : Nat} {z : Int} (hq : zDom X q) (hk : zkd q.1 = (13, n)) (hb : zin z n) (hd : decode M.1 pc = .ok (.baload, 1)) (kk : zW X T M (pc + 1) lv (vi (I q (ix z)) :: st) I) : zW X T M pc lv (vi z :: .ref (zad X q) :: st) I := fun p l e s m args below meth c G H locs ls hl hR hS => by
  have h := kk p l e s m args below meth c G H locs ls hl hR hS
  have hc := (zat_a hk (by decide)).mp (hR.1 q hq)
  refine W.bald (v := vi (I q (ix z))) G.1 G.2.1 hc (zarr G.2.2.2.2.2.2.2.1 0 rfl _ _) (fun c => by cases c) (by rw [arrV_size]; exact zin_vp hb) ?_ rfl rfl hd h
  rw [arrV_read _ _ (by rw [ix_cl]; exact ix_lt hb), ix_cl, zav_i (by decide) (by decide)]
theorem zW_zald {q : zPl} {n : Nat} {z : Int} (hq : zDom X q) (hk : zkd q.1 = (16, n)) (hb : zin z n) (hd : decode M.1 pc = .ok (.baload, 1)) (kk : zW X T M (pc + 1) lv (vi (I q (ix z)) :: st) I) : zW X T M pc lv (vi z :: .ref (zad X q) :: st) I := fun p l e s m args below meth c G H locs ls hl hR hS => by
  have h := kk p l e s m args below meth c G H locs ls hl hR hS
  have hc := (zat_a hk (by decide)).mp (hR.1 q hq)
  refine W.zald (v := vi (I q (ix z))) G.1 G.2.1 hc (zarr G.2.2.2.2.2.2.2.1 3 rfl _ _) (fun c => by cases c) (by rw [arrV_size]; exact zin_vp hb) ?_ rfl rfl hd h
  rw [arrV_read _ _ (by rw [ix_cl]; exact ix_lt hb), ix_cl, zav_i (by decide) (by decide)]
theorem zav_r {X : zX} {I : zMem} {q q' : zPl} {kd j : Nat} (h1 : ¬ kd = 15) (h2 : ¬ kd < 17) (hp : zP X q j = some q') : zav X I q kd j = .ref (zad X q') := by unfold zav; rw [if_neg h1, if_neg h2, hp]; rfl
theorem zav_n {X : zX} {I : zMem} {q : zPl} {kd j : Nat} (h1 : ¬ kd = 15) (h2 : ¬ kd < 17) (hp : zP X q j = none) : zav X I q kd j = .null := by unfold zav; rw [if_neg h1, if_neg h2, hp]; rfl
theorem zaald {p : Program} {l : Launch} {e : Env} {s : State} {m : MethodId} {args : Array Value} {below : List Frame} {meth : Method} {c : Code} {H : Heap} {locs : List Loc} {ls : Array Slot} {R : Room} {Q : State → Prop} {cs ss : Nat} {q : zPl} {kd n : Nat} {z : Int} (i : Nat) {ty : FieldType} (hi : (ztys X)[i]? = some (zcy X kd, ty)) (hty : ty.isReference = true) (hq : zDom X q) (hk : zkd q.1 = (kd, n)) (h13 : ¬ kd < 13) (hb : zin z n) (hd : decode M.1 pc = .ok (.aaload, 1)) (G : zGd X M p s m args meth c) (hR : zRel X I H) (kk : W p l e R s m args below meth c H locs cs ss Q (F0 m (pc + 1) ls (zav X I q kd (ix z) :: st))) : W p l e R s m args below meth c H locs cs ss Q (F0 m pc ls (vi z :: .ref (zad X q) :: st)) := by
  have hc := (zat_a hk h13).mp (hR.1 q hq)
  refine W.aald (v := zav X I q kd (ix z)) G.1 G.2.1 hc (zarr G.2.2.2.2.2.2.2.1 i hi _ _) hty (fun c => by cases c) (by rw [arrV_size]; exact zin_vp hb) ?_ rfl rfl hd kk
  rw [arrV_read _ _ (by rw [ix_cl]; exact ix_lt hb), ix_cl]
theorem zW_aald {q q' : zPl} {kd n : Nat} {z : Int} (i : Nat) {ty : FieldType} (hi : (ztys X)[i]? = some (zcy X kd, ty)) (hty : ty.isReference = true) (hq : zDom X q) (hk : zkd q.1 = (kd, n)) (h17 : decide (17 ≤ kd) = true) (hb : zin z n) (hp : zP X q (ix z) = some q') (hd : decode M.1 pc = .ok (.aaload, 1)) (kk : zW X T M (pc + 1) lv (.ref (zad X q') :: st) I) : zW X T M pc lv (vi z :: .ref (zad X q) :: st) I := fun p l e s m args below meth c G H locs ls hl hR hS => by
  have h := kk p l e s m args below meth c G H locs ls hl hR hS
  have h17' := of_decide_eq_true h17
  refine zaald i hi hty hq hk (by omega) hb hd G hR ?_
  rw [zav_r (by omega) (by omega) hp]; exact h
theorem zW_aaldN {q : zPl} {kd n : Nat} {z : Int} (i : Nat) {ty : FieldType} (hi : (ztys X)[i]? = some (zcy X kd, ty)) (hty : ty.isReference = true) (hq : zDom X q) (hk : zkd q.1 = (kd, n)) (h17 : decide (17 ≤ kd) = true) (hb : zin z n) (hp : zP X q (ix z) = none) (hd : decode M.1 pc = .ok (.aaload, 1)) (kk : zW X T M (pc + 1) lv (.null :: st) I) : zW X T M pc lv (vi z :: .ref (zad X q) :: st) I := fun p l e s m args below meth c G H locs ls hl hR hS => by
  have h := kk p l e s m args below meth c G H locs ls hl hR hS
  have h17' := of_decide_eq_true h17
  refine zaald i hi hty hq hk (by omega) hb hd G hR ?_
  rw [zav_n (by omega) (by omega) hp]; exact h
theorem zW_iast {q : zPl} {n : Nat} {z x : Int} (hq : zDom X q) (hk : zkd q.1 = (14, n)) (hb : zin z n) (hd : decode M.1 pc = .ok (.iastore, 1)) (kk : zW X T M (pc + 1) lv st (zst I q (ix z) x)) : zW X T M pc lv (vi x :: vi z :: .ref (zad X q) :: st) I := fun p l e s m args below meth c G H locs ls hl hR hS => by
  have hc := (zat_a hk (by decide)).mp (hR.1 q hq)
  refine W.iast G.1 G.2.1 hc (zarr G.2.2.2.2.2.2.2.1 1 rfl _ _) (fun c => by cases c) (by rw [arrV_size]; exact zin_vp hb) rfl rfl hd fun H' e1 e2 e3 => ?_
  rw [ix_cl, arrV_store] at e1
  exact kk p l e s m args below meth c G H' _ ls hl (zRel_st hR hq ((zat_a hk (by decide)).mpr (e1.trans (by rw [← zav_st (by decide)]; rfl))) e3 e2) (hS.put e2 e3 (G.2.2.2.2.2.2.2.2.2.1 q hq))
theorem zW_last {q : zPl} {n : Nat} {z x : Int} (hq : zDom X q) (hk : zkd q.1 = (15, n)) (hb : zin z n) (hd : decode M.1 pc = .ok (.lastore, 1)) (kk : zW X T M (pc + 1) lv st (zst I q (ix z) x)) : zW X T M pc lv (vl x :: vi z :: .ref (zad X q) :: st) I := fun p l e s m args below meth c G H locs ls hl hR hS => by
  have hc := (zat_a hk (by decide)).mp (hR.1 q hq)
  refine W.last G.1 G.2.1 hc (zarr G.2.2.2.2.2.2.2.1 2 rfl _ _) (fun c => by cases c) (by rw [arrV_size]; exact zin_vp hb) rfl rfl hd fun H' e1 e2 e3 => ?_
  rw [ix_cl, arrV_store] at e1
  exact kk p l e s m args below meth c G H' _ ls hl (zRel_st hR hq ((zat_a hk (by decide)).mpr (e1.trans (by rw [← zav_st (by decide)]; rfl))) e3 e2) (hS.put e2 e3 (G.2.2.2.2.2.2.2.2.2.1 q hq))
theorem zW_bast {q : zPl} {n : Nat} {z x : Int} (hq : zDom X q) (hk : zkd q.1 = (13, n)) (hb : zin z n) (hd : decode M.1 pc = .ok (.bastore, 1)) (kk : zW X T M (pc + 1) lv st (zst I q (ix z) (w8 x))) : zW X T M pc lv (vi x :: vi z :: .ref (zad X q) :: st) I := fun p l e s m args below meth c G H locs ls hl hR hS => by
  have hc := (zat_a hk (by decide)).mp (hR.1 q hq)
  refine W.bast G.1 G.2.1 hc (zarr G.2.2.2.2.2.2.2.1 0 rfl _ _) (fun c => by cases c) (by rw [arrV_size]; exact zin_vp hb) rfl rfl hd fun H' e1 e2 e3 => ?_
  rw [show narrow .byte (vi x) = vi (w8 x) from congrArg Value.int (oi_i2b x), ix_cl, arrV_store] at e1
  exact kk p l e s m args below meth c G H' _ ls hl (zRel_st hR hq ((zat_a hk (by decide)).mpr (e1.trans (by rw [← zav_st (by decide)]; rfl))) e3 e2) (hS.put e2 e3 (G.2.2.2.2.2.2.2.2.2.1 q hq))
theorem zW_zast {q : zPl} {n : Nat} {z x : Int} (hq : zDom X q) (hk : zkd q.1 = (16, n)) (hb : zin z n) (hx : zbo x) (hd : decode M.1 pc = .ok (.bastore, 1)) (kk : zW X T M (pc + 1) lv st (zst I q (ix z) x)) : zW X T M pc lv (vi x :: vi z :: .ref (zad X q) :: st) I := fun p l e s m args below meth c G H locs ls hl hR hS => by
  have hc := (zat_a hk (by decide)).mp (hR.1 q hq)
  refine W.zast G.1 G.2.1 hc (zarr G.2.2.2.2.2.2.2.1 3 rfl _ _) (fun c => by cases c) (by rw [arrV_size]; exact zin_vp hb) rfl rfl hd fun H' e1 e2 e3 => ?_
  rw [(zn_bool hx).1, ix_cl, arrV_store] at e1
  exact kk p l e s m args below meth c G H' _ ls hl (zRel_st hR hq ((zat_a hk (by decide)).mpr (e1.trans (by rw [← zav_st (by decide)]; rfl))) e3 e2) (hS.put e2 e3 (G.2.2.2.2.2.2.2.2.2.1 q hq))
theorem zW_alen {q : zPl} {kd n : Nat} (i : Nat) {ty : FieldType} (hi : (ztys X)[i]? = some (zcy X kd, ty)) (hq : zDom X q) (hk : zkd q.1 = (kd, n)) (h13 : decide (13 ≤ kd) = true) (hd : decode M.1 pc = .ok (.arraylength, 1)) (kk : zW X T M (pc + 1) lv (vi (n : Int) :: st) I) : zW X T M pc lv (.ref (zad X q) :: st) I := fun p l e s m args below meth c G H locs ls hl hR hS => by
  have h := kk p l e s m args below meth c G H locs ls hl hR hS
  have hc := (zat_a hk (by have := of_decide_eq_true h13; omega)).mp (hR.1 q hq)
  exact W.alen G.1 G.2.1 hc (zarr G.2.2.2.2.2.2.2.1 i hi _ _) (by rw [arrV_size]; rfl) rfl rfl hd h
end
