def zmax (a b : Int) : Int := if w32 a < w32 b then b else a
def zmin (a b : Int) : Int := if w32 b < w32 a then b else a
abbrev zcpok (sp dp n : Int) (na nb : Nat) : Prop := 0 ≤ w32 sp ∧ 0 ≤ w32 dp ∧ 0 ≤ w32 n ∧ w32 sp + w32 n ≤ (na : Int) ∧ w32 dp + w32 n ≤ (nb : Int)
section
variable {X : zX} {T : zT} {M : zM} {pc : Nat} {lv : List (Nat × Value)} {st : List Value} {I : zMem}
theorem zW_getc {idx : Nat} (hM : M.2.1 = RX6) (hi : idx = 25) (hd : decode M.1 pc = .ok (.getstatic idx, 3)) (k : zW X T M (pc + 3) lv (.ref (ztc X) :: st) I) : zW X T M pc lv st I := fun p l e s m args below meth c G H locs ls hl hR hS => by
  have hown := G.2.2.2.1
  rw [hM] at hown
  subst hi
  exact va_getsN (C := RX11) (ref := RX11) (host := RX11) G.1 G.2.1 G.2.2.2.2.2.2.2.2.1.1 hS hown (va_Nw.use rfl G.2.2.2.2.2.2.2.1.2.1) (fun _ h => h) hd (k p l e s m args below meth c G H locs ls hl hR hS)
theorem zW_getv {idx : Nat} (hM : M.2.1 = RX0) (hi : idx = 71) (hd : decode M.1 pc = .ok (.getstatic idx, 3)) (k : zW X T M (pc + 3) lv (.ref (ztv X) :: st) I) : zW X T M pc lv st I := fun p l e s m args below meth c G H locs ls hl hR hS => by
  have hown := G.2.2.2.1
  rw [hM] at hown
  subst hi
  exact va_getsN (C := RX11) (ref := RX11) (host := RX11) G.1 G.2.1 G.2.2.2.2.2.2.2.2.1.2.2.1 hS hown (va_Nw.use rfl G.2.2.2.2.2.2.2.1.2.2.1) (fun _ h => h) hd (k p l e s m args below meth c G H locs ls hl hR hS)
theorem zW_getv0 {idx : Nat} (hw : Cond.fieldLink M.2.1 idx RX11 "VERSION_ORDER" "[I" ∈ lw_ok) (hd : decode M.1 pc = .ok (.getstatic idx, 3)) (k : zW X T M (pc + 3) lv (.ref (ztv X) :: st) I) : zW X T M pc lv st I := fun p l e s m args below meth c G H locs ls hl hR hS => va_gets (C := RX11) (ref := RX11) G.1 G.2.1 G.2.2.2.2.2.2.2.2.1.2.2.1 hS G.2.2.2.1 (G.2.2.2.2.1 _ hw) (fun _ h => h) hd (k p l e s m args below meth c G H locs ls hl hR hS)
theorem zW_cald {z : Int} (hb : zin z 4) (hd : decode M.1 pc = .ok (.iaload, 1)) (k : zW X T M (pc + 1) lv (vi (zcol (ix z)) :: st) I) : zW X T M pc lv (vi z :: .ref (ztc X) :: st) I := fun p l e s m args below meth c G H locs ls hl hR hS => va_ti G.1 G.2.1 G.2.2.2.2.2.2.2.2.1.2.1 hS (zin_vp hb) rfl hd (k p l e s m args below meth c G H locs ls hl hR hS)
theorem zW_vald {z : Int} (hb : zin z 4) (hd : decode M.1 pc = .ok (.iaload, 1)) (k : zW X T M (pc + 1) lv (vi (zver (ix z)) :: st) I) : zW X T M pc lv (vi z :: .ref (ztv X) :: st) I := fun p l e s m args below meth c G H locs ls hl hR hS => va_ti G.1 G.2.1 G.2.2.2.2.2.2.2.2.1.2.2.2 hS (zin_vp hb) rfl hd (k p l e s m args below meth c G H locs ls hl hR hS)
def zMm (own : String) (idx : Nat) (y : MethodName) (b : ByteArray) : Prop := Cond.methodLink own idx y ∈ lw_ok ∧ Cond.static y ∈ lw_ok ∧ Cond.initialized "java/lang/Math" ∈ lw_ok ∧ Cond.code y b 2 (some .int) ∈ lw_ok
theorem zW_max {a b : Int} {idx : Nat} (hm : zMm M.2.1 idx Lib.Math.max.name Lib.Math.max.code) (hr : decide (1 ≤ M.2.2.2.2.frames ∧ (st.map fun v => v.category).sum + 13 ≤ M.2.2.2.2.locals) = true) (hd : decode M.1 pc = .ok (.invokestatic idx, 3)) (k : zW X T M (pc + 3) lv (vi (zmax a b) :: st) I) : zW X T M pc lv (vi b :: vi a :: st) I := fun p l e s m args below meth c G H locs ls hl hR hS => by
  have h := k p l e s m args below meth c G H locs ls hl hR hS
  obtain ⟨m1, m2, m3, m4⟩ := hm
  have hr' := of_decide_eq_true hr
  have hts := G.2.2.2.2.1
  refine va_mmax G.1 G.2.1 (by rw [hl.1]; exact G.2.2.1) G.2.2.2.1 (hts _ m1) (hts _ m2) (hts _ m3) (hts _ m4) hr'.1 hr'.2 G.2.2.2.2.2.2.2.2.2.2.1 G.2.2.2.2.2.2.2.2.2.2.2.1 hd ?_
  have e : (if Int32.ofInt a < Int32.ofInt b then Int32.ofInt b else Int32.ofInt a) = Int32.ofInt (zmax a b) := by
    unfold zmax
    by_cases h : w32 a < w32 b
    · rw [if_pos h, if_pos ((oi_lt a b).mpr h)]
    · rw [if_neg h, if_neg (fun q => h ((oi_lt a b).mp q))]
  rw [e]; exact h
theorem zW_min {a b : Int} {idx : Nat} (hm : zMm M.2.1 idx Lib.Math.min.name Lib.Math.min.code) (hr : decide (1 ≤ M.2.2.2.2.frames ∧ (st.map fun v => v.category).sum + 13 ≤ M.2.2.2.2.locals) = true) (hd : decode M.1 pc = .ok (.invokestatic idx, 3)) (k : zW X T M (pc + 3) lv (vi (zmin a b) :: st) I) : zW X T M pc lv (vi b :: vi a :: st) I := fun p l e s m args below meth c G H locs ls hl hR hS => by
  have h := k p l e s m args below meth c G H locs ls hl hR hS
  obtain ⟨m1, m2, m3, m4⟩ := hm
  have hr' := of_decide_eq_true hr
  have hts := G.2.2.2.2.1
  refine va_mmin G.1 G.2.1 (by rw [hl.1]; exact G.2.2.1) G.2.2.2.1 (hts _ m1) (hts _ m2) (hts _ m3) (hts _ m4) hr'.1 hr'.2 G.2.2.2.2.2.2.2.2.2.2.1 G.2.2.2.2.2.2.2.2.2.2.2.1 hd ?_
  have e : (if Int32.ofInt b < Int32.ofInt a then Int32.ofInt b else Int32.ofInt a) = Int32.ofInt (zmin a b) := by
    unfold zmin
    by_cases h : w32 b < w32 a
    · rw [if_pos h, if_pos ((oi_lt b a).mpr h)]
    · rw [if_neg h, if_neg (fun q => h ((oi_lt b a).mp q))]
  rw [e]; exact h
theorem zRel_cp {q b : zPl} {sp dp n : Nat} {H H1 : Heap} (hR : zRel X I H) (hq : zDom X b) (hn : zat X (zcp I q sp b dp n) b H1) (ho : ∀ a, a ≠ zad X b → H1[a]? = H[a]?) (hz : H1.size = H.size) : zRel X (zcp I q sp b dp n) H1 := by
  refine ⟨fun q' hq' => ?_, hR.2.1, hz.trans hR.2.2⟩
  by_cases e : q' = b
  · subst e; exact hn
  · exact zat_kept (hR.1 q' hq') (ho _ fun c => e (hR.2.1 q' b hq' hq c)) (fun k => if_neg fun c => e c.1)
def zMa (own : String) (idx : Nat) : Prop := Cond.methodLink own idx arraycopyName ∈ lw_ok ∧ Cond.native arraycopyName ∈ lw_ok ∧ Cond.static arraycopyName ∈ lw_ok ∧ Cond.initialized "java/lang/System" ∈ lw_ok
theorem zW_copy {a b : zPl} {sp dp n : Int} {na nb idx : Nat} (hm : zMa M.2.1 idx) (ha : zDom X a) (hka : zkd a.1 = (14, na)) (hb : zDom X b) (hkb : zkd b.1 = (14, nb)) (hok : zcpok sp dp n na nb) (hr : decide (1 ≤ M.2.2.2.2.frames ∧ (st.map fun v => v.category).sum + (nativeFrameWords "java/lang/System" "arraycopy" 5 + 11) ≤ M.2.2.2.2.locals) = true) (hd : decode M.1 pc = .ok (.invokestatic idx, 3)) (k : zW X T M (pc + 3) lv st (zcp I a (ix sp) b (ix dp) (ix n))) : zW X T M pc lv (vi n :: vi dp :: .ref (zad X b) :: vi sp :: .ref (zad X a) :: st) I := fun p l e s m args below meth c G H locs ls hl hR hS => by
  obtain ⟨m1, m2, m3, m4⟩ := hm
  have hr' := of_decide_eq_true hr
  have hts := G.2.2.2.2.1
  obtain ⟨o1, o2, o3, o4, o5⟩ := hok
  intro U hU Xs
  have hc0 := (zat_a hka (by decide)).mp (hR.1 a ha)
  have hc1 := (zat_a hkb (by decide)).mp (hR.1 b hb)
  have e0 : zav X I a 14 = fun j => .int (Int32.ofInt (I a j)) := funext fun j => zav_i (by decide) (by decide)
  have e1 : zav X I b 14 = fun j => .int (Int32.ofInt (I b j)) := funext fun j => zav_i (by decide) (by decide)
  rw [e0] at hc0
  rw [e1] at hc1
  obtain ⟨-, k0, hk0, cm0, hkk0⟩ := zarr G.2.2.2.2.2.2.2.1 1 rfl na (fun j => .int (Int32.ofInt (I a j)))
  obtain ⟨-, k1, hk1, cm1, hkk1⟩ := zarr G.2.2.2.2.2.2.2.1 1 rfl nb (fun j => .int (Int32.ofInt (I b j)))
  have x1 : ix sp + ix n ≤ na := by show (w32 sp).toNat + (w32 n).toNat ≤ na; omega
  have x2 : ix dp + ix n ≤ nb := by show (w32 dp).toNat + (w32 n).toNat ≤ nb; omega
  obtain ⟨vm', X', step⟩ := Xs.arraycopy G.1 G.2.2.2.1 (hts _ m1) (hts _ m2) (hts _ m3) (hts _ m4) (src := zad X a) (dst := zad X b) (srcPos := Int32.ofInt sp) (destPos := Int32.ofInt dp) (n := Int32.ofInt n) (by rw [hU]; exact hc0) (by rw [hU]; exact hc1)
    (fun _ h => by cases h) (fun _ h => by cases h) (fun h => by cases h) (fun h => by cases h) hk0 hk1 hkk0 hkk1 (by simp [refKind])
    (fun h => by have h2 : w32 sp < 0 := (oi_lt sp 0).mp h
                 omega) (fun h => by have h2 : w32 dp < 0 := (oi_lt dp 0).mp h
                                     omega) (fun h => by have h2 : w32 n < 0 := (oi_lt n 0).mp h
                                                         omega)
    (by rw [arrV_size]; show ¬ w32 sp + w32 n > (na : Int); omega)
    (by rw [arrV_size]; show ¬ w32 dp + w32 n > (nb : Int); omega)
    (fun vm₁ _ i hi => by
      have hi' : i < ix n := hi
      have e : (arrV (zcy X 14) na (fun j => Value.int (Int32.ofInt (I a j)))).slots.getD ((Int32.ofInt sp).toNatClampNeg + i) .null = .int (Int32.ofInt (I a (ix sp + i))) := by
        rw [Array.getD_eq_getD_getElem?, ix_cl, arrV_read _ _ (by omega)]
        rfl
      refine ⟨?_, ?_⟩
      · rw [e]; rfl
      · rw [e]; exact trivial)
    (g := F0 m pc ls (vi n :: vi dp :: .ref (zad X b) :: vi sp :: .ref (zad X a) :: st)) rfl (by rw [hl.1]; exact G.2.2.1.symm) (rest := st) rfl (by rw [G.2.1]; exact hd) hr'.1 (by show 2 * 0 + _ + _ ≤ _; have := hr'.2; omega)
  have e2 : copied (arrV (zcy X 14) na (fun j => Value.int (Int32.ofInt (I a j)))) (arrV (zcy X 14) nb (fun j => Value.int (Int32.ofInt (I b j)))) (Int32.ofInt sp) (Int32.ofInt dp) (Int32.ofInt n) = arrV (zcy X 14) nb (zav X (zcp I a (ix sp) b (ix dp) (ix n)) b 14) := by
    refine (va_copied (fun z => Value.int z) (zcy X 14) (zcy X 14) (fun j => Int32.ofInt (I a j)) (fun j => Int32.ofInt (I b j)) (sp := ix sp) (dp := ix dp) (n := ix n) x1).trans ?_
    congr 1
    funext j
    rw [zav_i (by decide) (by decide)]
    unfold va_cpy zcp
    by_cases h : ix dp ≤ j ∧ j < ix dp + ix n
    · rw [if_pos h, if_pos ⟨rfl, h⟩]
    · rw [if_neg h, if_neg (fun q => h q.2)]
  rw [e2] at X' step
  have hlt : zad X b < H.size := (Array.getElem?_eq_some_iff.mp hc1).1
  have hheap : ((U.setVm vm').setCell (zad X b) (arrV (zcy X 14) nb (zav X (zcp I a (ix sp) b (ix dp) (ix n)) b 14))).heap = H.setIfInBounds (zad X b) (arrV (zcy X 14) nb (zav X (zcp I a (ix sp) b (ix dp) (ix n)) b 14)) := by rw [← hU]; rfl
  have oq : ∀ q : Nat, q ≠ zad X b → (H.setIfInBounds (zad X b) (arrV (zcy X 14) nb (zav X (zcp I a (ix sp) b (ix dp) (ix n)) b 14)))[q]? = H[q]? := fun q hq => by simp [Array.getElem?_setIfInBounds, Ne.symm hq]
  obtain ⟨t, a1, b1⟩ := k p l e s m args below meth c G _ _ ls hl (zRel_cp hR hb ((zat_a hkb (by decide)).mpr (by simp [Array.getElem?_setIfInBounds, hlt])) oq (by simp)) ⟨by simp; exact hS.1, fun q g1 g2 => by
      rw [oq q (fun e => g2 (by rw [e]; exact G.2.2.2.2.2.2.2.2.2.1 b hb))]
      exact hS.2.1 q g1 g2, fun q hq => by
      rcases List.mem_append.mp hq with h | h
      · exact hS.2.2 q h
      · obtain ⟨z, -, hz⟩ := List.mem_map.mp h
        rw [← hz]
        exact G.2.2.2.2.2.2.2.2.2.1 b hb⟩ _ hheap X'
  exact ⟨t, step t a1, b1⟩
end
