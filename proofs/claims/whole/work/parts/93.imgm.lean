/-! images: restore and image -/
abbrev mX11_image : zM := (cX11_image, RX11, 2, some .int, { frames := 4, cells := 43, slots := 1059, locals := 123 })
abbrev mX11_restore : zM := (cX11_restore, RX11, 2, some .int, zR 4 123)
theorem mvj_RX11_424 : zMv RX11 424 yX4_copyFrom mX4_copyFrom 1 4 := ⟨⟨(List.mem_filter.mpr ⟨List.mem_of_getElem? (i := 1049) (by decide +kernel), rfl⟩), (List.mem_filter.mpr ⟨List.mem_of_getElem? (i := 66) (by decide +kernel), rfl⟩), (List.mem_filter.mpr ⟨List.mem_of_getElem? (i := 840) (by decide +kernel), rfl⟩), by decide +kernel, rfl, rfl⟩, (List.mem_filter.mpr ⟨List.mem_of_getElem? (i := 838) (by decide +kernel), rfl⟩), RX4, TX4, 9, rfl, (List.mem_filter.mpr ⟨List.mem_of_getElem? (i := 839) (by decide +kernel), rfl⟩), by decide⟩
section
variable {X : zX} {T : zT} {M : zM} {pc : Nat} {lv : List (Nat × Value)} {st : List Value} {I : zMem} {e : Nat → Prop}
theorem zW_ifnn {x : Nat} {off : Int} (tgt : Nat) (hd : decode M.1 pc = .ok (.ifnonnull off, 3)) (ht : (pc : Int) + off = (tgt : Int)) (k : zW X T M tgt lv st I) : zW X T M pc lv (.ref x :: st) I := fun p l e s m args below meth c G H locs ls hl hR hS => lv_ifnonnull G.1 G.2.1 hd ht (k p l e s m args below meth c G H locs ls hl hR hS)
theorem zW_ifnnN {off : Int} (hd : decode M.1 pc = .ok (.ifnonnull off, 3)) (k : zW X T M (pc + 3) lv st I) : zW X T M pc lv (.null :: st) I := fun p l e s m args below meth c G H locs ls hl hR hS => lv_ifnonnullN G.1 G.2.1 hd (k p l e s m args below meth c G H locs ls hl hR hS)
theorem w32_k {k : Nat} (hk : k < 2) : w32 (k : Int) = k := w32_id (by omega) (by omega)
theorem ix_k {k : Nat} (hk : k < 2) : ix (k : Int) = k := by show (w32 (k : Int)).toNat = k; rw [w32_k hk]; rfl
theorem zin_k {k : Nat} (hk : k < 2) : zin (k : Int) 2 := by unfold zin; rw [w32_k hk]; omega
theorem kX11_restoreN (hw : zWf X e) {v : Int} (hv : ¬ (0 ≤ w32 v ∧ w32 v ≤ 1)) : zCn X mX11_restore yX11_restore [.ref (zad X (0, 0, 0)), vi v] I (some (vi (-2)), I) := by
  refine zCn_of (by decide +kernel) rfl rfl ⟨rfl, rfl⟩ ?_
  have hq := hw.N.2.2
  refine zW_iload_n 1 dX11_restore_0 rfl ?_
  refine zW_if_lt 9 dX11_restore_1 rfl (fun c => ?_) (fun c => ?_)
  · refine zW_bipush dX11_restore_9 rfl ?_
    exact zW_iret hq rfl dX11_restore_11
  · refine zW_iload_n 1 dX11_restore_4 rfl ?_
    refine zW_iconst dX11_restore_5 ?_
    have h2 : w32 2 = 2 := rfl
    refine zW_icmp_lt 12 dX11_restore_6 rfl (fun c2 => absurd ⟨by omega, by omega⟩ hv) (fun _ => ?_)
    refine zW_bipush dX11_restore_9 rfl ?_
    exact zW_iret hq rfl dX11_restore_11
theorem kX11_restore0 (hw : zWf X e) (o : zOk e (0, 0, 0)) {k : Nat} (hk : k < 2) (hp : zP X (12, 0, 0) k = none) : zCn X mX11_restore yX11_restore [.ref (zad X (0, 0, 0)), vi (k : Int)] I (some (vi (-5)), I) := by
  refine zCn_of (by decide +kernel) rfl rfl ⟨rfl, rfl⟩ ?_
  have hq := hw.N.2.2
  have hd0 := hw.N.1 _ o
  have hd12 := hw.N.1 _ (zokA (r' := 12) o rfl rfl)
  have hw2 : w32 2 = 2 := rfl
  have hk32 := w32_k hk
  refine zW_iload_n 1 dX11_restore_0 rfl ?_
  refine zW_if_lt 9 dX11_restore_1 rfl (fun c => by omega) (fun c => ?_)
  refine zW_iload_n 1 dX11_restore_4 rfl ?_
  refine zW_iconst dX11_restore_5 ?_
  refine zW_icmp_lt 12 dX11_restore_6 rfl (fun c2 => ?_) (fun c2 => by omega)
  refine zW_aload_n 0 dX11_restore_12 rfl ?_
  refine zW_getR (X := zN X) (q := (0, 0, 0)) (q' := (12, 0, 0)) lj_RX11_60 hd0 rfl rfl (hw.N.2.1 _ _ _ o rfl) dX11_restore_13 ?_
  refine zW_iload_n 1 dX11_restore_16 rfl ?_
  refine zW_aaldN (X := zN X) (q := (12, 0, 0)) (kd := 18) (n := 2) 5 rfl rfl hd12 rfl rfl (zin_k hk) (by rw [ix_k hk]; exact hp) dX11_restore_17 ?_
  refine zW_ifnnN dX11_restore_18 ?_
  refine zW_bipush dX11_restore_21 rfl ?_
  exact zW_iret hq rfl dX11_restore_23
theorem kX11_restore1 (hw : zWf X e) (o : zOk e (0, 0, 0)) (h1 : e 1) {k : Nat} (hk : k < 2) (he : e (2 + k)) (hp : zP X (12, 0, 0) k = some (7, 2 + k, 0)) {u : zMem} (hf : fX4_copyFrom 1 (2 + k) I = some u) : zCn X mX11_restore yX11_restore [.ref (zad X (0, 0, 0)), vi (k : Int)] I (some (vi 0), u) := by
  refine zCn_of (by decide +kernel) rfl rfl ⟨rfl, rfl⟩ ?_
  have hq := hw.N.2.2
  have hd0 := hw.N.1 _ o
  have hd12 := hw.N.1 _ (zokA (r' := 12) o rfl rfl)
  have hw2 : w32 2 = 2 := rfl
  have hk32 := w32_k hk
  have o1 : zOk e (7, 1, 0) := zok1 h1 rfl
  have o2 : zOk e (7, 2 + k, 0) := zok1 he rfl (by omega)
  refine zW_iload_n 1 dX11_restore_0 rfl ?_
  refine zW_if_lt 9 dX11_restore_1 rfl (fun c => by omega) (fun c => ?_)
  refine zW_iload_n 1 dX11_restore_4 rfl ?_
  refine zW_iconst dX11_restore_5 ?_
  refine zW_icmp_lt 12 dX11_restore_6 rfl (fun c2 => ?_) (fun c2 => by omega)
  refine zW_aload_n 0 dX11_restore_12 rfl ?_
  refine zW_getR (X := zN X) (q := (0, 0, 0)) (q' := (12, 0, 0)) lj_RX11_60 hd0 rfl rfl (hw.N.2.1 _ _ _ o rfl) dX11_restore_13 ?_
  refine zW_iload_n 1 dX11_restore_16 rfl ?_
  refine zW_aald (X := zN X) (q := (12, 0, 0)) (q' := (7, 2 + k, 0)) (kd := 18) (n := 2) 5 rfl rfl hd12 rfl rfl (zin_k hk) (by rw [ix_k hk]; exact hp) dX11_restore_17 ?_
  refine zW_ifnn 24 dX11_restore_18 rfl ?_
  refine zW_aload_n 0 dX11_restore_24 rfl ?_
  refine zW_getR (X := zN X) (q := (0, 0, 0)) (q' := (7, 1, 0)) lj_RX11_56 hd0 rfl rfl (hw.N.2.1 _ _ _ o rfl) dX11_restore_25 ?_
  refine zW_aload_n 0 dX11_restore_28 rfl ?_
  refine zW_getR (X := zN X) (q := (0, 0, 0)) (q' := (12, 0, 0)) lj_RX11_60 hd0 rfl rfl (hw.N.2.1 _ _ _ o rfl) dX11_restore_29 ?_
  refine zW_iload_n 1 dX11_restore_32 rfl ?_
  refine zW_aald (X := zN X) (q := (12, 0, 0)) (q' := (7, 2 + k, 0)) (kd := 18) (n := 2) 5 rfl rfl hd12 rfl rfl (zin_k hk) (by rw [ix_k hk]; exact hp) dX11_restore_33 ?_
  refine zW_callV (X := zN X) (q := (7, 1, 0)) (As := [.ref (zad X (7, 2 + k, 0))]) (T' := (none, u)) (kX4_copyFrom hw.N o1 o2 hf) mvj_RX11_424 (hw.N.1 _ o1) rfl rfl rfl rfl rfl dX11_restore_34 ?_
  refine zW_iconst dX11_restore_37 ?_
  exact zW_iret hq rfl dX11_restore_38
/-- the world of a walk that makes cells, where nothing is made -/
theorem zWf.K {X' : zX} (hw : zWf X e) (hs : zSm (zK X X') X') : zWf (zK X X') e := ⟨hw.1, hw.2.1, zHk hs rfl rfl⟩
theorem kX11_imageN (hw : zWf X e) {v : Int} (hv : ¬ (0 ≤ w32 v ∧ w32 v ≤ 1)) : zCk X X mX11_image yX11_image [.ref (zad X (0, 0, 0)), vi v] I (some (vi (-2)), I) := by
  refine zCk_of (by decide +kernel) rfl rfl (fun h => by cases h) ?_
  have hq := (hw.K (X' := X) zSm.K).2.2
  refine zW_iload_n 1 dX11_image_0 rfl ?_
  refine zW_if_lt 9 dX11_image_1 rfl (fun c => ?_) (fun c => ?_)
  · refine zW_bipush dX11_image_9 rfl ?_
    exact zW_iret hq rfl dX11_image_11
  · refine zW_iload_n 1 dX11_image_4 rfl ?_
    refine zW_iconst dX11_image_5 ?_
    have h2 : w32 2 = 2 := rfl
    refine zW_icmp_lt 12 dX11_image_6 rfl (fun c2 => absurd ⟨by omega, by omega⟩ hv) (fun _ => ?_)
    refine zW_bipush dX11_image_9 rfl ?_
    exact zW_iret hq rfl dX11_image_11
theorem kX11_image1 (hw0 : zWf X e) (o : zOk e (0, 0, 0)) (h1 : e 1) {k : Nat} (hk : k < 2) (he : e (2 + k)) (hp : zP X (12, 0, 0) k = some (7, 2 + k, 0)) {u : zMem} (hf : fX4_copyFrom (2 + k) 1 I = some u) : zCk X X mX11_image yX11_image [.ref (zad X (0, 0, 0)), vi (k : Int)] I (some (vi 0), u) := by
  refine zCk_of (by decide +kernel) rfl rfl (fun h => by cases h) ?_
  have hw := hw0.K (X' := X) zSm.K
  have hd0 := hw.1 _ o
  have hd12 := hw.1 _ (zokA (r' := 12) o rfl rfl)
  have hw2 : w32 2 = 2 := rfl
  have hk32 := w32_k hk
  have o1 : zOk e (7, 1, 0) := zok1 h1 rfl
  have o2 : zOk e (7, 2 + k, 0) := zok1 he rfl (by omega)
  refine zW_iload_n 1 dX11_image_0 rfl ?_
  refine zW_if_lt 9 dX11_image_1 rfl (fun c => by omega) (fun c => ?_)
  refine zW_iload_n 1 dX11_image_4 rfl ?_
  refine zW_iconst dX11_image_5 ?_
  refine zW_icmp_lt 12 dX11_image_6 rfl (fun c2 => ?_) (fun c2 => by omega)
  refine zW_aload_n 0 dX11_image_12 rfl ?_
  refine zW_getR (X := zK X X) (q := (0, 0, 0)) (q' := (12, 0, 0)) lj_RX11_60 hd0 rfl rfl (hw.2.1 _ _ _ o rfl) dX11_image_13 ?_
  refine zW_iload_n 1 dX11_image_16 rfl ?_
  refine zW_aald (X := zK X X) (q := (12, 0, 0)) (q' := (7, 2 + k, 0)) (kd := 18) (n := 2) 5 rfl rfl hd12 rfl rfl (zin_k hk) (by rw [ix_k hk]; exact hp) dX11_image_17 ?_
  refine zW_ifnn 34 dX11_image_18 rfl ?_
  refine zW_aload_n 0 dX11_image_34 rfl ?_
  refine zW_getR (X := zK X X) (q := (0, 0, 0)) (q' := (12, 0, 0)) lj_RX11_60 hd0 rfl rfl (hw.2.1 _ _ _ o rfl) dX11_image_35 ?_
  refine zW_iload_n 1 dX11_image_38 rfl ?_
  refine zW_aald (X := zK X X) (q := (12, 0, 0)) (q' := (7, 2 + k, 0)) (kd := 18) (n := 2) 5 rfl rfl hd12 rfl rfl (zin_k hk) (by rw [ix_k hk]; exact hp) dX11_image_39 ?_
  refine zW_aload_n 0 dX11_image_40 rfl ?_
  refine zW_getR (X := zK X X) (q := (0, 0, 0)) (q' := (7, 1, 0)) lj_RX11_56 hd0 rfl rfl (hw.2.1 _ _ _ o rfl) dX11_image_41 ?_
  refine zW_callV (X := zK X X) (q := (7, 2 + k, 0)) (As := [.ref (zad X (7, 1, 0))]) (T' := (none, u)) (kX4_copyFrom hw o2 o1 hf) mvj_RX11_424 (hw.1 _ o2) rfl rfl rfl rfl rfl dX11_image_44 ?_
  refine zW_iconst dX11_image_47 ?_
  exact zW_iret hw.2.2 rfl dX11_image_48
end
