def lX8_init (L : Nat) (p : Nat) : List zPl := [(37, L, p)]
def wX8_init (L : Nat) (p : Nat) (X : zX) : zX := (zpt (znw X (37, L, p) 39) (10, L, p) 5 (37, L, p))
def gX8_init (L : Nat) (p : Nat) (I : zMem) : zMem := (zzr (zst I (10, L, p) 0 (-1)) (37, L, p))
theorem wwX8_init {X : zX} {L : Nat} {p : Nat} (h : zAt X (zz X) (lX8_init L p)) : zGw X (wX8_init L p X) := (zGw.pt (zGw.nw zGw.rf (h 0 _ rfl)))
set_option maxRecDepth 100000 in
theorem kX8_init {X : zX} {L : Nat} {p : Nat} {I : zMem} (h : zAt X (zz X) (lX8_init L p)) (hq : zDom X (10, L, p)) : zCk X (wX8_init L p X) mX8_init yX8_init [.ref (zad X (10, L, p))] I (none, gX8_init L p I) := by
  refine zCk_of (by decide +kernel) rfl rfl (fun _ => rfl) ?_
  have hA : zNA (zK X (wX8_init L p X)) := fun a h => Or.inr h
  refine zW_aload_n (a := zad X (10, L, p)) 0 dX8_init_0 rfl ?_
  refine zW_obj oj_RX8_3 rfl dX8_init_1 ?_
  refine zW_aload_n (a := zad X (10, L, p)) 0 dX8_init_4 rfl ?_
  refine zW_iconst dX8_init_5 ?_
  refine zW_put (q := (10, L, p)) lj_RX8_9 hq rfl rfl (zn_int _) dX8_init_6 ?_
  refine zW_aload_n (a := zad X (10, L, p)) 0 dX8_init_9 rfl ?_
  refine zW_bipush dX8_init_10 rfl ?_
  refine zV_newI (q := (37, L, p)) (N := 39) aj_int rfl rfl rfl (h 0 _ rfl) hA ⟨Nat.le_of_ble_eq_true rfl, Nat.le_of_ble_eq_true rfl⟩ dX8_init_12 (fun hA => ?_)
  refine zW_putR (q := (10, L, p)) (q2 := (37, L, p)) ⟨rfl, by decide⟩ lj_RX8_15 (fun _ _ _ h => by cases h; rfl) (Or.inr (hq)) rfl rfl (fun _ => ⟨rfl, rfl⟩) dX8_init_14 ?_
  exact zW_vret (zHk ⟨⟨rfl, rfl, rfl, rfl, rfl⟩, fun _ => Iff.rfl, fun _ _ _ _ => rfl, rfl⟩ rfl rfl) rfl dX8_init_17
def lX3_init (L : Nat) (p : Nat) : List zPl := [(41, L, p)]
def wX3_init (L : Nat) (p : Nat) (X : zX) : zX := (zpt (znw X (41, L, p) 39) (11, L, p) 3 (41, L, p))
def gX3_init (L : Nat) (p : Nat) (I : zMem) : zMem := (zzr (zst I (11, L, p) 0 (-1)) (41, L, p))
theorem wwX3_init {X : zX} {L : Nat} {p : Nat} (h : zAt X (zz X) (lX3_init L p)) : zGw X (wX3_init L p X) := (zGw.pt (zGw.nw zGw.rf (h 0 _ rfl)))
set_option maxRecDepth 100000 in
theorem kX3_init {X : zX} {L : Nat} {p : Nat} {I : zMem} (h : zAt X (zz X) (lX3_init L p)) (hq : zDom X (11, L, p)) : zCk X (wX3_init L p X) mX3_init yX3_init [.ref (zad X (11, L, p))] I (none, gX3_init L p I) := by
  refine zCk_of (by decide +kernel) rfl rfl (fun _ => rfl) ?_
  have hA : zNA (zK X (wX3_init L p X)) := fun a h => Or.inr h
  refine zW_aload_n (a := zad X (11, L, p)) 0 dX3_init_0 rfl ?_
  refine zW_obj oj_RX3_3 rfl dX3_init_1 ?_
  refine zW_aload_n (a := zad X (11, L, p)) 0 dX3_init_4 rfl ?_
  refine zW_iconst dX3_init_5 ?_
  refine zW_put (q := (11, L, p)) lj_RX3_9 hq rfl rfl (zn_int _) dX3_init_6 ?_
  refine zW_aload_n (a := zad X (11, L, p)) 0 dX3_init_9 rfl ?_
  refine zW_bipush dX3_init_10 rfl ?_
  refine zV_newI (q := (41, L, p)) (N := 39) aj_int rfl rfl rfl (h 0 _ rfl) hA ⟨Nat.le_of_ble_eq_true rfl, Nat.le_of_ble_eq_true rfl⟩ dX3_init_12 (fun hA => ?_)
  refine zW_putR (q := (11, L, p)) (q2 := (41, L, p)) ⟨rfl, by decide⟩ lj_RX3_15 (fun _ _ _ h => by cases h; rfl) (Or.inr (hq)) rfl rfl (fun _ => ⟨rfl, rfl⟩) dX3_init_14 ?_
  exact zW_vret (zHk ⟨⟨rfl, rfl, rfl, rfl, rfl⟩, fun _ => Iff.rfl, fun _ _ _ _ => rfl, rfl⟩ rfl rfl) rfl dX3_init_17
def lX7_init (L : Nat) : List zPl := [(32, L, 0), (33, L, 0), (34, L, 0), (35, L, 0), (36, L, 0), (10, L, 0), (37, L, 0), (10, L, 1), (37, L, 1), (10, L, 2), (37, L, 2), (10, L, 3), (37, L, 3), (10, L, 4), (37, L, 4), (10, L, 5), (37, L, 5), (10, L, 6), (37, L, 6), (10, L, 7), (37, L, 7)]
def wX7_init (L : Nat) (X : zX) : zX := (zpt (wX8_init L 7 (znw (zpt (wX8_init L 6 (znw (zpt (wX8_init L 5 (znw (zpt (wX8_init L 4 (znw (zpt (wX8_init L 3 (znw (zpt (wX8_init L 2 (znw (zpt (wX8_init L 1 (znw (zpt (wX8_init L 0 (znw (zpt (znw (zpt (znw (zpt (znw (zpt (znw (zpt (znw X (32, L, 0) 8) (8, L, 0) 0 (32, L, 0)) (33, L, 0) 20) (8, L, 0) 1 (33, L, 0)) (34, L, 0) 8) (8, L, 0) 2 (34, L, 0)) (35, L, 0) 8) (8, L, 0) 3 (35, L, 0)) (36, L, 0) 8) (8, L, 0) 4 (36, L, 0)) (10, L, 0) 6)) (32, L, 0) 0 (10, L, 0)) (10, L, 1) 6)) (32, L, 0) 1 (10, L, 1)) (10, L, 2) 6)) (32, L, 0) 2 (10, L, 2)) (10, L, 3) 6)) (32, L, 0) 3 (10, L, 3)) (10, L, 4) 6)) (32, L, 0) 4 (10, L, 4)) (10, L, 5) 6)) (32, L, 0) 5 (10, L, 5)) (10, L, 6) 6)) (32, L, 0) 6 (10, L, 6)) (10, L, 7) 6)) (32, L, 0) 7 (10, L, 7))
def gX7_init (L : Nat) (I : zMem) : zMem := (gX8_init L 7 (zzr (gX8_init L 6 (zzr (gX8_init L 5 (zzr (gX8_init L 4 (zzr (gX8_init L 3 (zzr (gX8_init L 2 (zzr (gX8_init L 1 (zzr (gX8_init L 0 (zzr (zzr (zzr (zzr (zzr (zzr I (32, L, 0)) (33, L, 0)) (34, L, 0)) (35, L, 0)) (36, L, 0)) (10, L, 0))) (10, L, 1))) (10, L, 2))) (10, L, 3))) (10, L, 4))) (10, L, 5))) (10, L, 6))) (10, L, 7)))
theorem wwX7_init {X : zX} {L : Nat} (h : zAt X (zz X) (lX7_init L)) : zGw X (wX7_init L X) := (zGw.pt (zGw.tr (zGw.nw (zGw.pt (zGw.tr (zGw.nw (zGw.pt (zGw.tr (zGw.nw (zGw.pt (zGw.tr (zGw.nw (zGw.pt (zGw.tr (zGw.nw (zGw.pt (zGw.tr (zGw.nw (zGw.pt (zGw.tr (zGw.nw (zGw.pt (zGw.tr (zGw.nw (zGw.pt (zGw.nw (zGw.pt (zGw.nw (zGw.pt (zGw.nw (zGw.pt (zGw.nw (zGw.pt (zGw.nw zGw.rf (h 0 _ rfl))) (h 1 _ rfl))) (h 2 _ rfl))) (h 3 _ rfl))) (h 4 _ rfl))) (h 5 _ rfl)) (wwX8_init (h.sub (n := 6) (l2 := lX8_init L 0) rfl)))) (h 7 _ rfl)) (wwX8_init (h.sub (n := 8) (l2 := lX8_init L 1) rfl)))) (h 9 _ rfl)) (wwX8_init (h.sub (n := 10) (l2 := lX8_init L 2) rfl)))) (h 11 _ rfl)) (wwX8_init (h.sub (n := 12) (l2 := lX8_init L 3) rfl)))) (h 13 _ rfl)) (wwX8_init (h.sub (n := 14) (l2 := lX8_init L 4) rfl)))) (h 15 _ rfl)) (wwX8_init (h.sub (n := 16) (l2 := lX8_init L 5) rfl)))) (h 17 _ rfl)) (wwX8_init (h.sub (n := 18) (l2 := lX8_init L 6) rfl)))) (h 19 _ rfl)) (wwX8_init (h.sub (n := 20) (l2 := lX8_init L 7) rfl))))
set_option maxRecDepth 100000 in
theorem kX7_init {X : zX} {L : Nat} {I : zMem} (h : zAt X (zz X) (lX7_init L)) (hq : zDom X (8, L, 0)) : zCk X (wX7_init L X) mX7_init yX7_init [.ref (zad X (8, L, 0))] I (none, gX7_init L I) := by
  refine zCk_of (by decide +kernel) rfl rfl (fun _ => rfl) ?_
  have hA : zNA (zK X (wX7_init L X)) := fun a h => Or.inr h
  refine zW_aload_n (a := zad X (8, L, 0)) 0 dX7_init_0 rfl ?_
  refine zW_obj oj_RX7_3 rfl dX7_init_1 ?_
  refine zW_aload_n (a := zad X (8, L, 0)) 0 dX7_init_4 rfl ?_
  refine zW_bipush dX7_init_5 rfl ?_
  refine zV_newR (q := (32, L, 0)) (N := 8) 6 cj_RX7_9 (fun U h => h.2.2.2.2.2.2.2.2.2.2.2.1) rfl rfl rfl rfl (h 0 _ rfl) hA ⟨Nat.le_of_ble_eq_true rfl, Nat.le_of_ble_eq_true rfl⟩ dX7_init_7 (fun hA => ?_)
  refine zW_putR (q := (8, L, 0)) (q2 := (32, L, 0)) ⟨rfl, by decide⟩ lj_RX7_11 (fun _ _ _ h => by cases h; rfl) (Or.inr (hq)) rfl rfl (fun _ => ⟨rfl, rfl⟩) dX7_init_10 ?_
  refine zW_aload_n (a := zad X (8, L, 0)) 0 dX7_init_13 rfl ?_
  refine zW_bipush dX7_init_14 rfl ?_
  refine zV_newI (q := (33, L, 0)) (N := 20) aj_int rfl rfl rfl (h 1 _ rfl) hA ⟨Nat.le_of_ble_eq_true rfl, Nat.le_of_ble_eq_true rfl⟩ dX7_init_16 (fun hA => ?_)
  refine zW_putR (q := (8, L, 0)) (q2 := (33, L, 0)) ⟨rfl, by decide⟩ lj_RX7_17 (fun _ _ _ h => by cases h; rfl) (Or.inr ((Or.inr (hq)))) rfl rfl (fun _ => ⟨rfl, rfl⟩) dX7_init_18 ?_
  refine zW_aload_n (a := zad X (8, L, 0)) 0 dX7_init_21 rfl ?_
  refine zW_bipush dX7_init_22 rfl ?_
  refine zV_newI (q := (34, L, 0)) (N := 8) aj_int rfl rfl rfl (h 2 _ rfl) hA ⟨Nat.le_of_ble_eq_true rfl, Nat.le_of_ble_eq_true rfl⟩ dX7_init_24 (fun hA => ?_)
  refine zW_putR (q := (8, L, 0)) (q2 := (34, L, 0)) ⟨rfl, by decide⟩ lj_RX7_21 (fun _ _ _ h => by cases h; rfl) (Or.inr ((Or.inr ((Or.inr (hq)))))) rfl rfl (fun _ => ⟨rfl, rfl⟩) dX7_init_26 ?_
  refine zW_aload_n (a := zad X (8, L, 0)) 0 dX7_init_29 rfl ?_
  refine zW_bipush dX7_init_30 rfl ?_
  refine zV_newI (q := (35, L, 0)) (N := 8) aj_int rfl rfl rfl (h 3 _ rfl) hA ⟨Nat.le_of_ble_eq_true rfl, Nat.le_of_ble_eq_true rfl⟩ dX7_init_32 (fun hA => ?_)
  refine zW_putR (q := (8, L, 0)) (q2 := (35, L, 0)) ⟨rfl, by decide⟩ lj_RX7_24 (fun _ _ _ h => by cases h; rfl) (Or.inr ((Or.inr ((Or.inr ((Or.inr (hq)))))))) rfl rfl (fun _ => ⟨rfl, rfl⟩) dX7_init_34 ?_
  refine zW_aload_n (a := zad X (8, L, 0)) 0 dX7_init_37 rfl ?_
  refine zW_bipush dX7_init_38 rfl ?_
  refine zV_newI (q := (36, L, 0)) (N := 8) aj_int rfl rfl rfl (h 4 _ rfl) hA ⟨Nat.le_of_ble_eq_true rfl, Nat.le_of_ble_eq_true rfl⟩ dX7_init_40 (fun hA => ?_)
  refine zW_putR (q := (8, L, 0)) (q2 := (36, L, 0)) ⟨rfl, by decide⟩ lj_RX7_27 (fun _ _ _ h => by cases h; rfl) (Or.inr ((Or.inr ((Or.inr ((Or.inr ((Or.inr (hq)))))))))) rfl rfl (fun _ => ⟨rfl, rfl⟩) dX7_init_42 ?_
  refine zW_iconst dX7_init_45 ?_
  refine zW_istore_n (lv' := [(1, vi 0), (0, .ref (zad X (8, L, 0)))]) dX7_init_46 rfl rfl ?_
  refine zW_iload_n 0 dX7_init_47 rfl ?_
  refine zW_bipush dX7_init_48 rfl ?_
  refine zW_icmp_ge 72 dX7_init_50 rfl (fun c => absurd c (by decide +kernel)) (fun _ => ?_)
  refine zW_aload_n (a := zad X (8, L, 0)) 1 dX7_init_53 rfl ?_
  refine zW_getR (q := (8, L, 0)) (q' := (32, L, 0)) lj_RX7_11 (Or.inr ((Or.inr ((Or.inr ((Or.inr ((Or.inr (hq)))))))))) rfl rfl (by simp [zP, zpt, znw, zK]) dX7_init_54 ?_
  refine zW_iload_n 0 dX7_init_57 rfl ?_
  refine zV_new (q := (10, L, 0)) nj_RX7_9 rfl (h 5 _ rfl) hA ⟨Nat.le_of_ble_eq_true rfl, Nat.le_of_ble_eq_true rfl⟩ dX7_init_58 (fun hA => ?_)
  refine zW_dup dX7_init_61 rfl ?_
  refine zV_ini (q := (10, L, 0)) (As := []) (kX8_init (h.sub (n := 6) (l2 := lX8_init L 0) rfl) (Or.inl rfl)) (Or.inr ⟨RX11, fun U h => h.2.2.2.2.2.1⟩) ij_X8_init (wwX8_init (h.sub (n := 6) (l2 := lX8_init L 0) rfl)) hA rfl ⟨Nat.le_of_ble_eq_true rfl, Nat.le_of_ble_eq_true rfl⟩ rfl rfl rfl rfl dX7_init_62 (fun hA => ?_)
  refine zV_aast (qa := (32, L, 0)) (qv := (10, L, 0)) 6 0 (by decide +kernel) rfl (show vwCl[8]? = some (RX8, TX8, 6) from rfl) (Or.inr ((Or.inr ((Or.inr ((Or.inr ((Or.inr ((Or.inr (Or.inl rfl)))))))))))) rfl rfl (Or.inr (Or.inl rfl)) rfl (by decide +kernel) dX7_init_65 ?_
  refine zW_iinc 0 (lv' := [(1, vi 1), (0, .ref (zad X (8, L, 0)))]) dX7_init_66 rfl rfl rfl ?_
  refine zW_goto 47 dX7_init_69 rfl ?_
  refine zW_iload_n 0 dX7_init_47 rfl ?_
  refine zW_bipush dX7_init_48 rfl ?_
  refine zW_icmp_ge 72 dX7_init_50 rfl (fun c => absurd c (by decide +kernel)) (fun _ => ?_)
  refine zW_aload_n (a := zad X (8, L, 0)) 1 dX7_init_53 rfl ?_
  refine zW_getR (q := (8, L, 0)) (q' := (32, L, 0)) lj_RX7_11 (Or.inr ((Or.inr ((Or.inr ((Or.inr ((Or.inr ((Or.inr ((Or.inr (hq)))))))))))))) rfl rfl (by simp [zP, zpt, znw, zK, wX8_init]) dX7_init_54 ?_
  refine zW_iload_n 0 dX7_init_57 rfl ?_
  refine zV_new (q := (10, L, 1)) nj_RX7_9 rfl (h 7 _ rfl) hA ⟨Nat.le_of_ble_eq_true rfl, Nat.le_of_ble_eq_true rfl⟩ dX7_init_58 (fun hA => ?_)
  refine zW_dup dX7_init_61 rfl ?_
  refine zV_ini (q := (10, L, 1)) (As := []) (kX8_init (h.sub (n := 8) (l2 := lX8_init L 1) rfl) (Or.inl rfl)) (Or.inr ⟨RX11, fun U h => h.2.2.2.2.2.1⟩) ij_X8_init (wwX8_init (h.sub (n := 8) (l2 := lX8_init L 1) rfl)) hA rfl ⟨Nat.le_of_ble_eq_true rfl, Nat.le_of_ble_eq_true rfl⟩ rfl rfl rfl rfl dX7_init_62 (fun hA => ?_)
  refine zV_aast (qa := (32, L, 0)) (qv := (10, L, 1)) 6 1 (by decide +kernel) rfl (show vwCl[8]? = some (RX8, TX8, 6) from rfl) (Or.inr ((Or.inr ((Or.inr ((Or.inr ((Or.inr ((Or.inr ((Or.inr ((Or.inr (Or.inl rfl)))))))))))))))) rfl rfl (Or.inr (Or.inl rfl)) rfl (by decide +kernel) dX7_init_65 ?_
  refine zW_iinc 0 (lv' := [(1, vi 2), (0, .ref (zad X (8, L, 0)))]) dX7_init_66 rfl rfl rfl ?_
  refine zW_goto 47 dX7_init_69 rfl ?_
  refine zW_iload_n 0 dX7_init_47 rfl ?_
  refine zW_bipush dX7_init_48 rfl ?_
  refine zW_icmp_ge 72 dX7_init_50 rfl (fun c => absurd c (by decide +kernel)) (fun _ => ?_)
  refine zW_aload_n (a := zad X (8, L, 0)) 1 dX7_init_53 rfl ?_
  refine zW_getR (q := (8, L, 0)) (q' := (32, L, 0)) lj_RX7_11 (Or.inr ((Or.inr ((Or.inr ((Or.inr ((Or.inr ((Or.inr ((Or.inr ((Or.inr ((Or.inr (hq)))))))))))))))))) rfl rfl (by simp [zP, zpt, znw, zK, wX8_init]) dX7_init_54 ?_
  refine zW_iload_n 0 dX7_init_57 rfl ?_
  refine zV_new (q := (10, L, 2)) nj_RX7_9 rfl (h 9 _ rfl) hA ⟨Nat.le_of_ble_eq_true rfl, Nat.le_of_ble_eq_true rfl⟩ dX7_init_58 (fun hA => ?_)
  refine zW_dup dX7_init_61 rfl ?_
  refine zV_ini (q := (10, L, 2)) (As := []) (kX8_init (h.sub (n := 10) (l2 := lX8_init L 2) rfl) (Or.inl rfl)) (Or.inr ⟨RX11, fun U h => h.2.2.2.2.2.1⟩) ij_X8_init (wwX8_init (h.sub (n := 10) (l2 := lX8_init L 2) rfl)) hA rfl ⟨Nat.le_of_ble_eq_true rfl, Nat.le_of_ble_eq_true rfl⟩ rfl rfl rfl rfl dX7_init_62 (fun hA => ?_)
  refine zV_aast (qa := (32, L, 0)) (qv := (10, L, 2)) 6 2 (by decide +kernel) rfl (show vwCl[8]? = some (RX8, TX8, 6) from rfl) (Or.inr ((Or.inr ((Or.inr ((Or.inr ((Or.inr ((Or.inr ((Or.inr ((Or.inr ((Or.inr ((Or.inr (Or.inl rfl)))))))))))))))))))) rfl rfl (Or.inr (Or.inl rfl)) rfl (by decide +kernel) dX7_init_65 ?_
  refine zW_iinc 0 (lv' := [(1, vi 3), (0, .ref (zad X (8, L, 0)))]) dX7_init_66 rfl rfl rfl ?_
  refine zW_goto 47 dX7_init_69 rfl ?_
  refine zW_iload_n 0 dX7_init_47 rfl ?_
  refine zW_bipush dX7_init_48 rfl ?_
  refine zW_icmp_ge 72 dX7_init_50 rfl (fun c => absurd c (by decide +kernel)) (fun _ => ?_)
  refine zW_aload_n (a := zad X (8, L, 0)) 1 dX7_init_53 rfl ?_
  refine zW_getR (q := (8, L, 0)) (q' := (32, L, 0)) lj_RX7_11 (Or.inr ((Or.inr ((Or.inr ((Or.inr ((Or.inr ((Or.inr ((Or.inr ((Or.inr ((Or.inr ((Or.inr ((Or.inr (hq)))))))))))))))))))))) rfl rfl (by simp [zP, zpt, znw, zK, wX8_init]) dX7_init_54 ?_
  refine zW_iload_n 0 dX7_init_57 rfl ?_
  refine zV_new (q := (10, L, 3)) nj_RX7_9 rfl (h 11 _ rfl) hA ⟨Nat.le_of_ble_eq_true rfl, Nat.le_of_ble_eq_true rfl⟩ dX7_init_58 (fun hA => ?_)
  refine zW_dup dX7_init_61 rfl ?_
  refine zV_ini (q := (10, L, 3)) (As := []) (kX8_init (h.sub (n := 12) (l2 := lX8_init L 3) rfl) (Or.inl rfl)) (Or.inr ⟨RX11, fun U h => h.2.2.2.2.2.1⟩) ij_X8_init (wwX8_init (h.sub (n := 12) (l2 := lX8_init L 3) rfl)) hA rfl ⟨Nat.le_of_ble_eq_true rfl, Nat.le_of_ble_eq_true rfl⟩ rfl rfl rfl rfl dX7_init_62 (fun hA => ?_)
  refine zV_aast (qa := (32, L, 0)) (qv := (10, L, 3)) 6 3 (by decide +kernel) rfl (show vwCl[8]? = some (RX8, TX8, 6) from rfl) (Or.inr ((Or.inr ((Or.inr ((Or.inr ((Or.inr ((Or.inr ((Or.inr ((Or.inr ((Or.inr ((Or.inr ((Or.inr ((Or.inr (Or.inl rfl)))))))))))))))))))))))) rfl rfl (Or.inr (Or.inl rfl)) rfl (by decide +kernel) dX7_init_65 ?_
  refine zW_iinc 0 (lv' := [(1, vi 4), (0, .ref (zad X (8, L, 0)))]) dX7_init_66 rfl rfl rfl ?_
  refine zW_goto 47 dX7_init_69 rfl ?_
  refine zW_iload_n 0 dX7_init_47 rfl ?_
  refine zW_bipush dX7_init_48 rfl ?_
  refine zW_icmp_ge 72 dX7_init_50 rfl (fun c => absurd c (by decide +kernel)) (fun _ => ?_)
  refine zW_aload_n (a := zad X (8, L, 0)) 1 dX7_init_53 rfl ?_
  refine zW_getR (q := (8, L, 0)) (q' := (32, L, 0)) lj_RX7_11 (Or.inr ((Or.inr ((Or.inr ((Or.inr ((Or.inr ((Or.inr ((Or.inr ((Or.inr ((Or.inr ((Or.inr ((Or.inr ((Or.inr ((Or.inr (hq)))))))))))))))))))))))))) rfl rfl (by simp [zP, zpt, znw, zK, wX8_init]) dX7_init_54 ?_
  refine zW_iload_n 0 dX7_init_57 rfl ?_
  refine zV_new (q := (10, L, 4)) nj_RX7_9 rfl (h 13 _ rfl) hA ⟨Nat.le_of_ble_eq_true rfl, Nat.le_of_ble_eq_true rfl⟩ dX7_init_58 (fun hA => ?_)
  refine zW_dup dX7_init_61 rfl ?_
  refine zV_ini (q := (10, L, 4)) (As := []) (kX8_init (h.sub (n := 14) (l2 := lX8_init L 4) rfl) (Or.inl rfl)) (Or.inr ⟨RX11, fun U h => h.2.2.2.2.2.1⟩) ij_X8_init (wwX8_init (h.sub (n := 14) (l2 := lX8_init L 4) rfl)) hA rfl ⟨Nat.le_of_ble_eq_true rfl, Nat.le_of_ble_eq_true rfl⟩ rfl rfl rfl rfl dX7_init_62 (fun hA => ?_)
  refine zV_aast (qa := (32, L, 0)) (qv := (10, L, 4)) 6 4 (by decide +kernel) rfl (show vwCl[8]? = some (RX8, TX8, 6) from rfl) (Or.inr ((Or.inr ((Or.inr ((Or.inr ((Or.inr ((Or.inr ((Or.inr ((Or.inr ((Or.inr ((Or.inr ((Or.inr ((Or.inr ((Or.inr ((Or.inr (Or.inl rfl)))))))))))))))))))))))))))) rfl rfl (Or.inr (Or.inl rfl)) rfl (by decide +kernel) dX7_init_65 ?_
  refine zW_iinc 0 (lv' := [(1, vi 5), (0, .ref (zad X (8, L, 0)))]) dX7_init_66 rfl rfl rfl ?_
  refine zW_goto 47 dX7_init_69 rfl ?_
  refine zW_iload_n 0 dX7_init_47 rfl ?_
  refine zW_bipush dX7_init_48 rfl ?_
  refine zW_icmp_ge 72 dX7_init_50 rfl (fun c => absurd c (by decide +kernel)) (fun _ => ?_)
  refine zW_aload_n (a := zad X (8, L, 0)) 1 dX7_init_53 rfl ?_
  refine zW_getR (q := (8, L, 0)) (q' := (32, L, 0)) lj_RX7_11 (Or.inr ((Or.inr ((Or.inr ((Or.inr ((Or.inr ((Or.inr ((Or.inr ((Or.inr ((Or.inr ((Or.inr ((Or.inr ((Or.inr ((Or.inr ((Or.inr ((Or.inr (hq)))))))))))))))))))))))))))))) rfl rfl (by simp [zP, zpt, znw, zK, wX8_init]) dX7_init_54 ?_
  refine zW_iload_n 0 dX7_init_57 rfl ?_
  refine zV_new (q := (10, L, 5)) nj_RX7_9 rfl (h 15 _ rfl) hA ⟨Nat.le_of_ble_eq_true rfl, Nat.le_of_ble_eq_true rfl⟩ dX7_init_58 (fun hA => ?_)
  refine zW_dup dX7_init_61 rfl ?_
  refine zV_ini (q := (10, L, 5)) (As := []) (kX8_init (h.sub (n := 16) (l2 := lX8_init L 5) rfl) (Or.inl rfl)) (Or.inr ⟨RX11, fun U h => h.2.2.2.2.2.1⟩) ij_X8_init (wwX8_init (h.sub (n := 16) (l2 := lX8_init L 5) rfl)) hA rfl ⟨Nat.le_of_ble_eq_true rfl, Nat.le_of_ble_eq_true rfl⟩ rfl rfl rfl rfl dX7_init_62 (fun hA => ?_)
  refine zV_aast (qa := (32, L, 0)) (qv := (10, L, 5)) 6 5 (by decide +kernel) rfl (show vwCl[8]? = some (RX8, TX8, 6) from rfl) (Or.inr ((Or.inr ((Or.inr ((Or.inr ((Or.inr ((Or.inr ((Or.inr ((Or.inr ((Or.inr ((Or.inr ((Or.inr ((Or.inr ((Or.inr ((Or.inr ((Or.inr ((Or.inr (Or.inl rfl)))))))))))))))))))))))))))))))) rfl rfl (Or.inr (Or.inl rfl)) rfl (by decide +kernel) dX7_init_65 ?_
  refine zW_iinc 0 (lv' := [(1, vi 6), (0, .ref (zad X (8, L, 0)))]) dX7_init_66 rfl rfl rfl ?_
  refine zW_goto 47 dX7_init_69 rfl ?_
  refine zW_iload_n 0 dX7_init_47 rfl ?_
  refine zW_bipush dX7_init_48 rfl ?_
  refine zW_icmp_ge 72 dX7_init_50 rfl (fun c => absurd c (by decide +kernel)) (fun _ => ?_)
  refine zW_aload_n (a := zad X (8, L, 0)) 1 dX7_init_53 rfl ?_
  refine zW_getR (q := (8, L, 0)) (q' := (32, L, 0)) lj_RX7_11 (Or.inr ((Or.inr ((Or.inr ((Or.inr ((Or.inr ((Or.inr ((Or.inr ((Or.inr ((Or.inr ((Or.inr ((Or.inr ((Or.inr ((Or.inr ((Or.inr ((Or.inr ((Or.inr ((Or.inr (hq)))))))))))))))))))))))))))))))))) rfl rfl (by simp [zP, zpt, znw, zK, wX8_init]) dX7_init_54 ?_
  refine zW_iload_n 0 dX7_init_57 rfl ?_
  refine zV_new (q := (10, L, 6)) nj_RX7_9 rfl (h 17 _ rfl) hA ⟨Nat.le_of_ble_eq_true rfl, Nat.le_of_ble_eq_true rfl⟩ dX7_init_58 (fun hA => ?_)
  refine zW_dup dX7_init_61 rfl ?_
  refine zV_ini (q := (10, L, 6)) (As := []) (kX8_init (h.sub (n := 18) (l2 := lX8_init L 6) rfl) (Or.inl rfl)) (Or.inr ⟨RX11, fun U h => h.2.2.2.2.2.1⟩) ij_X8_init (wwX8_init (h.sub (n := 18) (l2 := lX8_init L 6) rfl)) hA rfl ⟨Nat.le_of_ble_eq_true rfl, Nat.le_of_ble_eq_true rfl⟩ rfl rfl rfl rfl dX7_init_62 (fun hA => ?_)
  refine zV_aast (qa := (32, L, 0)) (qv := (10, L, 6)) 6 6 (by decide +kernel) rfl (show vwCl[8]? = some (RX8, TX8, 6) from rfl) (Or.inr ((Or.inr ((Or.inr ((Or.inr ((Or.inr ((Or.inr ((Or.inr ((Or.inr ((Or.inr ((Or.inr ((Or.inr ((Or.inr ((Or.inr ((Or.inr ((Or.inr ((Or.inr ((Or.inr ((Or.inr (Or.inl rfl)))))))))))))))))))))))))))))))))))) rfl rfl (Or.inr (Or.inl rfl)) rfl (by decide +kernel) dX7_init_65 ?_
  refine zW_iinc 0 (lv' := [(1, vi 7), (0, .ref (zad X (8, L, 0)))]) dX7_init_66 rfl rfl rfl ?_
  refine zW_goto 47 dX7_init_69 rfl ?_
  refine zW_iload_n 0 dX7_init_47 rfl ?_
  refine zW_bipush dX7_init_48 rfl ?_
  refine zW_icmp_ge 72 dX7_init_50 rfl (fun c => absurd c (by decide +kernel)) (fun _ => ?_)
  refine zW_aload_n (a := zad X (8, L, 0)) 1 dX7_init_53 rfl ?_
  refine zW_getR (q := (8, L, 0)) (q' := (32, L, 0)) lj_RX7_11 (Or.inr ((Or.inr ((Or.inr ((Or.inr ((Or.inr ((Or.inr ((Or.inr ((Or.inr ((Or.inr ((Or.inr ((Or.inr ((Or.inr ((Or.inr ((Or.inr ((Or.inr ((Or.inr ((Or.inr ((Or.inr ((Or.inr (hq)))))))))))))))))))))))))))))))))))))) rfl rfl (by simp [zP, zpt, znw, zK, wX8_init]) dX7_init_54 ?_
  refine zW_iload_n 0 dX7_init_57 rfl ?_
  refine zV_new (q := (10, L, 7)) nj_RX7_9 rfl (h 19 _ rfl) hA ⟨Nat.le_of_ble_eq_true rfl, Nat.le_of_ble_eq_true rfl⟩ dX7_init_58 (fun hA => ?_)
  refine zW_dup dX7_init_61 rfl ?_
  refine zV_ini (q := (10, L, 7)) (As := []) (kX8_init (h.sub (n := 20) (l2 := lX8_init L 7) rfl) (Or.inl rfl)) (Or.inr ⟨RX11, fun U h => h.2.2.2.2.2.1⟩) ij_X8_init (wwX8_init (h.sub (n := 20) (l2 := lX8_init L 7) rfl)) hA rfl ⟨Nat.le_of_ble_eq_true rfl, Nat.le_of_ble_eq_true rfl⟩ rfl rfl rfl rfl dX7_init_62 (fun hA => ?_)
  refine zV_aast (qa := (32, L, 0)) (qv := (10, L, 7)) 6 7 (by decide +kernel) rfl (show vwCl[8]? = some (RX8, TX8, 6) from rfl) (Or.inr ((Or.inr ((Or.inr ((Or.inr ((Or.inr ((Or.inr ((Or.inr ((Or.inr ((Or.inr ((Or.inr ((Or.inr ((Or.inr ((Or.inr ((Or.inr ((Or.inr ((Or.inr ((Or.inr ((Or.inr ((Or.inr ((Or.inr (Or.inl rfl)))))))))))))))))))))))))))))))))))))))) rfl rfl (Or.inr (Or.inl rfl)) rfl (by decide +kernel) dX7_init_65 ?_
  refine zW_iinc 0 (lv' := [(1, vi 8), (0, .ref (zad X (8, L, 0)))]) dX7_init_66 rfl rfl rfl ?_
  refine zW_goto 47 dX7_init_69 rfl ?_
  refine zW_iload_n 0 dX7_init_47 rfl ?_
  refine zW_bipush dX7_init_48 rfl ?_
  refine zW_icmp_ge 72 dX7_init_50 rfl (fun _ => ?_) (fun c => absurd (by decide +kernel) c)
  exact zW_vret (zHk ⟨⟨rfl, rfl, rfl, rfl, rfl⟩, fun _ => Iff.rfl, fun _ _ _ _ => rfl, rfl⟩ rfl rfl) rfl dX7_init_72
def lX5_init (L : Nat) : List zPl := [(38, L, 0), (39, L, 0), (40, L, 0), (11, L, 0), (41, L, 0), (11, L, 1), (41, L, 1), (11, L, 2), (41, L, 2), (11, L, 3), (41, L, 3), (11, L, 4), (41, L, 4), (11, L, 5), (41, L, 5), (11, L, 6), (41, L, 6), (11, L, 7), (41, L, 7)]
def wX5_init (L : Nat) (X : zX) : zX := (zpt (wX3_init L 7 (znw (zpt (wX3_init L 6 (znw (zpt (wX3_init L 5 (znw (zpt (wX3_init L 4 (znw (zpt (wX3_init L 3 (znw (zpt (wX3_init L 2 (znw (zpt (wX3_init L 1 (znw (zpt (wX3_init L 0 (znw (zpt (znw (zpt (znw (zpt (znw X (38, L, 0) 8) (9, L, 0) 0 (38, L, 0)) (39, L, 0) 8) (9, L, 0) 1 (39, L, 0)) (40, L, 0) 256) (9, L, 0) 2 (40, L, 0)) (11, L, 0) 4)) (38, L, 0) 0 (11, L, 0)) (11, L, 1) 4)) (38, L, 0) 1 (11, L, 1)) (11, L, 2) 4)) (38, L, 0) 2 (11, L, 2)) (11, L, 3) 4)) (38, L, 0) 3 (11, L, 3)) (11, L, 4) 4)) (38, L, 0) 4 (11, L, 4)) (11, L, 5) 4)) (38, L, 0) 5 (11, L, 5)) (11, L, 6) 4)) (38, L, 0) 6 (11, L, 6)) (11, L, 7) 4)) (38, L, 0) 7 (11, L, 7))
def gX5_init (L : Nat) (I : zMem) : zMem := (zmp (gX3_init L 7 (zzr (gX3_init L 6 (zzr (gX3_init L 5 (zzr (gX3_init L 4 (zzr (gX3_init L 3 (zzr (gX3_init L 2 (zzr (gX3_init L 1 (zzr (gX3_init L 0 (zzr (zzr (zzr (zzr I (38, L, 0)) (39, L, 0)) (40, L, 0)) (11, L, 0))) (11, L, 1))) (11, L, 2))) (11, L, 3))) (11, L, 4))) (11, L, 5))) (11, L, 6))) (11, L, 7))) (39, L, 0) 8 (fun _ => (-1)))
theorem wwX5_init {X : zX} {L : Nat} (h : zAt X (zz X) (lX5_init L)) : zGw X (wX5_init L X) := (zGw.pt (zGw.tr (zGw.nw (zGw.pt (zGw.tr (zGw.nw (zGw.pt (zGw.tr (zGw.nw (zGw.pt (zGw.tr (zGw.nw (zGw.pt (zGw.tr (zGw.nw (zGw.pt (zGw.tr (zGw.nw (zGw.pt (zGw.tr (zGw.nw (zGw.pt (zGw.tr (zGw.nw (zGw.pt (zGw.nw (zGw.pt (zGw.nw (zGw.pt (zGw.nw zGw.rf (h 0 _ rfl))) (h 1 _ rfl))) (h 2 _ rfl))) (h 3 _ rfl)) (wwX3_init (h.sub (n := 4) (l2 := lX3_init L 0) rfl)))) (h 5 _ rfl)) (wwX3_init (h.sub (n := 6) (l2 := lX3_init L 1) rfl)))) (h 7 _ rfl)) (wwX3_init (h.sub (n := 8) (l2 := lX3_init L 2) rfl)))) (h 9 _ rfl)) (wwX3_init (h.sub (n := 10) (l2 := lX3_init L 3) rfl)))) (h 11 _ rfl)) (wwX3_init (h.sub (n := 12) (l2 := lX3_init L 4) rfl)))) (h 13 _ rfl)) (wwX3_init (h.sub (n := 14) (l2 := lX3_init L 5) rfl)))) (h 15 _ rfl)) (wwX3_init (h.sub (n := 16) (l2 := lX3_init L 6) rfl)))) (h 17 _ rfl)) (wwX3_init (h.sub (n := 18) (l2 := lX3_init L 7) rfl))))
set_option maxRecDepth 100000 in
theorem kX5_init {X : zX} {L : Nat} {I : zMem} (h : zAt X (zz X) (lX5_init L)) (hq : zDom X (9, L, 0)) : zCk X (wX5_init L X) mX5_init yX5_init [.ref (zad X (9, L, 0))] I (none, gX5_init L I) := by
  refine zCk_of (by decide +kernel) rfl rfl (fun _ => rfl) ?_
  have hA : zNA (zK X (wX5_init L X)) := fun a h => Or.inr h
  refine zW_aload_n (a := zad X (9, L, 0)) 0 dX5_init_0 rfl ?_
  refine zW_obj oj_RX5_3 rfl dX5_init_1 ?_
  refine zW_aload_n (a := zad X (9, L, 0)) 0 dX5_init_4 rfl ?_
  refine zW_bipush dX5_init_5 rfl ?_
  refine zV_newR (q := (38, L, 0)) (N := 8) 4 cj_RX5_9 (fun U h => h.2.2.2.2.2.2.2.2.2.1) rfl rfl rfl rfl (h 0 _ rfl) hA ⟨Nat.le_of_ble_eq_true rfl, Nat.le_of_ble_eq_true rfl⟩ dX5_init_7 (fun hA => ?_)
  refine zW_putR (q := (9, L, 0)) (q2 := (38, L, 0)) ⟨rfl, by decide⟩ lj_RX5_11 (fun _ _ _ h => by cases h; rfl) (Or.inr (hq)) rfl rfl (fun _ => ⟨rfl, rfl⟩) dX5_init_10 ?_
  refine zW_aload_n (a := zad X (9, L, 0)) 0 dX5_init_13 rfl ?_
  refine zW_bipush dX5_init_14 rfl ?_
  refine zV_newI (q := (39, L, 0)) (N := 8) aj_int rfl rfl rfl (h 1 _ rfl) hA ⟨Nat.le_of_ble_eq_true rfl, Nat.le_of_ble_eq_true rfl⟩ dX5_init_16 (fun hA => ?_)
  refine zW_putR (q := (9, L, 0)) (q2 := (39, L, 0)) ⟨rfl, by decide⟩ lj_RX5_17 (fun _ _ _ h => by cases h; rfl) (Or.inr ((Or.inr (hq)))) rfl rfl (fun _ => ⟨rfl, rfl⟩) dX5_init_18 ?_
  refine zW_aload_n (a := zad X (9, L, 0)) 0 dX5_init_21 rfl ?_
  refine zW_sipush dX5_init_22 rfl ?_
  refine zV_newI (q := (40, L, 0)) (N := 256) aj_int rfl rfl rfl (h 2 _ rfl) hA ⟨Nat.le_of_ble_eq_true rfl, Nat.le_of_ble_eq_true rfl⟩ dX5_init_25 (fun hA => ?_)
  refine zW_putR (q := (9, L, 0)) (q2 := (40, L, 0)) ⟨rfl, by decide⟩ lj_RX5_21 (fun _ _ _ h => by cases h; rfl) (Or.inr ((Or.inr ((Or.inr (hq)))))) rfl rfl (fun _ => ⟨rfl, rfl⟩) dX5_init_27 ?_
  refine zW_iconst dX5_init_30 ?_
  refine zW_istore_n (lv' := [(1, vi 0), (0, .ref (zad X (9, L, 0)))]) dX5_init_31 rfl rfl ?_
  refine zW_iload_n 0 dX5_init_32 rfl ?_
  refine zW_bipush dX5_init_33 rfl ?_
  refine zW_icmp_ge 57 dX5_init_35 rfl (fun c => absurd c (by decide +kernel)) (fun _ => ?_)
  refine zW_aload_n (a := zad X (9, L, 0)) 1 dX5_init_38 rfl ?_
  refine zW_getR (q := (9, L, 0)) (q' := (38, L, 0)) lj_RX5_11 (Or.inr ((Or.inr ((Or.inr (hq)))))) rfl rfl (by simp [zP, zpt, znw, zK]) dX5_init_39 ?_
  refine zW_iload_n 0 dX5_init_42 rfl ?_
  refine zV_new (q := (11, L, 0)) nj_RX5_9 rfl (h 3 _ rfl) hA ⟨Nat.le_of_ble_eq_true rfl, Nat.le_of_ble_eq_true rfl⟩ dX5_init_43 (fun hA => ?_)
  refine zW_dup dX5_init_46 rfl ?_
  refine zV_ini (q := (11, L, 0)) (As := []) (kX3_init (h.sub (n := 4) (l2 := lX3_init L 0) rfl) (Or.inl rfl)) (Or.inr ⟨RX11, fun U h => h.2.2.2.2.2.2.1⟩) ij_X3_init (wwX3_init (h.sub (n := 4) (l2 := lX3_init L 0) rfl)) hA rfl ⟨Nat.le_of_ble_eq_true rfl, Nat.le_of_ble_eq_true rfl⟩ rfl rfl rfl rfl dX5_init_47 (fun hA => ?_)
  refine zV_aast (qa := (38, L, 0)) (qv := (11, L, 0)) 4 0 (by decide +kernel) rfl (show vwCl[3]? = some (RX3, TX3, 4) from rfl) (Or.inr ((Or.inr ((Or.inr ((Or.inr (Or.inl rfl)))))))) rfl rfl (Or.inr (Or.inl rfl)) rfl (by decide +kernel) dX5_init_50 ?_
  refine zW_iinc 0 (lv' := [(1, vi 1), (0, .ref (zad X (9, L, 0)))]) dX5_init_51 rfl rfl rfl ?_
  refine zW_goto 32 dX5_init_54 rfl ?_
  refine zW_iload_n 0 dX5_init_32 rfl ?_
  refine zW_bipush dX5_init_33 rfl ?_
  refine zW_icmp_ge 57 dX5_init_35 rfl (fun c => absurd c (by decide +kernel)) (fun _ => ?_)
  refine zW_aload_n (a := zad X (9, L, 0)) 1 dX5_init_38 rfl ?_
  refine zW_getR (q := (9, L, 0)) (q' := (38, L, 0)) lj_RX5_11 (Or.inr ((Or.inr ((Or.inr ((Or.inr ((Or.inr (hq)))))))))) rfl rfl (by simp [zP, zpt, znw, zK, wX3_init]) dX5_init_39 ?_
  refine zW_iload_n 0 dX5_init_42 rfl ?_
  refine zV_new (q := (11, L, 1)) nj_RX5_9 rfl (h 5 _ rfl) hA ⟨Nat.le_of_ble_eq_true rfl, Nat.le_of_ble_eq_true rfl⟩ dX5_init_43 (fun hA => ?_)
  refine zW_dup dX5_init_46 rfl ?_
  refine zV_ini (q := (11, L, 1)) (As := []) (kX3_init (h.sub (n := 6) (l2 := lX3_init L 1) rfl) (Or.inl rfl)) (Or.inr ⟨RX11, fun U h => h.2.2.2.2.2.2.1⟩) ij_X3_init (wwX3_init (h.sub (n := 6) (l2 := lX3_init L 1) rfl)) hA rfl ⟨Nat.le_of_ble_eq_true rfl, Nat.le_of_ble_eq_true rfl⟩ rfl rfl rfl rfl dX5_init_47 (fun hA => ?_)
  refine zV_aast (qa := (38, L, 0)) (qv := (11, L, 1)) 4 1 (by decide +kernel) rfl (show vwCl[3]? = some (RX3, TX3, 4) from rfl) (Or.inr ((Or.inr ((Or.inr ((Or.inr ((Or.inr ((Or.inr (Or.inl rfl)))))))))))) rfl rfl (Or.inr (Or.inl rfl)) rfl (by decide +kernel) dX5_init_50 ?_
  refine zW_iinc 0 (lv' := [(1, vi 2), (0, .ref (zad X (9, L, 0)))]) dX5_init_51 rfl rfl rfl ?_
  refine zW_goto 32 dX5_init_54 rfl ?_
  refine zW_iload_n 0 dX5_init_32 rfl ?_
  refine zW_bipush dX5_init_33 rfl ?_
  refine zW_icmp_ge 57 dX5_init_35 rfl (fun c => absurd c (by decide +kernel)) (fun _ => ?_)
  refine zW_aload_n (a := zad X (9, L, 0)) 1 dX5_init_38 rfl ?_
  refine zW_getR (q := (9, L, 0)) (q' := (38, L, 0)) lj_RX5_11 (Or.inr ((Or.inr ((Or.inr ((Or.inr ((Or.inr ((Or.inr ((Or.inr (hq)))))))))))))) rfl rfl (by simp [zP, zpt, znw, zK, wX3_init]) dX5_init_39 ?_
  refine zW_iload_n 0 dX5_init_42 rfl ?_
  refine zV_new (q := (11, L, 2)) nj_RX5_9 rfl (h 7 _ rfl) hA ⟨Nat.le_of_ble_eq_true rfl, Nat.le_of_ble_eq_true rfl⟩ dX5_init_43 (fun hA => ?_)
  refine zW_dup dX5_init_46 rfl ?_
  refine zV_ini (q := (11, L, 2)) (As := []) (kX3_init (h.sub (n := 8) (l2 := lX3_init L 2) rfl) (Or.inl rfl)) (Or.inr ⟨RX11, fun U h => h.2.2.2.2.2.2.1⟩) ij_X3_init (wwX3_init (h.sub (n := 8) (l2 := lX3_init L 2) rfl)) hA rfl ⟨Nat.le_of_ble_eq_true rfl, Nat.le_of_ble_eq_true rfl⟩ rfl rfl rfl rfl dX5_init_47 (fun hA => ?_)
  refine zV_aast (qa := (38, L, 0)) (qv := (11, L, 2)) 4 2 (by decide +kernel) rfl (show vwCl[3]? = some (RX3, TX3, 4) from rfl) (Or.inr ((Or.inr ((Or.inr ((Or.inr ((Or.inr ((Or.inr ((Or.inr ((Or.inr (Or.inl rfl)))))))))))))))) rfl rfl (Or.inr (Or.inl rfl)) rfl (by decide +kernel) dX5_init_50 ?_
  refine zW_iinc 0 (lv' := [(1, vi 3), (0, .ref (zad X (9, L, 0)))]) dX5_init_51 rfl rfl rfl ?_
  refine zW_goto 32 dX5_init_54 rfl ?_
  refine zW_iload_n 0 dX5_init_32 rfl ?_
  refine zW_bipush dX5_init_33 rfl ?_
  refine zW_icmp_ge 57 dX5_init_35 rfl (fun c => absurd c (by decide +kernel)) (fun _ => ?_)
  refine zW_aload_n (a := zad X (9, L, 0)) 1 dX5_init_38 rfl ?_
  refine zW_getR (q := (9, L, 0)) (q' := (38, L, 0)) lj_RX5_11 (Or.inr ((Or.inr ((Or.inr ((Or.inr ((Or.inr ((Or.inr ((Or.inr ((Or.inr ((Or.inr (hq)))))))))))))))))) rfl rfl (by simp [zP, zpt, znw, zK, wX3_init]) dX5_init_39 ?_
  refine zW_iload_n 0 dX5_init_42 rfl ?_
  refine zV_new (q := (11, L, 3)) nj_RX5_9 rfl (h 9 _ rfl) hA ⟨Nat.le_of_ble_eq_true rfl, Nat.le_of_ble_eq_true rfl⟩ dX5_init_43 (fun hA => ?_)
  refine zW_dup dX5_init_46 rfl ?_
  refine zV_ini (q := (11, L, 3)) (As := []) (kX3_init (h.sub (n := 10) (l2 := lX3_init L 3) rfl) (Or.inl rfl)) (Or.inr ⟨RX11, fun U h => h.2.2.2.2.2.2.1⟩) ij_X3_init (wwX3_init (h.sub (n := 10) (l2 := lX3_init L 3) rfl)) hA rfl ⟨Nat.le_of_ble_eq_true rfl, Nat.le_of_ble_eq_true rfl⟩ rfl rfl rfl rfl dX5_init_47 (fun hA => ?_)
  refine zV_aast (qa := (38, L, 0)) (qv := (11, L, 3)) 4 3 (by decide +kernel) rfl (show vwCl[3]? = some (RX3, TX3, 4) from rfl) (Or.inr ((Or.inr ((Or.inr ((Or.inr ((Or.inr ((Or.inr ((Or.inr ((Or.inr ((Or.inr ((Or.inr (Or.inl rfl)))))))))))))))))))) rfl rfl (Or.inr (Or.inl rfl)) rfl (by decide +kernel) dX5_init_50 ?_
  refine zW_iinc 0 (lv' := [(1, vi 4), (0, .ref (zad X (9, L, 0)))]) dX5_init_51 rfl rfl rfl ?_
  refine zW_goto 32 dX5_init_54 rfl ?_
  refine zW_iload_n 0 dX5_init_32 rfl ?_
  refine zW_bipush dX5_init_33 rfl ?_
  refine zW_icmp_ge 57 dX5_init_35 rfl (fun c => absurd c (by decide +kernel)) (fun _ => ?_)
  refine zW_aload_n (a := zad X (9, L, 0)) 1 dX5_init_38 rfl ?_
  refine zW_getR (q := (9, L, 0)) (q' := (38, L, 0)) lj_RX5_11 (Or.inr ((Or.inr ((Or.inr ((Or.inr ((Or.inr ((Or.inr ((Or.inr ((Or.inr ((Or.inr ((Or.inr ((Or.inr (hq)))))))))))))))))))))) rfl rfl (by simp [zP, zpt, znw, zK, wX3_init]) dX5_init_39 ?_
  refine zW_iload_n 0 dX5_init_42 rfl ?_
  refine zV_new (q := (11, L, 4)) nj_RX5_9 rfl (h 11 _ rfl) hA ⟨Nat.le_of_ble_eq_true rfl, Nat.le_of_ble_eq_true rfl⟩ dX5_init_43 (fun hA => ?_)
  refine zW_dup dX5_init_46 rfl ?_
  refine zV_ini (q := (11, L, 4)) (As := []) (kX3_init (h.sub (n := 12) (l2 := lX3_init L 4) rfl) (Or.inl rfl)) (Or.inr ⟨RX11, fun U h => h.2.2.2.2.2.2.1⟩) ij_X3_init (wwX3_init (h.sub (n := 12) (l2 := lX3_init L 4) rfl)) hA rfl ⟨Nat.le_of_ble_eq_true rfl, Nat.le_of_ble_eq_true rfl⟩ rfl rfl rfl rfl dX5_init_47 (fun hA => ?_)
  refine zV_aast (qa := (38, L, 0)) (qv := (11, L, 4)) 4 4 (by decide +kernel) rfl (show vwCl[3]? = some (RX3, TX3, 4) from rfl) (Or.inr ((Or.inr ((Or.inr ((Or.inr ((Or.inr ((Or.inr ((Or.inr ((Or.inr ((Or.inr ((Or.inr ((Or.inr ((Or.inr (Or.inl rfl)))))))))))))))))))))))) rfl rfl (Or.inr (Or.inl rfl)) rfl (by decide +kernel) dX5_init_50 ?_
  refine zW_iinc 0 (lv' := [(1, vi 5), (0, .ref (zad X (9, L, 0)))]) dX5_init_51 rfl rfl rfl ?_
  refine zW_goto 32 dX5_init_54 rfl ?_
  refine zW_iload_n 0 dX5_init_32 rfl ?_
  refine zW_bipush dX5_init_33 rfl ?_
  refine zW_icmp_ge 57 dX5_init_35 rfl (fun c => absurd c (by decide +kernel)) (fun _ => ?_)
  refine zW_aload_n (a := zad X (9, L, 0)) 1 dX5_init_38 rfl ?_
  refine zW_getR (q := (9, L, 0)) (q' := (38, L, 0)) lj_RX5_11 (Or.inr ((Or.inr ((Or.inr ((Or.inr ((Or.inr ((Or.inr ((Or.inr ((Or.inr ((Or.inr ((Or.inr ((Or.inr ((Or.inr ((Or.inr (hq)))))))))))))))))))))))))) rfl rfl (by simp [zP, zpt, znw, zK, wX3_init]) dX5_init_39 ?_
  refine zW_iload_n 0 dX5_init_42 rfl ?_
  refine zV_new (q := (11, L, 5)) nj_RX5_9 rfl (h 13 _ rfl) hA ⟨Nat.le_of_ble_eq_true rfl, Nat.le_of_ble_eq_true rfl⟩ dX5_init_43 (fun hA => ?_)
  refine zW_dup dX5_init_46 rfl ?_
  refine zV_ini (q := (11, L, 5)) (As := []) (kX3_init (h.sub (n := 14) (l2 := lX3_init L 5) rfl) (Or.inl rfl)) (Or.inr ⟨RX11, fun U h => h.2.2.2.2.2.2.1⟩) ij_X3_init (wwX3_init (h.sub (n := 14) (l2 := lX3_init L 5) rfl)) hA rfl ⟨Nat.le_of_ble_eq_true rfl, Nat.le_of_ble_eq_true rfl⟩ rfl rfl rfl rfl dX5_init_47 (fun hA => ?_)
  refine zV_aast (qa := (38, L, 0)) (qv := (11, L, 5)) 4 5 (by decide +kernel) rfl (show vwCl[3]? = some (RX3, TX3, 4) from rfl) (Or.inr ((Or.inr ((Or.inr ((Or.inr ((Or.inr ((Or.inr ((Or.inr ((Or.inr ((Or.inr ((Or.inr ((Or.inr ((Or.inr ((Or.inr ((Or.inr (Or.inl rfl)))))))))))))))))))))))))))) rfl rfl (Or.inr (Or.inl rfl)) rfl (by decide +kernel) dX5_init_50 ?_
  refine zW_iinc 0 (lv' := [(1, vi 6), (0, .ref (zad X (9, L, 0)))]) dX5_init_51 rfl rfl rfl ?_
  refine zW_goto 32 dX5_init_54 rfl ?_
  refine zW_iload_n 0 dX5_init_32 rfl ?_
  refine zW_bipush dX5_init_33 rfl ?_
  refine zW_icmp_ge 57 dX5_init_35 rfl (fun c => absurd c (by decide +kernel)) (fun _ => ?_)
  refine zW_aload_n (a := zad X (9, L, 0)) 1 dX5_init_38 rfl ?_
  refine zW_getR (q := (9, L, 0)) (q' := (38, L, 0)) lj_RX5_11 (Or.inr ((Or.inr ((Or.inr ((Or.inr ((Or.inr ((Or.inr ((Or.inr ((Or.inr ((Or.inr ((Or.inr ((Or.inr ((Or.inr ((Or.inr ((Or.inr ((Or.inr (hq)))))))))))))))))))))))))))))) rfl rfl (by simp [zP, zpt, znw, zK, wX3_init]) dX5_init_39 ?_
  refine zW_iload_n 0 dX5_init_42 rfl ?_
  refine zV_new (q := (11, L, 6)) nj_RX5_9 rfl (h 15 _ rfl) hA ⟨Nat.le_of_ble_eq_true rfl, Nat.le_of_ble_eq_true rfl⟩ dX5_init_43 (fun hA => ?_)
  refine zW_dup dX5_init_46 rfl ?_
  refine zV_ini (q := (11, L, 6)) (As := []) (kX3_init (h.sub (n := 16) (l2 := lX3_init L 6) rfl) (Or.inl rfl)) (Or.inr ⟨RX11, fun U h => h.2.2.2.2.2.2.1⟩) ij_X3_init (wwX3_init (h.sub (n := 16) (l2 := lX3_init L 6) rfl)) hA rfl ⟨Nat.le_of_ble_eq_true rfl, Nat.le_of_ble_eq_true rfl⟩ rfl rfl rfl rfl dX5_init_47 (fun hA => ?_)
  refine zV_aast (qa := (38, L, 0)) (qv := (11, L, 6)) 4 6 (by decide +kernel) rfl (show vwCl[3]? = some (RX3, TX3, 4) from rfl) (Or.inr ((Or.inr ((Or.inr ((Or.inr ((Or.inr ((Or.inr ((Or.inr ((Or.inr ((Or.inr ((Or.inr ((Or.inr ((Or.inr ((Or.inr ((Or.inr ((Or.inr ((Or.inr (Or.inl rfl)))))))))))))))))))))))))))))))) rfl rfl (Or.inr (Or.inl rfl)) rfl (by decide +kernel) dX5_init_50 ?_
  refine zW_iinc 0 (lv' := [(1, vi 7), (0, .ref (zad X (9, L, 0)))]) dX5_init_51 rfl rfl rfl ?_
  refine zW_goto 32 dX5_init_54 rfl ?_
  refine zW_iload_n 0 dX5_init_32 rfl ?_
  refine zW_bipush dX5_init_33 rfl ?_
  refine zW_icmp_ge 57 dX5_init_35 rfl (fun c => absurd c (by decide +kernel)) (fun _ => ?_)
  refine zW_aload_n (a := zad X (9, L, 0)) 1 dX5_init_38 rfl ?_
  refine zW_getR (q := (9, L, 0)) (q' := (38, L, 0)) lj_RX5_11 (Or.inr ((Or.inr ((Or.inr ((Or.inr ((Or.inr ((Or.inr ((Or.inr ((Or.inr ((Or.inr ((Or.inr ((Or.inr ((Or.inr ((Or.inr ((Or.inr ((Or.inr ((Or.inr ((Or.inr (hq)))))))))))))))))))))))))))))))))) rfl rfl (by simp [zP, zpt, znw, zK, wX3_init]) dX5_init_39 ?_
  refine zW_iload_n 0 dX5_init_42 rfl ?_
  refine zV_new (q := (11, L, 7)) nj_RX5_9 rfl (h 17 _ rfl) hA ⟨Nat.le_of_ble_eq_true rfl, Nat.le_of_ble_eq_true rfl⟩ dX5_init_43 (fun hA => ?_)
  refine zW_dup dX5_init_46 rfl ?_
  refine zV_ini (q := (11, L, 7)) (As := []) (kX3_init (h.sub (n := 18) (l2 := lX3_init L 7) rfl) (Or.inl rfl)) (Or.inr ⟨RX11, fun U h => h.2.2.2.2.2.2.1⟩) ij_X3_init (wwX3_init (h.sub (n := 18) (l2 := lX3_init L 7) rfl)) hA rfl ⟨Nat.le_of_ble_eq_true rfl, Nat.le_of_ble_eq_true rfl⟩ rfl rfl rfl rfl dX5_init_47 (fun hA => ?_)
  refine zV_aast (qa := (38, L, 0)) (qv := (11, L, 7)) 4 7 (by decide +kernel) rfl (show vwCl[3]? = some (RX3, TX3, 4) from rfl) (Or.inr ((Or.inr ((Or.inr ((Or.inr ((Or.inr ((Or.inr ((Or.inr ((Or.inr ((Or.inr ((Or.inr ((Or.inr ((Or.inr ((Or.inr ((Or.inr ((Or.inr ((Or.inr ((Or.inr ((Or.inr (Or.inl rfl)))))))))))))))))))))))))))))))))))) rfl rfl (Or.inr (Or.inl rfl)) rfl (by decide +kernel) dX5_init_50 ?_
  refine zW_iinc 0 (lv' := [(1, vi 8), (0, .ref (zad X (9, L, 0)))]) dX5_init_51 rfl rfl rfl ?_
  refine zW_goto 32 dX5_init_54 rfl ?_
  refine zW_iload_n 0 dX5_init_32 rfl ?_
  refine zW_bipush dX5_init_33 rfl ?_
  refine zW_icmp_ge 57 dX5_init_35 rfl (fun _ => ?_) (fun c => absurd (by decide +kernel) c)
  refine zW_aload_n (a := zad X (9, L, 0)) 1 dX5_init_57 rfl ?_
  refine zW_getR (q := (9, L, 0)) (q' := (39, L, 0)) lj_RX5_17 (Or.inr ((Or.inr ((Or.inr ((Or.inr ((Or.inr ((Or.inr ((Or.inr ((Or.inr ((Or.inr ((Or.inr ((Or.inr ((Or.inr ((Or.inr ((Or.inr ((Or.inr ((Or.inr ((Or.inr ((Or.inr ((Or.inr (hq)))))))))))))))))))))))))))))))))))))) rfl rfl (by simp [zP, zpt, znw, zK, wX3_init]) dX5_init_58 ?_
  refine zW_iconst dX5_init_61 ?_
  refine zW_callS (As := [.ref (zad X (39, L, 0)), vi (-1)]) (T' := (none, zmp _ (39, L, 0) 8 (fun _ => (-1)))) (kJ7_fill_53178 (X := zN _) (zWf0 (zHq_N _)) (q0 := (39, L, 0)) (n0 := 8) (v1 := (-1)) (Or.inr ((Or.inr ((Or.inr ((Or.inr ((Or.inr ((Or.inr ((Or.inr ((Or.inr ((Or.inr ((Or.inr ((Or.inr ((Or.inr ((Or.inr ((Or.inr ((Or.inr ((Or.inr ((Or.inr (Or.inl rfl)))))))))))))))))))))))))))))))))) rfl (s_fillI _ (by decide) _ _)) msj_RX5_25 rfl rfl rfl rfl dX5_init_62 ?_
  exact zW_vret (zHk ⟨⟨rfl, rfl, rfl, rfl, rfl⟩, fun _ => Iff.rfl, fun _ _ _ _ => rfl, rfl⟩ rfl rfl) rfl dX5_init_65
def lX4_init (L : Nat) : List zPl := [(8, L, 0), (32, L, 0), (33, L, 0), (34, L, 0), (35, L, 0), (36, L, 0), (10, L, 0), (37, L, 0), (10, L, 1), (37, L, 1), (10, L, 2), (37, L, 2), (10, L, 3), (37, L, 3), (10, L, 4), (37, L, 4), (10, L, 5), (37, L, 5), (10, L, 6), (37, L, 6), (10, L, 7), (37, L, 7), (9, L, 0), (38, L, 0), (39, L, 0), (40, L, 0), (11, L, 0), (41, L, 0), (11, L, 1), (41, L, 1), (11, L, 2), (41, L, 2), (11, L, 3), (41, L, 3), (11, L, 4), (41, L, 4), (11, L, 5), (41, L, 5), (11, L, 6), (41, L, 6), (11, L, 7), (41, L, 7)]
def wX4_init (L : Nat) (X : zX) : zX := (zpt (wX5_init L (znw (zpt (wX7_init L (znw X (8, L, 0) 11)) (7, L, 0) 7 (8, L, 0)) (9, L, 0) 11)) (7, L, 0) 8 (9, L, 0))
def gX4_init (L : Nat) (I : zMem) : zMem := (gX5_init L (zzr (gX7_init L (zzr (zst (zst (zst (zst (zst (zst (zst I (7, L, 0) 0 4) (7, L, 0) 1 4) (7, L, 0) 2 12) (7, L, 0) 3 4) (7, L, 0) 4 48) (7, L, 0) 5 500) (7, L, 0) 6 20) (8, L, 0))) (9, L, 0)))
theorem wwX4_init {X : zX} {L : Nat} (h : zAt X (zz X) (lX4_init L)) : zGw X (wX4_init L X) := (zGw.pt (zGw.tr (zGw.nw (zGw.pt (zGw.tr (zGw.nw zGw.rf (h 0 _ rfl)) (wwX7_init (h.sub (n := 1) (l2 := lX7_init L) rfl)))) (h 22 _ rfl)) (wwX5_init (h.sub (n := 23) (l2 := lX5_init L) rfl))))
set_option maxRecDepth 100000 in
theorem kX4_init {X : zX} {L : Nat} {I : zMem} (h : zAt X (zz X) (lX4_init L)) (hq : zDom X (7, L, 0)) : zCk X (wX4_init L X) mX4_init yX4_init [.ref (zad X (7, L, 0))] I (none, gX4_init L I) := by
  refine zCk_of (by decide +kernel) rfl rfl (fun _ => rfl) ?_
  have hA : zNA (zK X (wX4_init L X)) := fun a h => Or.inr h
  refine zW_aload_n (a := zad X (7, L, 0)) 0 dX4_init_0 rfl ?_
  refine zW_obj oj_RX4_3 rfl dX4_init_1 ?_
  refine zW_aload_n (a := zad X (7, L, 0)) 0 dX4_init_4 rfl ?_
  refine zW_iconst dX4_init_5 ?_
  refine zW_put (q := (7, L, 0)) lj_RX4_9 hq rfl rfl (zn_int _) dX4_init_6 ?_
  refine zW_aload_n (a := zad X (7, L, 0)) 0 dX4_init_9 rfl ?_
  refine zW_iconst dX4_init_10 ?_
  refine zW_put (q := (7, L, 0)) lj_RX4_15 hq rfl rfl (zn_int _) dX4_init_11 ?_
  refine zW_aload_n (a := zad X (7, L, 0)) 0 dX4_init_14 rfl ?_
  refine zW_bipush dX4_init_15 rfl ?_
  refine zW_put (q := (7, L, 0)) lj_RX4_18 hq rfl rfl (zn_int _) dX4_init_17 ?_
  refine zW_aload_n (a := zad X (7, L, 0)) 0 dX4_init_20 rfl ?_
  refine zW_iconst dX4_init_21 ?_
  refine zW_put (q := (7, L, 0)) lj_RX4_21 hq rfl rfl (zn_int _) dX4_init_22 ?_
  refine zW_aload_n (a := zad X (7, L, 0)) 0 dX4_init_25 rfl ?_
  refine zW_bipush dX4_init_26 rfl ?_
  refine zW_put (q := (7, L, 0)) lj_RX4_24 hq rfl rfl (zn_int _) dX4_init_28 ?_
  refine zW_aload_n (a := zad X (7, L, 0)) 0 dX4_init_31 rfl ?_
  refine zW_sipush dX4_init_32 rfl ?_
  refine zW_put (q := (7, L, 0)) lj_RX4_27 hq rfl rfl (zn_int _) dX4_init_35 ?_
  refine zW_aload_n (a := zad X (7, L, 0)) 0 dX4_init_38 rfl ?_
  refine zW_bipush dX4_init_39 rfl ?_
  refine zW_put (q := (7, L, 0)) lj_RX4_30 hq rfl rfl (zn_int _) dX4_init_41 ?_
  refine zW_aload_n (a := zad X (7, L, 0)) 0 dX4_init_44 rfl ?_
  refine zV_new (q := (8, L, 0)) nj_RX4_33 rfl (h 0 _ rfl) hA ⟨Nat.le_of_ble_eq_true rfl, Nat.le_of_ble_eq_true rfl⟩ dX4_init_45 (fun hA => ?_)
  refine zW_dup dX4_init_48 rfl ?_
  refine zV_ini (q := (8, L, 0)) (As := []) (kX7_init (h.sub (n := 1) (l2 := lX7_init L) rfl) (Or.inl rfl)) (Or.inl yj_RX4_35) ij_X7_init (wwX7_init (h.sub (n := 1) (l2 := lX7_init L) rfl)) hA rfl ⟨Nat.le_of_ble_eq_true rfl, Nat.le_of_ble_eq_true rfl⟩ rfl rfl rfl rfl dX4_init_49 (fun hA => ?_)
  refine zW_putR (q := (7, L, 0)) (q2 := (8, L, 0)) ⟨rfl, by decide⟩ lj_RX4_36 (fun _ _ _ h => by cases h; rfl) (Or.inr ((Or.inr ((Or.inr ((Or.inr ((Or.inr ((Or.inr ((Or.inr ((Or.inr ((Or.inr ((Or.inr ((Or.inr ((Or.inr ((Or.inr ((Or.inr ((Or.inr ((Or.inr ((Or.inr ((Or.inr ((Or.inr ((Or.inr ((Or.inr ((Or.inr (hq)))))))))))))))))))))))))))))))))))))))))))) rfl rfl (fun _ => ⟨rfl, rfl⟩) dX4_init_52 ?_
  refine zW_aload_n (a := zad X (7, L, 0)) 0 dX4_init_55 rfl ?_
  refine zV_new (q := (9, L, 0)) nj_RX4_40 rfl (h 22 _ rfl) hA ⟨Nat.le_of_ble_eq_true rfl, Nat.le_of_ble_eq_true rfl⟩ dX4_init_56 (fun hA => ?_)
  refine zW_dup dX4_init_59 rfl ?_
  refine zV_ini (q := (9, L, 0)) (As := []) (kX5_init (h.sub (n := 23) (l2 := lX5_init L) rfl) (Or.inl rfl)) (Or.inl yj_RX4_42) ij_X5_init (wwX5_init (h.sub (n := 23) (l2 := lX5_init L) rfl)) hA rfl ⟨Nat.le_of_ble_eq_true rfl, Nat.le_of_ble_eq_true rfl⟩ rfl rfl rfl rfl dX4_init_60 (fun hA => ?_)
  refine zW_putR (q := (7, L, 0)) (q2 := (9, L, 0)) ⟨rfl, by decide⟩ lj_RX4_43 (fun _ _ _ h => by cases h; rfl) (Or.inr ((Or.inr ((Or.inr ((Or.inr ((Or.inr ((Or.inr ((Or.inr ((Or.inr ((Or.inr ((Or.inr ((Or.inr ((Or.inr ((Or.inr ((Or.inr ((Or.inr ((Or.inr ((Or.inr ((Or.inr ((Or.inr ((Or.inr ((Or.inr ((Or.inr ((Or.inr ((Or.inr ((Or.inr ((Or.inr ((Or.inr ((Or.inr ((Or.inr ((Or.inr ((Or.inr ((Or.inr ((Or.inr ((Or.inr ((Or.inr ((Or.inr ((Or.inr ((Or.inr ((Or.inr ((Or.inr ((Or.inr ((Or.inr (hq)))))))))))))))))))))))))))))))))))))))))))))))))))))))))))))))))))))))))))))))))))) rfl rfl (fun _ => ⟨rfl, rfl⟩) dX4_init_63 ?_
  exact zW_vret (zHk ⟨⟨rfl, rfl, rfl, rfl, rfl⟩, fun _ => Iff.rfl, fun _ _ _ _ => rfl, rfl⟩ rfl rfl) rfl dX4_init_66
