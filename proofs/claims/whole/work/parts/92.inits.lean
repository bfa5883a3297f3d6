def lX8_init (L : Nat) (p : Nat) : List zPl := [(37, L, p)]
def wX8_init (L : Nat) (p : Nat) (X : zX) : zX := (zpt (znw X (37, L, p) 39) (10, L, p) 5 (37, L, p))
def gX8_init (L : Nat) (p : Nat) (I : zMem) : zMem := (zzr (zst I (10, L, p) 0 (-1)) (37, L, p))
set_option maxRecDepth 100000 in
theorem wwX8_init_v {G0 : va_G} {cy : Nat → ClassId} {ad : zPl → Nat} {D : zPl → Prop} {P : zRf} {tc tv : Nat} {A : Nat → Prop} {Q : zMT → Array Value → State → Outcome → State → Prop} {k0 n0 z : Nat} {L : Nat} {p : Nat} (h : ∀ i q, (lX8_init L p)[i]? = some q → ad q = z + i) : zGw (G0, cy, ad, D, P, tc, tv, A, Q, k0, n0, z) (wX8_init L p (G0, cy, ad, D, P, tc, tv, A, Q, k0, n0, z)) := (zGw.pt (zGw.nw zGw.rf (h 0 _ rfl)))
theorem wwX8_init {X : zX} {L : Nat} {p : Nat} (h : zAt X (zz X) (lX8_init L p)) : zGw X (wX8_init L p X) := by
  obtain ⟨G0, cy, ad, D, P, tc, tv, A, Q, k0, n0, z⟩ := X
  exact wwX8_init_v h
set_option maxRecDepth 100000 in
theorem weX8_init {X : zX} {L : Nat} {p : Nat} : zE X (wX8_init L p X) 1 39 := (zE.pt (zE.nw zE.rf))
set_option maxRecDepth 100000 in
theorem smX8_init {A B : zX} {L : Nat} {p : Nat} (h : zSm A B) : zSm (wX8_init L p A) (wX8_init L p B) := (zSm.pt (zSm.nw h))
set_option maxRecDepth 100000 in
theorem kX8_init_v {G0 : va_G} {cy : Nat → ClassId} {ad : zPl → Nat} {D : zPl → Prop} {P : zRf} {tc tv : Nat} {A : Nat → Prop} {Q : zMT → Array Value → State → Outcome → State → Prop} {k0 n0 z : Nat} {L : Nat} {p : Nat} {I : zMem} (h : ∀ i q, (lX8_init L p)[i]? = some q → ad q = z + i) (hq : D (10, L, p))  : zCk (G0, cy, ad, D, P, tc, tv, A, Q, k0, n0, z) (wX8_init L p (G0, cy, ad, D, P, tc, tv, A, Q, k0, n0, z)) mX8_init yX8_init [.ref (ad (10, L, p))] I (none, gX8_init L p I) := by
  refine zCk_of (by decide +kernel) rfl rfl (fun _ => rfl) ?_
  have hA : zNA (zK (G0, cy, ad, D, P, tc, tv, A, Q, k0, n0, z) (wX8_init L p (G0, cy, ad, D, P, tc, tv, A, Q, k0, n0, z))) := fun a h => Or.inr h
  refine zW_aload_n (a := ad (10, L, p)) 0 dX8_init_0 rfl ?_
  refine zW_obj oj_RX8_3 rfl dX8_init_1 ?_
  refine zW_aload_n (a := ad (10, L, p)) 0 dX8_init_4 rfl ?_
  refine zW_iconst dX8_init_5 ?_
  refine zU_put (q := (10, L, p)) (ad (10, L, p)) lj_RX8_9 hq rfl rfl (zn_int _) rfl dX8_init_6 ?_
  refine zW_aload_n (a := ad (10, L, p)) 0 dX8_init_9 rfl ?_
  refine zW_bipush dX8_init_10 rfl ?_
  refine zU_newI (q := (37, L, p)) (N := 39) (ad (37, L, p)) aj_int rfl rfl rfl rfl (h 0 _ rfl) hA ⟨Nat.le_of_ble_eq_true rfl, Nat.le_of_ble_eq_true rfl⟩ dX8_init_12 (fun hA => ?_)
  refine zU_putR (q := (10, L, p)) (q2 := (37, L, p)) (ad (10, L, p)) (ad (37, L, p)) ⟨rfl, by decide⟩ lj_RX8_15 (fun _ _ _ h => by cases h; rfl) (Or.inr (hq)) rfl rfl (fun _ => ⟨rfl, rfl⟩) rfl rfl hA dX8_init_14 (fun hA => ?_)
  exact zW_vret (zHk (B := zB (G0, cy, ad, D, P, tc, tv, A, Q, k0, n0, z)) (smX8_init (zSm.K)) rfl rfl) rfl dX8_init_17
theorem kX8_init {X : zX} {L : Nat} {p : Nat} {I : zMem} (h : zAt X (zz X) (lX8_init L p)) (hq : zDom X (10, L, p))  : zCk X (wX8_init L p X) mX8_init yX8_init [.ref (zad X (10, L, p))] I (none, gX8_init L p I) := by
  obtain ⟨G0, cy, ad, D, P, tc, tv, A, Q, k0, n0, z⟩ := X
  exact kX8_init_v h hq
def lX3_init (L : Nat) (p : Nat) : List zPl := [(41, L, p)]
def wX3_init (L : Nat) (p : Nat) (X : zX) : zX := (zpt (znw X (41, L, p) 39) (11, L, p) 3 (41, L, p))
def gX3_init (L : Nat) (p : Nat) (I : zMem) : zMem := (zzr (zst I (11, L, p) 0 (-1)) (41, L, p))
set_option maxRecDepth 100000 in
theorem wwX3_init_v {G0 : va_G} {cy : Nat → ClassId} {ad : zPl → Nat} {D : zPl → Prop} {P : zRf} {tc tv : Nat} {A : Nat → Prop} {Q : zMT → Array Value → State → Outcome → State → Prop} {k0 n0 z : Nat} {L : Nat} {p : Nat} (h : ∀ i q, (lX3_init L p)[i]? = some q → ad q = z + i) : zGw (G0, cy, ad, D, P, tc, tv, A, Q, k0, n0, z) (wX3_init L p (G0, cy, ad, D, P, tc, tv, A, Q, k0, n0, z)) := (zGw.pt (zGw.nw zGw.rf (h 0 _ rfl)))
theorem wwX3_init {X : zX} {L : Nat} {p : Nat} (h : zAt X (zz X) (lX3_init L p)) : zGw X (wX3_init L p X) := by
  obtain ⟨G0, cy, ad, D, P, tc, tv, A, Q, k0, n0, z⟩ := X
  exact wwX3_init_v h
set_option maxRecDepth 100000 in
theorem weX3_init {X : zX} {L : Nat} {p : Nat} : zE X (wX3_init L p X) 1 39 := (zE.pt (zE.nw zE.rf))
set_option maxRecDepth 100000 in
theorem smX3_init {A B : zX} {L : Nat} {p : Nat} (h : zSm A B) : zSm (wX3_init L p A) (wX3_init L p B) := (zSm.pt (zSm.nw h))
set_option maxRecDepth 100000 in
theorem kX3_init_v {G0 : va_G} {cy : Nat → ClassId} {ad : zPl → Nat} {D : zPl → Prop} {P : zRf} {tc tv : Nat} {A : Nat → Prop} {Q : zMT → Array Value → State → Outcome → State → Prop} {k0 n0 z : Nat} {L : Nat} {p : Nat} {I : zMem} (h : ∀ i q, (lX3_init L p)[i]? = some q → ad q = z + i) (hq : D (11, L, p))  : zCk (G0, cy, ad, D, P, tc, tv, A, Q, k0, n0, z) (wX3_init L p (G0, cy, ad, D, P, tc, tv, A, Q, k0, n0, z)) mX3_init yX3_init [.ref (ad (11, L, p))] I (none, gX3_init L p I) := by
  refine zCk_of (by decide +kernel) rfl rfl (fun _ => rfl) ?_
  have hA : zNA (zK (G0, cy, ad, D, P, tc, tv, A, Q, k0, n0, z) (wX3_init L p (G0, cy, ad, D, P, tc, tv, A, Q, k0, n0, z))) := fun a h => Or.inr h
  refine zW_aload_n (a := ad (11, L, p)) 0 dX3_init_0 rfl ?_
  refine zW_obj oj_RX3_3 rfl dX3_init_1 ?_
  refine zW_aload_n (a := ad (11, L, p)) 0 dX3_init_4 rfl ?_
  refine zW_iconst dX3_init_5 ?_
  refine zU_put (q := (11, L, p)) (ad (11, L, p)) lj_RX3_9 hq rfl rfl (zn_int _) rfl dX3_init_6 ?_
  refine zW_aload_n (a := ad (11, L, p)) 0 dX3_init_9 rfl ?_
  refine zW_bipush dX3_init_10 rfl ?_
  refine zU_newI (q := (41, L, p)) (N := 39) (ad (41, L, p)) aj_int rfl rfl rfl rfl (h 0 _ rfl) hA ⟨Nat.le_of_ble_eq_true rfl, Nat.le_of_ble_eq_true rfl⟩ dX3_init_12 (fun hA => ?_)
  refine zU_putR (q := (11, L, p)) (q2 := (41, L, p)) (ad (11, L, p)) (ad (41, L, p)) ⟨rfl, by decide⟩ lj_RX3_15 (fun _ _ _ h => by cases h; rfl) (Or.inr (hq)) rfl rfl (fun _ => ⟨rfl, rfl⟩) rfl rfl hA dX3_init_14 (fun hA => ?_)
  exact zW_vret (zHk (B := zB (G0, cy, ad, D, P, tc, tv, A, Q, k0, n0, z)) (smX3_init (zSm.K)) rfl rfl) rfl dX3_init_17
theorem kX3_init {X : zX} {L : Nat} {p : Nat} {I : zMem} (h : zAt X (zz X) (lX3_init L p)) (hq : zDom X (11, L, p))  : zCk X (wX3_init L p X) mX3_init yX3_init [.ref (zad X (11, L, p))] I (none, gX3_init L p I) := by
  obtain ⟨G0, cy, ad, D, P, tc, tv, A, Q, k0, n0, z⟩ := X
  exact kX3_init_v h hq
def lX7_init (L : Nat) : List zPl := [(32, L, 0), (33, L, 0), (34, L, 0), (35, L, 0), (36, L, 0), (10, L, 0), (37, L, 0), (10, L, 1), (37, L, 1), (10, L, 2), (37, L, 2), (10, L, 3), (37, L, 3), (10, L, 4), (37, L, 4), (10, L, 5), (37, L, 5), (10, L, 6), (37, L, 6), (10, L, 7), (37, L, 7)]
def wX7_init (L : Nat) (X : zX) : zX := (zpt (wX8_init L 7 (znw (zpt (wX8_init L 6 (znw (zpt (wX8_init L 5 (znw (zpt (wX8_init L 4 (znw (zpt (wX8_init L 3 (znw (zpt (wX8_init L 2 (znw (zpt (wX8_init L 1 (znw (zpt (wX8_init L 0 (znw (zpt (znw (zpt (znw (zpt (znw (zpt (znw (zpt (znw X (32, L, 0) 8) (8, L, 0) 0 (32, L, 0)) (33, L, 0) 20) (8, L, 0) 1 (33, L, 0)) (34, L, 0) 8) (8, L, 0) 2 (34, L, 0)) (35, L, 0) 8) (8, L, 0) 3 (35, L, 0)) (36, L, 0) 8) (8, L, 0) 4 (36, L, 0)) (10, L, 0) 6)) (32, L, 0) 0 (10, L, 0)) (10, L, 1) 6)) (32, L, 0) 1 (10, L, 1)) (10, L, 2) 6)) (32, L, 0) 2 (10, L, 2)) (10, L, 3) 6)) (32, L, 0) 3 (10, L, 3)) (10, L, 4) 6)) (32, L, 0) 4 (10, L, 4)) (10, L, 5) 6)) (32, L, 0) 5 (10, L, 5)) (10, L, 6) 6)) (32, L, 0) 6 (10, L, 6)) (10, L, 7) 6)) (32, L, 0) 7 (10, L, 7))
def gX7_init (L : Nat) (I : zMem) : zMem := (gX8_init L 7 (zzr (gX8_init L 6 (zzr (gX8_init L 5 (zzr (gX8_init L 4 (zzr (gX8_init L 3 (zzr (gX8_init L 2 (zzr (gX8_init L 1 (zzr (gX8_init L 0 (zzr (zzr (zzr (zzr (zzr (zzr I (32, L, 0)) (33, L, 0)) (34, L, 0)) (35, L, 0)) (36, L, 0)) (10, L, 0))) (10, L, 1))) (10, L, 2))) (10, L, 3))) (10, L, 4))) (10, L, 5))) (10, L, 6))) (10, L, 7)))
set_option maxRecDepth 100000 in
theorem wwX7_init_v {G0 : va_G} {cy : Nat → ClassId} {ad : zPl → Nat} {D : zPl → Prop} {P : zRf} {tc tv : Nat} {A : Nat → Prop} {Q : zMT → Array Value → State → Outcome → State → Prop} {k0 n0 z : Nat} {L : Nat} (h : ∀ i q, (lX7_init L)[i]? = some q → ad q = z + i) : zGw (G0, cy, ad, D, P, tc, tv, A, Q, k0, n0, z) (wX7_init L (G0, cy, ad, D, P, tc, tv, A, Q, k0, n0, z)) := (zGw.pt (zGw.tr (zGw.nw (zGw.pt (zGw.tr (zGw.nw (zGw.pt (zGw.tr (zGw.nw (zGw.pt (zGw.tr (zGw.nw (zGw.pt (zGw.tr (zGw.nw (zGw.pt (zGw.tr (zGw.nw (zGw.pt (zGw.tr (zGw.nw (zGw.pt (zGw.tr (zGw.nw (zGw.pt (zGw.nw (zGw.pt (zGw.nw (zGw.pt (zGw.nw (zGw.pt (zGw.nw (zGw.pt (zGw.nw zGw.rf (h 0 _ rfl))) (h 1 _ rfl))) (h 2 _ rfl))) (h 3 _ rfl))) (h 4 _ rfl))) (h 5 _ rfl)) (wwX8_init (zAt.of (n := 6) (l2 := lX8_init L 0) rfl rfl h rfl)))) (h 7 _ rfl)) (wwX8_init (zAt.of (n := 8) (l2 := lX8_init L 1) rfl rfl h rfl)))) (h 9 _ rfl)) (wwX8_init (zAt.of (n := 10) (l2 := lX8_init L 2) rfl rfl h rfl)))) (h 11 _ rfl)) (wwX8_init (zAt.of (n := 12) (l2 := lX8_init L 3) rfl rfl h rfl)))) (h 13 _ rfl)) (wwX8_init (zAt.of (n := 14) (l2 := lX8_init L 4) rfl rfl h rfl)))) (h 15 _ rfl)) (wwX8_init (zAt.of (n := 16) (l2 := lX8_init L 5) rfl rfl h rfl)))) (h 17 _ rfl)) (wwX8_init (zAt.of (n := 18) (l2 := lX8_init L 6) rfl rfl h rfl)))) (h 19 _ rfl)) (wwX8_init (zAt.of (n := 20) (l2 := lX8_init L 7) rfl rfl h rfl))))
theorem wwX7_init {X : zX} {L : Nat} (h : zAt X (zz X) (lX7_init L)) : zGw X (wX7_init L X) := by
  obtain ⟨G0, cy, ad, D, P, tc, tv, A, Q, k0, n0, z⟩ := X
  exact wwX7_init_v h
set_option maxRecDepth 100000 in
theorem weX7_init {X : zX} {L : Nat} : zE X (wX7_init L X) 21 412 := (zE.pt (zE.tr (zE.nw (zE.pt (zE.tr (zE.nw (zE.pt (zE.tr (zE.nw (zE.pt (zE.tr (zE.nw (zE.pt (zE.tr (zE.nw (zE.pt (zE.tr (zE.nw (zE.pt (zE.tr (zE.nw (zE.pt (zE.tr (zE.nw (zE.pt (zE.nw (zE.pt (zE.nw (zE.pt (zE.nw (zE.pt (zE.nw (zE.pt (zE.nw zE.rf))))))))))) weX8_init))) weX8_init))) weX8_init))) weX8_init))) weX8_init))) weX8_init))) weX8_init))) weX8_init))
set_option maxRecDepth 100000 in
theorem smX7_init {A B : zX} {L : Nat} (h : zSm A B) : zSm (wX7_init L A) (wX7_init L B) := (zSm.pt (smX8_init (zSm.nw (zSm.pt (smX8_init (zSm.nw (zSm.pt (smX8_init (zSm.nw (zSm.pt (smX8_init (zSm.nw (zSm.pt (smX8_init (zSm.nw (zSm.pt (smX8_init (zSm.nw (zSm.pt (smX8_init (zSm.nw (zSm.pt (smX8_init (zSm.nw (zSm.pt (zSm.nw (zSm.pt (zSm.nw (zSm.pt (zSm.nw (zSm.pt (zSm.nw (zSm.pt (zSm.nw h))))))))))))))))))))))))))))))))))
set_option maxRecDepth 100000 in
theorem kX7_init_v {G0 : va_G} {cy : Nat → ClassId} {ad : zPl → Nat} {D : zPl → Prop} {P : zRf} {tc tv : Nat} {A : Nat → Prop} {Q : zMT → Array Value → State → Outcome → State → Prop} {k0 n0 z : Nat} {L : Nat} {I : zMem} (h : ∀ i q, (lX7_init L)[i]? = some q → ad q = z + i) (hq : D (8, L, 0))  : zCk (G0, cy, ad, D, P, tc, tv, A, Q, k0, n0, z) (wX7_init L (G0, cy, ad, D, P, tc, tv, A, Q, k0, n0, z)) mX7_init yX7_init [.ref (ad (8, L, 0))] I (none, gX7_init L I) := by
  refine zCk_of (by decide +kernel) rfl rfl (fun _ => rfl) ?_
  have hA : zNA (zK (G0, cy, ad, D, P, tc, tv, A, Q, k0, n0, z) (wX7_init L (G0, cy, ad, D, P, tc, tv, A, Q, k0, n0, z))) := fun a h => Or.inr h
  refine zW_aload_n (a := ad (8, L, 0)) 0 dX7_init_0 rfl ?_
  refine zW_obj oj_RX7_3 rfl dX7_init_1 ?_
  refine zW_aload_n (a := ad (8, L, 0)) 0 dX7_init_4 rfl ?_
  refine zW_bipush dX7_init_5 rfl ?_
  refine zU_newR (q := (32, L, 0)) (N := 8) (ad (32, L, 0)) 6 cj_RX7_9 (fun U h => h.2.2.2.2.2.2.2.2.2.2.2.1) rfl rfl rfl rfl rfl (h 0 _ rfl) hA ⟨Nat.le_of_ble_eq_true rfl, Nat.le_of_ble_eq_true rfl⟩ dX7_init_7 (fun hA => ?_)
  refine zU_putR (q := (8, L, 0)) (q2 := (32, L, 0)) (ad (8, L, 0)) (ad (32, L, 0)) ⟨rfl, by decide⟩ lj_RX7_11 (fun _ _ _ h => by cases h; rfl) (Or.inr (hq)) rfl rfl (fun _ => ⟨rfl, rfl⟩) rfl rfl hA dX7_init_10 (fun hA => ?_)
  refine zW_aload_n (a := ad (8, L, 0)) 0 dX7_init_13 rfl ?_
  refine zW_bipush dX7_init_14 rfl ?_
  refine zU_newI (q := (33, L, 0)) (N := 20) (ad (33, L, 0)) aj_int rfl rfl rfl rfl (h 1 _ rfl) hA ⟨Nat.le_of_ble_eq_true rfl, Nat.le_of_ble_eq_true rfl⟩ dX7_init_16 (fun hA => ?_)
  refine zU_putR (q := (8, L, 0)) (q2 := (33, L, 0)) (ad (8, L, 0)) (ad (33, L, 0)) ⟨rfl, by decide⟩ lj_RX7_17 (fun _ _ _ h => by cases h; rfl) (Or.inr ((Or.inr (hq)))) rfl rfl (fun _ => ⟨rfl, rfl⟩) rfl rfl hA dX7_init_18 (fun hA => ?_)
  refine zW_aload_n (a := ad (8, L, 0)) 0 dX7_init_21 rfl ?_
  refine zW_bipush dX7_init_22 rfl ?_
  refine zU_newI (q := (34, L, 0)) (N := 8) (ad (34, L, 0)) aj_int rfl rfl rfl rfl (h 2 _ rfl) hA ⟨Nat.le_of_ble_eq_true rfl, Nat.le_of_ble_eq_true rfl⟩ dX7_init_24 (fun hA => ?_)
  refine zU_putR (q := (8, L, 0)) (q2 := (34, L, 0)) (ad (8, L, 0)) (ad (34, L, 0)) ⟨rfl, by decide⟩ lj_RX7_21 (fun _ _ _ h => by cases h; rfl) (Or.inr ((Or.inr ((Or.inr (hq)))))) rfl rfl (fun _ => ⟨rfl, rfl⟩) rfl rfl hA dX7_init_26 (fun hA => ?_)
  refine zW_aload_n (a := ad (8, L, 0)) 0 dX7_init_29 rfl ?_
  refine zW_bipush dX7_init_30 rfl ?_
  refine zU_newI (q := (35, L, 0)) (N := 8) (ad (35, L, 0)) aj_int rfl rfl rfl rfl (h 3 _ rfl) hA ⟨Nat.le_of_ble_eq_true rfl, Nat.le_of_ble_eq_true rfl⟩ dX7_init_32 (fun hA => ?_)
  refine zU_putR (q := (8, L, 0)) (q2 := (35, L, 0)) (ad (8, L, 0)) (ad (35, L, 0)) ⟨rfl, by decide⟩ lj_RX7_24 (fun _ _ _ h => by cases h; rfl) (Or.inr ((Or.inr ((Or.inr ((Or.inr (hq)))))))) rfl rfl (fun _ => ⟨rfl, rfl⟩) rfl rfl hA dX7_init_34 (fun hA => ?_)
  refine zW_aload_n (a := ad (8, L, 0)) 0 dX7_init_37 rfl ?_
  refine zW_bipush dX7_init_38 rfl ?_
  refine zU_newI (q := (36, L, 0)) (N := 8) (ad (36, L, 0)) aj_int rfl rfl rfl rfl (h 4 _ rfl) hA ⟨Nat.le_of_ble_eq_true rfl, Nat.le_of_ble_eq_true rfl⟩ dX7_init_40 (fun hA => ?_)
  refine zU_putR (q := (8, L, 0)) (q2 := (36, L, 0)) (ad (8, L, 0)) (ad (36, L, 0)) ⟨rfl, by decide⟩ lj_RX7_27 (fun _ _ _ h => by cases h; rfl) (Or.inr ((Or.inr ((Or.inr ((Or.inr ((Or.inr (hq)))))))))) rfl rfl (fun _ => ⟨rfl, rfl⟩) rfl rfl hA dX7_init_42 (fun hA => ?_)
  refine zW_iconst dX7_init_45 ?_
  refine zW_istore_n (lv' := [(1, vi 0), (0, .ref (ad (8, L, 0)))]) dX7_init_46 rfl rfl ?_
  refine zW_iload_n 0 dX7_init_47 rfl ?_
  refine zW_bipush dX7_init_48 rfl ?_
  refine zW_icmp_ge 72 dX7_init_50 rfl (fun c => absurd c (by decide +kernel)) (fun _ => ?_)
  refine zW_aload_n (a := ad (8, L, 0)) 1 dX7_init_53 rfl ?_
  refine zU_getR (q := (8, L, 0)) (q' := (32, L, 0)) (ad (8, L, 0)) (ad (32, L, 0)) lj_RX7_11 (Or.inr ((Or.inr ((Or.inr ((Or.inr ((Or.inr (hq)))))))))) rfl rfl (by simp [zP_pt, zP_nw]) rfl rfl dX7_init_54 ?_
  refine zW_iload_n 0 dX7_init_57 rfl ?_
  refine zU_new (q := (10, L, 0)) (ad (10, L, 0)) nj_RX7_9 rfl rfl (h 5 _ rfl) hA ⟨Nat.le_of_ble_eq_true rfl, Nat.le_of_ble_eq_true rfl⟩ dX7_init_58 (fun hA => ?_)
  refine zW_dup dX7_init_61 rfl ?_
  refine zU_ini (q := (10, L, 0)) (As := []) (ad (10, L, 0)) (kX8_init (zAt.of (n := 6) (l2 := lX8_init L 0) rfl rfl h rfl) (Or.inl rfl)) (Or.inr ⟨RX11, fun U h => h.2.2.2.2.2.1⟩) ij_X8_init (wwX8_init (zAt.of (n := 6) (l2 := lX8_init L 0) rfl rfl h rfl)) weX8_init ⟨rfl, rfl⟩ rfl hA ⟨Nat.le_of_ble_eq_true rfl, Nat.le_of_ble_eq_true rfl⟩ rfl rfl rfl rfl dX7_init_62 (fun hA => ?_)
  refine zU_aast (qa := (32, L, 0)) (qv := (10, L, 0)) 6 0 (ad (32, L, 0)) (ad (10, L, 0)) (by decide +kernel) rfl (show vwCl[8]? = some (RX8, TX8, 6) from rfl) (Or.inr ((Or.inr ((Or.inr ((Or.inr ((Or.inr ((Or.inr (Or.inl rfl)))))))))))) rfl rfl (Or.inr (Or.inl rfl)) rfl (by decide +kernel) rfl rfl hA dX7_init_65 (fun hA => ?_)
  refine zW_iinc 0 (lv' := [(1, vi 1), (0, .ref (ad (8, L, 0)))]) dX7_init_66 rfl rfl rfl ?_
  refine zW_goto 47 dX7_init_69 rfl ?_
  refine zW_iload_n 0 dX7_init_47 rfl ?_
  refine zW_bipush dX7_init_48 rfl ?_
  refine zW_icmp_ge 72 dX7_init_50 rfl (fun c => absurd c (by decide +kernel)) (fun _ => ?_)
  refine zW_aload_n (a := ad (8, L, 0)) 1 dX7_init_53 rfl ?_
  refine zU_getR (q := (8, L, 0)) (q' := (32, L, 0)) (ad (8, L, 0)) (ad (32, L, 0)) lj_RX7_11 (Or.inr ((Or.inr ((Or.inr ((Or.inr ((Or.inr ((Or.inr ((Or.inr (hq)))))))))))))) rfl rfl (by simp [zP_pt, zP_nw, wX8_init]) rfl rfl dX7_init_54 ?_
  refine zW_iload_n 0 dX7_init_57 rfl ?_
  refine zU_new (q := (10, L, 1)) (ad (10, L, 1)) nj_RX7_9 rfl rfl (h 7 _ rfl) hA ⟨Nat.le_of_ble_eq_true rfl, Nat.le_of_ble_eq_true rfl⟩ dX7_init_58 (fun hA => ?_)
  refine zW_dup dX7_init_61 rfl ?_
  refine zU_ini (q := (10, L, 1)) (As := []) (ad (10, L, 1)) (kX8_init (zAt.of (n := 8) (l2 := lX8_init L 1) rfl rfl h rfl) (Or.inl rfl)) (Or.inr ⟨RX11, fun U h => h.2.2.2.2.2.1⟩) ij_X8_init (wwX8_init (zAt.of (n := 8) (l2 := lX8_init L 1) rfl rfl h rfl)) weX8_init ⟨rfl, rfl⟩ rfl hA ⟨Nat.le_of_ble_eq_true rfl, Nat.le_of_ble_eq_true rfl⟩ rfl rfl rfl rfl dX7_init_62 (fun hA => ?_)
  refine zU_aast (qa := (32, L, 0)) (qv := (10, L, 1)) 6 1 (ad (32, L, 0)) (ad (10, L, 1)) (by decide +kernel) rfl (show vwCl[8]? = some (RX8, TX8, 6) from rfl) (Or.inr ((Or.inr ((Or.inr ((Or.inr ((Or.inr ((Or.inr ((Or.inr ((Or.inr (Or.inl rfl)))))))))))))))) rfl rfl (Or.inr (Or.inl rfl)) rfl (by decide +kernel) rfl rfl hA dX7_init_65 (fun hA => ?_)
  refine zW_iinc 0 (lv' := [(1, vi 2), (0, .ref (ad (8, L, 0)))]) dX7_init_66 rfl rfl rfl ?_
  refine zW_goto 47 dX7_init_69 rfl ?_
  refine zW_iload_n 0 dX7_init_47 rfl ?_
  refine zW_bipush dX7_init_48 rfl ?_
  refine zW_icmp_ge 72 dX7_init_50 rfl (fun c => absurd c (by decide +kernel)) (fun _ => ?_)
  refine zW_aload_n (a := ad (8, L, 0)) 1 dX7_init_53 rfl ?_
  refine zU_getR (q := (8, L, 0)) (q' := (32, L, 0)) (ad (8, L, 0)) (ad (32, L, 0)) lj_RX7_11 (Or.inr ((Or.inr ((Or.inr ((Or.inr ((Or.inr ((Or.inr ((Or.inr ((Or.inr ((Or.inr (hq)))))))))))))))))) rfl rfl (by simp [zP_pt, zP_nw, wX8_init]) rfl rfl dX7_init_54 ?_
  refine zW_iload_n 0 dX7_init_57 rfl ?_
  refine zU_new (q := (10, L, 2)) (ad (10, L, 2)) nj_RX7_9 rfl rfl (h 9 _ rfl) hA ⟨Nat.le_of_ble_eq_true rfl, Nat.le_of_ble_eq_true rfl⟩ dX7_init_58 (fun hA => ?_)
  refine zW_dup dX7_init_61 rfl ?_
  refine zU_ini (q := (10, L, 2)) (As := []) (ad (10, L, 2)) (kX8_init (zAt.of (n := 10) (l2 := lX8_init L 2) rfl rfl h rfl) (Or.inl rfl)) (Or.inr ⟨RX11, fun U h => h.2.2.2.2.2.1⟩) ij_X8_init (wwX8_init (zAt.of (n := 10) (l2 := lX8_init L 2) rfl rfl h rfl)) weX8_init ⟨rfl, rfl⟩ rfl hA ⟨Nat.le_of_ble_eq_true rfl, Nat.le_of_ble_eq_true rfl⟩ rfl rfl rfl rfl dX7_init_62 (fun hA => ?_)
  refine zU_aast (qa := (32, L, 0)) (qv := (10, L, 2)) 6 2 (ad (32, L, 0)) (ad (10, L, 2)) (by decide +kernel) rfl (show vwCl[8]? = some (RX8, TX8, 6) from rfl) (Or.inr ((Or.inr ((Or.inr ((Or.inr ((Or.inr ((Or.inr ((Or.inr ((Or.inr ((Or.inr ((Or.inr (Or.inl rfl)))))))))))))))))))) rfl rfl (Or.inr (Or.inl rfl)) rfl (by decide +kernel) rfl rfl hA dX7_init_65 (fun hA => ?_)
  refine zW_iinc 0 (lv' := [(1, vi 3), (0, .ref (ad (8, L, 0)))]) dX7_init_66 rfl rfl rfl ?_
  refine zW_goto 47 dX7_init_69 rfl ?_
  refine zW_iload_n 0 dX7_init_47 rfl ?_
  refine zW_bipush dX7_init_48 rfl ?_
  refine zW_icmp_ge 72 dX7_init_50 rfl (fun c => absurd c (by decide +kernel)) (fun _ => ?_)
  refine zW_aload_n (a := ad (8, L, 0)) 1 dX7_init_53 rfl ?_
  refine zU_getR (q := (8, L, 0)) (q' := (32, L, 0)) (ad (8, L, 0)) (ad (32, L, 0)) lj_RX7_11 (Or.inr ((Or.inr ((Or.inr ((Or.inr ((Or.inr ((Or.inr ((Or.inr ((Or.inr ((Or.inr ((Or.inr ((Or.inr (hq)))))))))))))))))))))) rfl rfl (by simp [zP_pt, zP_nw, wX8_init]) rfl rfl dX7_init_54 ?_
  refine zW_iload_n 0 dX7_init_57 rfl ?_
  refine zU_new (q := (10, L, 3)) (ad (10, L, 3)) nj_RX7_9 rfl rfl (h 11 _ rfl) hA ⟨Nat.le_of_ble_eq_true rfl, Nat.le_of_ble_eq_true rfl⟩ dX7_init_58 (fun hA => ?_)
  refine zW_dup dX7_init_61 rfl ?_
  refine zU_ini (q := (10, L, 3)) (As := []) (ad (10, L, 3)) (kX8_init (zAt.of (n := 12) (l2 := lX8_init L 3) rfl rfl h rfl) (Or.inl rfl)) (Or.inr ⟨RX11, fun U h => h.2.2.2.2.2.1⟩) ij_X8_init (wwX8_init (zAt.of (n := 12) (l2 := lX8_init L 3) rfl rfl h rfl)) weX8_init ⟨rfl, rfl⟩ rfl hA ⟨Nat.le_of_ble_eq_true rfl, Nat.le_of_ble_eq_true rfl⟩ rfl rfl rfl rfl dX7_init_62 (fun hA => ?_)
  refine zU_aast (qa := (32, L, 0)) (qv := (10, L, 3)) 6 3 (ad (32, L, 0)) (ad (10, L, 3)) (by decide +kernel) rfl (show vwCl[8]? = some (RX8, TX8, 6) from rfl) (Or.inr ((Or.inr ((Or.inr ((Or.inr ((Or.inr ((Or.inr ((Or.inr ((Or.inr ((Or.inr ((Or.inr ((Or.inr ((Or.inr (Or.inl rfl)))))))))))))))))))))))) rfl rfl (Or.inr (Or.inl rfl)) rfl (by decide +kernel) rfl rfl hA dX7_init_65 (fun hA => ?_)
  refine zW_iinc 0 (lv' := [(1, vi 4), (0, .ref (ad (8, L, 0)))]) dX7_init_66 rfl rfl rfl ?_
  refine zW_goto 47 dX7_init_69 rfl ?_
  refine zW_iload_n 0 dX7_init_47 rfl ?_
  refine zW_bipush dX7_init_48 rfl ?_
  refine zW_icmp_ge 72 dX7_init_50 rfl (fun c => absurd c (by decide +kernel)) (fun _ => ?_)
  refine zW_aload_n (a := ad (8, L, 0)) 1 dX7_init_53 rfl ?_
  refine zU_getR (q := (8, L, 0)) (q' := (32, L, 0)) (ad (8, L, 0)) (ad (32, L, 0)) lj_RX7_11 (Or.inr ((Or.inr ((Or.inr ((Or.inr ((Or.inr ((Or.inr ((Or.inr ((Or.inr ((Or.inr ((Or.inr ((Or.inr ((Or.inr ((Or.inr (hq)))))))))))))))))))))))))) rfl rfl (by simp [zP_pt, zP_nw, wX8_init]) rfl rfl dX7_init_54 ?_
  refine zW_iload_n 0 dX7_init_57 rfl ?_
  refine zU_new (q := (10, L, 4)) (ad (10, L, 4)) nj_RX7_9 rfl rfl (h 13 _ rfl) hA ⟨Nat.le_of_ble_eq_true rfl, Nat.le_of_ble_eq_true rfl⟩ dX7_init_58 (fun hA => ?_)
  refine zW_dup dX7_init_61 rfl ?_
  refine zU_ini (q := (10, L, 4)) (As := []) (ad (10, L, 4)) (kX8_init (zAt.of (n := 14) (l2 := lX8_init L 4) rfl rfl h rfl) (Or.inl rfl)) (Or.inr ⟨RX11, fun U h => h.2.2.2.2.2.1⟩) ij_X8_init (wwX8_init (zAt.of (n := 14) (l2 := lX8_init L 4) rfl rfl h rfl)) weX8_init ⟨rfl, rfl⟩ rfl hA ⟨Nat.le_of_ble_eq_true rfl, Nat.le_of_ble_eq_true rfl⟩ rfl rfl rfl rfl dX7_init_62 (fun hA => ?_)
  refine zU_aast (qa := (32, L, 0)) (qv := (10, L, 4)) 6 4 (ad (32, L, 0)) (ad (10, L, 4)) (by decide +kernel) rfl (show vwCl[8]? = some (RX8, TX8, 6) from rfl) (Or.inr ((Or.inr ((Or.inr ((Or.inr ((Or.inr ((Or.inr ((Or.inr ((Or.inr ((Or.inr ((Or.inr ((Or.inr ((Or.inr ((Or.inr ((Or.inr (Or.inl rfl)))))))))))))))))))))))))))) rfl rfl (Or.inr (Or.inl rfl)) rfl (by decide +kernel) rfl rfl hA dX7_init_65 (fun hA => ?_)
  refine zW_iinc 0 (lv' := [(1, vi 5), (0, .ref (ad (8, L, 0)))]) dX7_init_66 rfl rfl rfl ?_
  refine zW_goto 47 dX7_init_69 rfl ?_
  refine zW_iload_n 0 dX7_init_47 rfl ?_
  refine zW_bipush dX7_init_48 rfl ?_
  refine zW_icmp_ge 72 dX7_init_50 rfl (fun c => absurd c (by decide +kernel)) (fun _ => ?_)
  refine zW_aload_n (a := ad (8, L, 0)) 1 dX7_init_53 rfl ?_
  refine zU_getR (q := (8, L, 0)) (q' := (32, L, 0)) (ad (8, L, 0)) (ad (32, L, 0)) lj_RX7_11 (Or.inr ((Or.inr ((Or.inr ((Or.inr ((Or.inr ((Or.inr ((Or.inr ((Or.inr ((Or.inr ((Or.inr ((Or.inr ((Or.inr ((Or.inr ((Or.inr ((Or.inr (hq)))))))))))))))))))))))))))))) rfl rfl (by simp [zP_pt, zP_nw, wX8_init]) rfl rfl dX7_init_54 ?_
  refine zW_iload_n 0 dX7_init_57 rfl ?_
  refine zU_new (q := (10, L, 5)) (ad (10, L, 5)) nj_RX7_9 rfl rfl (h 15 _ rfl) hA ⟨Nat.le_of_ble_eq_true rfl, Nat.le_of_ble_eq_true rfl⟩ dX7_init_58 (fun hA => ?_)
  refine zW_dup dX7_init_61 rfl ?_
  refine zU_ini (q := (10, L, 5)) (As := []) (ad (10, L, 5)) (kX8_init (zAt.of (n := 16) (l2 := lX8_init L 5) rfl rfl h rfl) (Or.inl rfl)) (Or.inr ⟨RX11, fun U h => h.2.2.2.2.2.1⟩) ij_X8_init (wwX8_init (zAt.of (n := 16) (l2 := lX8_init L 5) rfl rfl h rfl)) weX8_init ⟨rfl, rfl⟩ rfl hA ⟨Nat.le_of_ble_eq_true rfl, Nat.le_of_ble_eq_true rfl⟩ rfl rfl rfl rfl dX7_init_62 (fun hA => ?_)
  refine zU_aast (qa := (32, L, 0)) (qv := (10, L, 5)) 6 5 (ad (32, L, 0)) (ad (10, L, 5)) (by decide +kernel) rfl (show vwCl[8]? = some (RX8, TX8, 6) from rfl) (Or.inr ((Or.inr ((Or.inr ((Or.inr ((Or.inr ((Or.inr ((Or.inr ((Or.inr ((Or.inr ((Or.inr ((Or.inr ((Or.inr ((Or.inr ((Or.inr ((Or.inr ((Or.inr (Or.inl rfl)))))))))))))))))))))))))))))))) rfl rfl (Or.inr (Or.inl rfl)) rfl (by decide +kernel) rfl rfl hA dX7_init_65 (fun hA => ?_)
  refine zW_iinc 0 (lv' := [(1, vi 6), (0, .ref (ad (8, L, 0)))]) dX7_init_66 rfl rfl rfl ?_
  refine zW_goto 47 dX7_init_69 rfl ?_
  refine zW_iload_n 0 dX7_init_47 rfl ?_
  refine zW_bipush dX7_init_48 rfl ?_
  refine zW_icmp_ge 72 dX7_init_50 rfl (fun c => absurd c (by decide +kernel)) (fun _ => ?_)
  refine zW_aload_n (a := ad (8, L, 0)) 1 dX7_init_53 rfl ?_
  refine zU_getR (q := (8, L, 0)) (q' := (32, L, 0)) (ad (8, L, 0)) (ad (32, L, 0)) lj_RX7_11 (Or.inr ((Or.inr ((Or.inr ((Or.inr ((Or.inr ((Or.inr ((Or.inr ((Or.inr ((Or.inr ((Or.inr ((Or.inr ((Or.inr ((Or.inr ((Or.inr ((Or.inr ((Or.inr ((Or.inr (hq)))))))))))))))))))))))))))))))))) rfl rfl (by simp [zP_pt, zP_nw, wX8_init]) rfl rfl dX7_init_54 ?_
  refine zW_iload_n 0 dX7_init_57 rfl ?_
  refine zU_new (q := (10, L, 6)) (ad (10, L, 6)) nj_RX7_9 rfl rfl (h 17 _ rfl) hA ⟨Nat.le_of_ble_eq_true rfl, Nat.le_of_ble_eq_true rfl⟩ dX7_init_58 (fun hA => ?_)
  refine zW_dup dX7_init_61 rfl ?_
  refine zU_ini (q := (10, L, 6)) (As := []) (ad (10, L, 6)) (kX8_init (zAt.of (n := 18) (l2 := lX8_init L 6) rfl rfl h rfl) (Or.inl rfl)) (Or.inr ⟨RX11, fun U h => h.2.2.2.2.2.1⟩) ij_X8_init (wwX8_init (zAt.of (n := 18) (l2 := lX8_init L 6) rfl rfl h rfl)) weX8_init ⟨rfl, rfl⟩ rfl hA ⟨Nat.le_of_ble_eq_true rfl, Nat.le_of_ble_eq_true rfl⟩ rfl rfl rfl rfl dX7_init_62 (fun hA => ?_)
  refine zU_aast (qa := (32, L, 0)) (qv := (10, L, 6)) 6 6 (ad (32, L, 0)) (ad (10, L, 6)) (by decide +kernel) rfl (show vwCl[8]? = some (RX8, TX8, 6) from rfl) (Or.inr ((Or.inr ((Or.inr ((Or.inr ((Or.inr ((Or.inr ((Or.inr ((Or.inr ((Or.inr ((Or.inr ((Or.inr ((Or.inr ((Or.inr ((Or.inr ((Or.inr ((Or.inr ((Or.inr ((Or.inr (Or.inl rfl)))))))))))))))))))))))))))))))))))) rfl rfl (Or.inr (Or.inl rfl)) rfl (by decide +kernel) rfl rfl hA dX7_init_65 (fun hA => ?_)
  refine zW_iinc 0 (lv' := [(1, vi 7), (0, .ref (ad (8, L, 0)))]) dX7_init_66 rfl rfl rfl ?_
  refine zW_goto 47 dX7_init_69 rfl ?_
  refine zW_iload_n 0 dX7_init_47 rfl ?_
  refine zW_bipush dX7_init_48 rfl ?_
  refine zW_icmp_ge 72 dX7_init_50 rfl (fun c => absurd c (by decide +kernel)) (fun _ => ?_)
  refine zW_aload_n (a := ad (8, L, 0)) 1 dX7_init_53 rfl ?_
  refine zU_getR (q := (8, L, 0)) (q' := (32, L, 0)) (ad (8, L, 0)) (ad (32, L, 0)) lj_RX7_11 (Or.inr ((Or.inr ((Or.inr ((Or.inr ((Or.inr ((Or.inr ((Or.inr ((Or.inr ((Or.inr ((Or.inr ((Or.inr ((Or.inr ((Or.inr ((Or.inr ((Or.inr ((Or.inr ((Or.inr ((Or.inr ((Or.inr (hq)))))))))))))))))))))))))))))))))))))) rfl rfl (by simp [zP_pt, zP_nw, wX8_init]) rfl rfl dX7_init_54 ?_
  refine zW_iload_n 0 dX7_init_57 rfl ?_
  refine zU_new (q := (10, L, 7)) (ad (10, L, 7)) nj_RX7_9 rfl rfl (h 19 _ rfl) hA ⟨Nat.le_of_ble_eq_true rfl, Nat.le_of_ble_eq_true rfl⟩ dX7_init_58 (fun hA => ?_)
  refine zW_dup dX7_init_61 rfl ?_
  refine zU_ini (q := (10, L, 7)) (As := []) (ad (10, L, 7)) (kX8_init (zAt.of (n := 20) (l2 := lX8_init L 7) rfl rfl h rfl) (Or.inl rfl)) (Or.inr ⟨RX11, fun U h => h.2.2.2.2.2.1⟩) ij_X8_init (wwX8_init (zAt.of (n := 20) (l2 := lX8_init L 7) rfl rfl h rfl)) weX8_init ⟨rfl, rfl⟩ rfl hA ⟨Nat.le_of_ble_eq_true rfl, Nat.le_of_ble_eq_true rfl⟩ rfl rfl rfl rfl dX7_init_62 (fun hA => ?_)
  refine zU_aast (qa := (32, L, 0)) (qv := (10, L, 7)) 6 7 (ad (32, L, 0)) (ad (10, L, 7)) (by decide +kernel) rfl (show vwCl[8]? = some (RX8, TX8, 6) from rfl) (Or.inr ((Or.inr ((Or.inr ((Or.inr ((Or.inr ((Or.inr ((Or.inr ((Or.inr ((Or.inr ((Or.inr ((Or.inr ((Or.inr ((Or.inr ((Or.inr ((Or.inr ((Or.inr ((Or.inr ((Or.inr ((Or.inr ((Or.inr (Or.inl rfl)))))))))))))))))))))))))))))))))))))))) rfl rfl (Or.inr (Or.inl rfl)) rfl (by decide +kernel) rfl rfl hA dX7_init_65 (fun hA => ?_)
  refine zW_iinc 0 (lv' := [(1, vi 8), (0, .ref (ad (8, L, 0)))]) dX7_init_66 rfl rfl rfl ?_
  refine zW_goto 47 dX7_init_69 rfl ?_
  refine zW_iload_n 0 dX7_init_47 rfl ?_
  refine zW_bipush dX7_init_48 rfl ?_
  refine zW_icmp_ge 72 dX7_init_50 rfl (fun _ => ?_) (fun c => absurd (by decide +kernel) c)
  exact zW_vret (zHk (B := zB (G0, cy, ad, D, P, tc, tv, A, Q, k0, n0, z)) (smX7_init (zSm.K)) rfl rfl) rfl dX7_init_72
theorem kX7_init {X : zX} {L : Nat} {I : zMem} (h : zAt X (zz X) (lX7_init L)) (hq : zDom X (8, L, 0))  : zCk X (wX7_init L X) mX7_init yX7_init [.ref (zad X (8, L, 0))] I (none, gX7_init L I) := by
  obtain ⟨G0, cy, ad, D, P, tc, tv, A, Q, k0, n0, z⟩ := X
  exact kX7_init_v h hq
def lX5_init (L : Nat) : List zPl := [(38, L, 0), (39, L, 0), (40, L, 0), (11, L, 0), (41, L, 0), (11, L, 1), (41, L, 1), (11, L, 2), (41, L, 2), (11, L, 3), (41, L, 3), (11, L, 4), (41, L, 4), (11, L, 5), (41, L, 5), (11, L, 6), (41, L, 6), (11, L, 7), (41, L, 7)]
def wX5_init (L : Nat) (X : zX) : zX := (zpt (wX3_init L 7 (znw (zpt (wX3_init L 6 (znw (zpt (wX3_init L 5 (znw (zpt (wX3_init L 4 (znw (zpt (wX3_init L 3 (znw (zpt (wX3_init L 2 (znw (zpt (wX3_init L 1 (znw (zpt (wX3_init L 0 (znw (zpt (znw (zpt (znw (zpt (znw X (38, L, 0) 8) (9, L, 0) 0 (38, L, 0)) (39, L, 0) 8) (9, L, 0) 1 (39, L, 0)) (40, L, 0) 256) (9, L, 0) 2 (40, L, 0)) (11, L, 0) 4)) (38, L, 0) 0 (11, L, 0)) (11, L, 1) 4)) (38, L, 0) 1 (11, L, 1)) (11, L, 2) 4)) (38, L, 0) 2 (11, L, 2)) (11, L, 3) 4)) (38, L, 0) 3 (11, L, 3)) (11, L, 4) 4)) (38, L, 0) 4 (11, L, 4)) (11, L, 5) 4)) (38, L, 0) 5 (11, L, 5)) (11, L, 6) 4)) (38, L, 0) 6 (11, L, 6)) (11, L, 7) 4)) (38, L, 0) 7 (11, L, 7))
def gX5_init (L : Nat) (I : zMem) : zMem := (zmp (gX3_init L 7 (zzr (gX3_init L 6 (zzr (gX3_init L 5 (zzr (gX3_init L 4 (zzr (gX3_init L 3 (zzr (gX3_init L 2 (zzr (gX3_init L 1 (zzr (gX3_init L 0 (zzr (zzr (zzr (zzr I (38, L, 0)) (39, L, 0)) (40, L, 0)) (11, L, 0))) (11, L, 1))) (11, L, 2))) (11, L, 3))) (11, L, 4))) (11, L, 5))) (11, L, 6))) (11, L, 7))) (39, L, 0) 8 (fun _ => (-1)))
set_option maxRecDepth 100000 in
theorem wwX5_init_v {G0 : va_G} {cy : Nat → ClassId} {ad : zPl → Nat} {D : zPl → Prop} {P : zRf} {tc tv : Nat} {A : Nat → Prop} {Q : zMT → Array Value → State → Outcome → State → Prop} {k0 n0 z : Nat} {L : Nat} (h : ∀ i q, (lX5_init L)[i]? = some q → ad q = z + i) : zGw (G0, cy, ad, D, P, tc, tv, A, Q, k0, n0, z) (wX5_init L (G0, cy, ad, D, P, tc, tv, A, Q, k0, n0, z)) := (zGw.pt (zGw.tr (zGw.nw (zGw.pt (zGw.tr (zGw.nw (zGw.pt (zGw.tr (zGw.nw (zGw.pt (zGw.tr (zGw.nw (zGw.pt (zGw.tr (zGw.nw (zGw.pt (zGw.tr (zGw.nw (zGw.pt (zGw.tr (zGw.nw (zGw.pt (zGw.tr (zGw.nw (zGw.pt (zGw.nw (zGw.pt (zGw.nw (zGw.pt (zGw.nw zGw.rf (h 0 _ rfl))) (h 1 _ rfl))) (h 2 _ rfl))) (h 3 _ rfl)) (wwX3_init (zAt.of (n := 4) (l2 := lX3_init L 0) rfl rfl h rfl)))) (h 5 _ rfl)) (wwX3_init (zAt.of (n := 6) (l2 := lX3_init L 1) rfl rfl h rfl)))) (h 7 _ rfl)) (wwX3_init (zAt.of (n := 8) (l2 := lX3_init L 2) rfl rfl h rfl)))) (h 9 _ rfl)) (wwX3_init (zAt.of (n := 10) (l2 := lX3_init L 3) rfl rfl h rfl)))) (h 11 _ rfl)) (wwX3_init (zAt.of (n := 12) (l2 := lX3_init L 4) rfl rfl h rfl)))) (h 13 _ rfl)) (wwX3_init (zAt.of (n := 14) (l2 := lX3_init L 5) rfl rfl h rfl)))) (h 15 _ rfl)) (wwX3_init (zAt.of (n := 16) (l2 := lX3_init L 6) rfl rfl h rfl)))) (h 17 _ rfl)) (wwX3_init (zAt.of (n := 18) (l2 := lX3_init L 7) rfl rfl h rfl))))
theorem wwX5_init {X : zX} {L : Nat} (h : zAt X (zz X) (lX5_init L)) : zGw X (wX5_init L X) := by
  obtain ⟨G0, cy, ad, D, P, tc, tv, A, Q, k0, n0, z⟩ := X
  exact wwX5_init_v h
set_option maxRecDepth 100000 in
theorem weX5_init {X : zX} {L : Nat} : zE X (wX5_init L X) 19 616 := (zE.pt (zE.tr (zE.nw (zE.pt (zE.tr (zE.nw (zE.pt (zE.tr (zE.nw (zE.pt (zE.tr (zE.nw (zE.pt (zE.tr (zE.nw (zE.pt (zE.tr (zE.nw (zE.pt (zE.tr (zE.nw (zE.pt (zE.tr (zE.nw (zE.pt (zE.nw (zE.pt (zE.nw (zE.pt (zE.nw zE.rf))))))) weX3_init))) weX3_init))) weX3_init))) weX3_init))) weX3_init))) weX3_init))) weX3_init))) weX3_init))
set_option maxRecDepth 100000 in
theorem smX5_init {A B : zX} {L : Nat} (h : zSm A B) : zSm (wX5_init L A) (wX5_init L B) := (zSm.pt (smX3_init (zSm.nw (zSm.pt (smX3_init (zSm.nw (zSm.pt (smX3_init (zSm.nw (zSm.pt (smX3_init (zSm.nw (zSm.pt (smX3_init (zSm.nw (zSm.pt (smX3_init (zSm.nw (zSm.pt (smX3_init (zSm.nw (zSm.pt (smX3_init (zSm.nw (zSm.pt (zSm.nw (zSm.pt (zSm.nw (zSm.pt (zSm.nw h))))))))))))))))))))))))))))))
set_option maxRecDepth 100000 in
theorem kX5_init_v {G0 : va_G} {cy : Nat → ClassId} {ad : zPl → Nat} {D : zPl → Prop} {P : zRf} {tc tv : Nat} {A : Nat → Prop} {Q : zMT → Array Value → State → Outcome → State → Prop} {k0 n0 z : Nat} {L : Nat} {I : zMem} (h : ∀ i q, (lX5_init L)[i]? = some q → ad q = z + i) (hq : D (9, L, 0))  : zCk (G0, cy, ad, D, P, tc, tv, A, Q, k0, n0, z) (wX5_init L (G0, cy, ad, D, P, tc, tv, A, Q, k0, n0, z)) mX5_init yX5_init [.ref (ad (9, L, 0))] I (none, gX5_init L I) := by
  refine zCk_of (by decide +kernel) rfl rfl (fun _ => rfl) ?_
  have hA : zNA (zK (G0, cy, ad, D, P, tc, tv, A, Q, k0, n0, z) (wX5_init L (G0, cy, ad, D, P, tc, tv, A, Q, k0, n0, z))) := fun a h => Or.inr h
  refine zW_aload_n (a := ad (9, L, 0)) 0 dX5_init_0 rfl ?_
  refine zW_obj oj_RX5_3 rfl dX5_init_1 ?_
  refine zW_aload_n (a := ad (9, L, 0)) 0 dX5_init_4 rfl ?_
  refine zW_bipush dX5_init_5 rfl ?_
  refine zU_newR (q := (38, L, 0)) (N := 8) (ad (38, L, 0)) 4 cj_RX5_9 (fun U h => h.2.2.2.2.2.2.2.2.2.1) rfl rfl rfl rfl rfl (h 0 _ rfl) hA ⟨Nat.le_of_ble_eq_true rfl, Nat.le_of_ble_eq_true rfl⟩ dX5_init_7 (fun hA => ?_)
  refine zU_putR (q := (9, L, 0)) (q2 := (38, L, 0)) (ad (9, L, 0)) (ad (38, L, 0)) ⟨rfl, by decide⟩ lj_RX5_11 (fun _ _ _ h => by cases h; rfl) (Or.inr (hq)) rfl rfl (fun _ => ⟨rfl, rfl⟩) rfl rfl hA dX5_init_10 (fun hA => ?_)
  refine zW_aload_n (a := ad (9, L, 0)) 0 dX5_init_13 rfl ?_
  refine zW_bipush dX5_init_14 rfl ?_
  refine zU_newI (q := (39, L, 0)) (N := 8) (ad (39, L, 0)) aj_int rfl rfl rfl rfl (h 1 _ rfl) hA ⟨Nat.le_of_ble_eq_true rfl, Nat.le_of_ble_eq_true rfl⟩ dX5_init_16 (fun hA => ?_)
  refine zU_putR (q := (9, L, 0)) (q2 := (39, L, 0)) (ad (9, L, 0)) (ad (39, L, 0)) ⟨rfl, by decide⟩ lj_RX5_17 (fun _ _ _ h => by cases h; rfl) (Or.inr ((Or.inr (hq)))) rfl rfl (fun _ => ⟨rfl, rfl⟩) rfl rfl hA dX5_init_18 (fun hA => ?_)
  refine zW_aload_n (a := ad (9, L, 0)) 0 dX5_init_21 rfl ?_
  refine zW_sipush dX5_init_22 rfl ?_
  refine zU_newI (q := (40, L, 0)) (N := 256) (ad (40, L, 0)) aj_int rfl rfl rfl rfl (h 2 _ rfl) hA ⟨Nat.le_of_ble_eq_true rfl, Nat.le_of_ble_eq_true rfl⟩ dX5_init_25 (fun hA => ?_)
  refine zU_putR (q := (9, L, 0)) (q2 := (40, L, 0)) (ad (9, L, 0)) (ad (40, L, 0)) ⟨rfl, by decide⟩ lj_RX5_21 (fun _ _ _ h => by cases h; rfl) (Or.inr ((Or.inr ((Or.inr (hq)))))) rfl rfl (fun _ => ⟨rfl, rfl⟩) rfl rfl hA dX5_init_27 (fun hA => ?_)
  refine zW_iconst dX5_init_30 ?_
  refine zW_istore_n (lv' := [(1, vi 0), (0, .ref (ad (9, L, 0)))]) dX5_init_31 rfl rfl ?_
  refine zW_iload_n 0 dX5_init_32 rfl ?_
  refine zW_bipush dX5_init_33 rfl ?_
  refine zW_icmp_ge 57 dX5_init_35 rfl (fun c => absurd c (by decide +kernel)) (fun _ => ?_)
  refine zW_aload_n (a := ad (9, L, 0)) 1 dX5_init_38 rfl ?_
  refine zU_getR (q := (9, L, 0)) (q' := (38, L, 0)) (ad (9, L, 0)) (ad (38, L, 0)) lj_RX5_11 (Or.inr ((Or.inr ((Or.inr (hq)))))) rfl rfl (by simp [zP_pt, zP_nw]) rfl rfl dX5_init_39 ?_
  refine zW_iload_n 0 dX5_init_42 rfl ?_
  refine zU_new (q := (11, L, 0)) (ad (11, L, 0)) nj_RX5_9 rfl rfl (h 3 _ rfl) hA ⟨Nat.le_of_ble_eq_true rfl, Nat.le_of_ble_eq_true rfl⟩ dX5_init_43 (fun hA => ?_)
  refine zW_dup dX5_init_46 rfl ?_
  refine zU_ini (q := (11, L, 0)) (As := []) (ad (11, L, 0)) (kX3_init (zAt.of (n := 4) (l2 := lX3_init L 0) rfl rfl h rfl) (Or.inl rfl)) (Or.inr ⟨RX11, fun U h => h.2.2.2.2.2.2.1⟩) ij_X3_init (wwX3_init (zAt.of (n := 4) (l2 := lX3_init L 0) rfl rfl h rfl)) weX3_init ⟨rfl, rfl⟩ rfl hA ⟨Nat.le_of_ble_eq_true rfl, Nat.le_of_ble_eq_true rfl⟩ rfl rfl rfl rfl dX5_init_47 (fun hA => ?_)
  refine zU_aast (qa := (38, L, 0)) (qv := (11, L, 0)) 4 0 (ad (38, L, 0)) (ad (11, L, 0)) (by decide +kernel) rfl (show vwCl[3]? = some (RX3, TX3, 4) from rfl) (Or.inr ((Or.inr ((Or.inr ((Or.inr (Or.inl rfl)))))))) rfl rfl (Or.inr (Or.inl rfl)) rfl (by decide +kernel) rfl rfl hA dX5_init_50 (fun hA => ?_)
  refine zW_iinc 0 (lv' := [(1, vi 1), (0, .ref (ad (9, L, 0)))]) dX5_init_51 rfl rfl rfl ?_
  refine zW_goto 32 dX5_init_54 rfl ?_
  refine zW_iload_n 0 dX5_init_32 rfl ?_
  refine zW_bipush dX5_init_33 rfl ?_
  refine zW_icmp_ge 57 dX5_init_35 rfl (fun c => absurd c (by decide +kernel)) (fun _ => ?_)
  refine zW_aload_n (a := ad (9, L, 0)) 1 dX5_init_38 rfl ?_
  refine zU_getR (q := (9, L, 0)) (q' := (38, L, 0)) (ad (9, L, 0)) (ad (38, L, 0)) lj_RX5_11 (Or.inr ((Or.inr ((Or.inr ((Or.inr ((Or.inr (hq)))))))))) rfl rfl (by simp [zP_pt, zP_nw, wX3_init]) rfl rfl dX5_init_39 ?_
  refine zW_iload_n 0 dX5_init_42 rfl ?_
  refine zU_new (q := (11, L, 1)) (ad (11, L, 1)) nj_RX5_9 rfl rfl (h 5 _ rfl) hA ⟨Nat.le_of_ble_eq_true rfl, Nat.le_of_ble_eq_true rfl⟩ dX5_init_43 (fun hA => ?_)
  refine zW_dup dX5_init_46 rfl ?_
  refine zU_ini (q := (11, L, 1)) (As := []) (ad (11, L, 1)) (kX3_init (zAt.of (n := 6) (l2 := lX3_init L 1) rfl rfl h rfl) (Or.inl rfl)) (Or.inr ⟨RX11, fun U h => h.2.2.2.2.2.2.1⟩) ij_X3_init (wwX3_init (zAt.of (n := 6) (l2 := lX3_init L 1) rfl rfl h rfl)) weX3_init ⟨rfl, rfl⟩ rfl hA ⟨Nat.le_of_ble_eq_true rfl, Nat.le_of_ble_eq_true rfl⟩ rfl rfl rfl rfl dX5_init_47 (fun hA => ?_)
  refine zU_aast (qa := (38, L, 0)) (qv := (11, L, 1)) 4 1 (ad (38, L, 0)) (ad (11, L, 1)) (by decide +kernel) rfl (show vwCl[3]? = some (RX3, TX3, 4) from rfl) (Or.inr ((Or.inr ((Or.inr ((Or.inr ((Or.inr ((Or.inr (Or.inl rfl)))))))))))) rfl rfl (Or.inr (Or.inl rfl)) rfl (by decide +kernel) rfl rfl hA dX5_init_50 (fun hA => ?_)
  refine zW_iinc 0 (lv' := [(1, vi 2), (0, .ref (ad (9, L, 0)))]) dX5_init_51 rfl rfl rfl ?_
  refine zW_goto 32 dX5_init_54 rfl ?_
  refine zW_iload_n 0 dX5_init_32 rfl ?_
  refine zW_bipush dX5_init_33 rfl ?_
  refine zW_icmp_ge 57 dX5_init_35 rfl (fun c => absurd c (by decide +kernel)) (fun _ => ?_)
  refine zW_aload_n (a := ad (9, L, 0)) 1 dX5_init_38 rfl ?_
  refine zU_getR (q := (9, L, 0)) (q' := (38, L, 0)) (ad (9, L, 0)) (ad (38, L, 0)) lj_RX5_11 (Or.inr ((Or.inr ((Or.inr ((Or.inr ((Or.inr ((Or.inr ((Or.inr (hq)))))))))))))) rfl rfl (by simp [zP_pt, zP_nw, wX3_init]) rfl rfl dX5_init_39 ?_
  refine zW_iload_n 0 dX5_init_42 rfl ?_
  refine zU_new (q := (11, L, 2)) (ad (11, L, 2)) nj_RX5_9 rfl rfl (h 7 _ rfl) hA ⟨Nat.le_of_ble_eq_true rfl, Nat.le_of_ble_eq_true rfl⟩ dX5_init_43 (fun hA => ?_)
  refine zW_dup dX5_init_46 rfl ?_
  refine zU_ini (q := (11, L, 2)) (As := []) (ad (11, L, 2)) (kX3_init (zAt.of (n := 8) (l2 := lX3_init L 2) rfl rfl h rfl) (Or.inl rfl)) (Or.inr ⟨RX11, fun U h => h.2.2.2.2.2.2.1⟩) ij_X3_init (wwX3_init (zAt.of (n := 8) (l2 := lX3_init L 2) rfl rfl h rfl)) weX3_init ⟨rfl, rfl⟩ rfl hA ⟨Nat.le_of_ble_eq_true rfl, Nat.le_of_ble_eq_true rfl⟩ rfl rfl rfl rfl dX5_init_47 (fun hA => ?_)
  refine zU_aast (qa := (38, L, 0)) (qv := (11, L, 2)) 4 2 (ad (38, L, 0)) (ad (11, L, 2)) (by decide +kernel) rfl (show vwCl[3]? = some (RX3, TX3, 4) from rfl) (Or.inr ((Or.inr ((Or.inr ((Or.inr ((Or.inr ((Or.inr ((Or.inr ((Or.inr (Or.inl rfl)))))))))))))))) rfl rfl (Or.inr (Or.inl rfl)) rfl (by decide +kernel) rfl rfl hA dX5_init_50 (fun hA => ?_)
  refine zW_iinc 0 (lv' := [(1, vi 3), (0, .ref (ad (9, L, 0)))]) dX5_init_51 rfl rfl rfl ?_
  refine zW_goto 32 dX5_init_54 rfl ?_
  refine zW_iload_n 0 dX5_init_32 rfl ?_
  refine zW_bipush dX5_init_33 rfl ?_
  refine zW_icmp_ge 57 dX5_init_35 rfl (fun c => absurd c (by decide +kernel)) (fun _ => ?_)
  refine zW_aload_n (a := ad (9, L, 0)) 1 dX5_init_38 rfl ?_
  refine zU_getR (q := (9, L, 0)) (q' := (38, L, 0)) (ad (9, L, 0)) (ad (38, L, 0)) lj_RX5_11 (Or.inr ((Or.inr ((Or.inr ((Or.inr ((Or.inr ((Or.inr ((Or.inr ((Or.inr ((Or.inr (hq)))))))))))))))))) rfl rfl (by simp [zP_pt, zP_nw, wX3_init]) rfl rfl dX5_init_39 ?_
  refine zW_iload_n 0 dX5_init_42 rfl ?_
  refine zU_new (q := (11, L, 3)) (ad (11, L, 3)) nj_RX5_9 rfl rfl (h 9 _ rfl) hA ⟨Nat.le_of_ble_eq_true rfl, Nat.le_of_ble_eq_true rfl⟩ dX5_init_43 (fun hA => ?_)
  refine zW_dup dX5_init_46 rfl ?_
  refine zU_ini (q := (11, L, 3)) (As := []) (ad (11, L, 3)) (kX3_init (zAt.of (n := 10) (l2 := lX3_init L 3) rfl rfl h rfl) (Or.inl rfl)) (Or.inr ⟨RX11, fun U h => h.2.2.2.2.2.2.1⟩) ij_X3_init (wwX3_init (zAt.of (n := 10) (l2 := lX3_init L 3) rfl rfl h rfl)) weX3_init ⟨rfl, rfl⟩ rfl hA ⟨Nat.le_of_ble_eq_true rfl, Nat.le_of_ble_eq_true rfl⟩ rfl rfl rfl rfl dX5_init_47 (fun hA => ?_)
  refine zU_aast (qa := (38, L, 0)) (qv := (11, L, 3)) 4 3 (ad (38, L, 0)) (ad (11, L, 3)) (by decide +kernel) rfl (show vwCl[3]? = some (RX3, TX3, 4) from rfl) (Or.inr ((Or.inr ((Or.inr ((Or.inr ((Or.inr ((Or.inr ((Or.inr ((Or.inr ((Or.inr ((Or.inr (Or.inl rfl)))))))))))))))))))) rfl rfl (Or.inr (Or.inl rfl)) rfl (by decide +kernel) rfl rfl hA dX5_init_50 (fun hA => ?_)
  refine zW_iinc 0 (lv' := [(1, vi 4), (0, .ref (ad (9, L, 0)))]) dX5_init_51 rfl rfl rfl ?_
  refine zW_goto 32 dX5_init_54 rfl ?_
  refine zW_iload_n 0 dX5_init_32 rfl ?_
  refine zW_bipush dX5_init_33 rfl ?_
  refine zW_icmp_ge 57 dX5_init_35 rfl (fun c => absurd c (by decide +kernel)) (fun _ => ?_)
  refine zW_aload_n (a := ad (9, L, 0)) 1 dX5_init_38 rfl ?_
  refine zU_getR (q := (9, L, 0)) (q' := (38, L, 0)) (ad (9, L, 0)) (ad (38, L, 0)) lj_RX5_11 (Or.inr ((Or.inr ((Or.inr ((Or.inr ((Or.inr ((Or.inr ((Or.inr ((Or.inr ((Or.inr ((Or.inr ((Or.inr (hq)))))))))))))))))))))) rfl rfl (by simp [zP_pt, zP_nw, wX3_init]) rfl rfl dX5_init_39 ?_
  refine zW_iload_n 0 dX5_init_42 rfl ?_
  refine zU_new (q := (11, L, 4)) (ad (11, L, 4)) nj_RX5_9 rfl rfl (h 11 _ rfl) hA ⟨Nat.le_of_ble_eq_true rfl, Nat.le_of_ble_eq_true rfl⟩ dX5_init_43 (fun hA => ?_)
  refine zW_dup dX5_init_46 rfl ?_
  refine zU_ini (q := (11, L, 4)) (As := []) (ad (11, L, 4)) (kX3_init (zAt.of (n := 12) (l2 := lX3_init L 4) rfl rfl h rfl) (Or.inl rfl)) (Or.inr ⟨RX11, fun U h => h.2.2.2.2.2.2.1⟩) ij_X3_init (wwX3_init (zAt.of (n := 12) (l2 := lX3_init L 4) rfl rfl h rfl)) weX3_init ⟨rfl, rfl⟩ rfl hA ⟨Nat.le_of_ble_eq_true rfl, Nat.le_of_ble_eq_true rfl⟩ rfl rfl rfl rfl dX5_init_47 (fun hA => ?_)
  refine zU_aast (qa := (38, L, 0)) (qv := (11, L, 4)) 4 4 (ad (38, L, 0)) (ad (11, L, 4)) (by decide +kernel) rfl (show vwCl[3]? = some (RX3, TX3, 4) from rfl) (Or.inr ((Or.inr ((Or.inr ((Or.inr ((Or.inr ((Or.inr ((Or.inr ((Or.inr ((Or.inr ((Or.inr ((Or.inr ((Or.inr (Or.inl rfl)))))))))))))))))))))))) rfl rfl (Or.inr (Or.inl rfl)) rfl (by decide +kernel) rfl rfl hA dX5_init_50 (fun hA => ?_)
  refine zW_iinc 0 (lv' := [(1, vi 5), (0, .ref (ad (9, L, 0)))]) dX5_init_51 rfl rfl rfl ?_
  refine zW_goto 32 dX5_init_54 rfl ?_
  refine zW_iload_n 0 dX5_init_32 rfl ?_
  refine zW_bipush dX5_init_33 rfl ?_
  refine zW_icmp_ge 57 dX5_init_35 rfl (fun c => absurd c (by decide +kernel)) (fun _ => ?_)
  refine zW_aload_n (a := ad (9, L, 0)) 1 dX5_init_38 rfl ?_
  refine zU_getR (q := (9, L, 0)) (q' := (38, L, 0)) (ad (9, L, 0)) (ad (38, L, 0)) lj_RX5_11 (Or.inr ((Or.inr ((Or.inr ((Or.inr ((Or.inr ((Or.inr ((Or.inr ((Or.inr ((Or.inr ((Or.inr ((Or.inr ((Or.inr ((Or.inr (hq)))))))))))))))))))))))))) rfl rfl (by simp [zP_pt, zP_nw, wX3_init]) rfl rfl dX5_init_39 ?_
  refine zW_iload_n 0 dX5_init_42 rfl ?_
  refine zU_new (q := (11, L, 5)) (ad (11, L, 5)) nj_RX5_9 rfl rfl (h 13 _ rfl) hA ⟨Nat.le_of_ble_eq_true rfl, Nat.le_of_ble_eq_true rfl⟩ dX5_init_43 (fun hA => ?_)
  refine zW_dup dX5_init_46 rfl ?_
  refine zU_ini (q := (11, L, 5)) (As := []) (ad (11, L, 5)) (kX3_init (zAt.of (n := 14) (l2 := lX3_init L 5) rfl rfl h rfl) (Or.inl rfl)) (Or.inr ⟨RX11, fun U h => h.2.2.2.2.2.2.1⟩) ij_X3_init (wwX3_init (zAt.of (n := 14) (l2 := lX3_init L 5) rfl rfl h rfl)) weX3_init ⟨rfl, rfl⟩ rfl hA ⟨Nat.le_of_ble_eq_true rfl, Nat.le_of_ble_eq_true rfl⟩ rfl rfl rfl rfl dX5_init_47 (fun hA => ?_)
  refine zU_aast (qa := (38, L, 0)) (qv := (11, L, 5)) 4 5 (ad (38, L, 0)) (ad (11, L, 5)) (by decide +kernel) rfl (show vwCl[3]? = some (RX3, TX3, 4) from rfl) (Or.inr ((Or.inr ((Or.inr ((Or.inr ((Or.inr ((Or.inr ((Or.inr ((Or.inr ((Or.inr ((Or.inr ((Or.inr ((Or.inr ((Or.inr ((Or.inr (Or.inl rfl)))))))))))))))))))))))))))) rfl rfl (Or.inr (Or.inl rfl)) rfl (by decide +kernel) rfl rfl hA dX5_init_50 (fun hA => ?_)
  refine zW_iinc 0 (lv' := [(1, vi 6), (0, .ref (ad (9, L, 0)))]) dX5_init_51 rfl rfl rfl ?_
  refine zW_goto 32 dX5_init_54 rfl ?_
  refine zW_iload_n 0 dX5_init_32 rfl ?_
  refine zW_bipush dX5_init_33 rfl ?_
  refine zW_icmp_ge 57 dX5_init_35 rfl (fun c => absurd c (by decide +kernel)) (fun _ => ?_)
  refine zW_aload_n (a := ad (9, L, 0)) 1 dX5_init_38 rfl ?_
  refine zU_getR (q := (9, L, 0)) (q' := (38, L, 0)) (ad (9, L, 0)) (ad (38, L, 0)) lj_RX5_11 (Or.inr ((Or.inr ((Or.inr ((Or.inr ((Or.inr ((Or.inr ((Or.inr ((Or.inr ((Or.inr ((Or.inr ((Or.inr ((Or.inr ((Or.inr ((Or.inr ((Or.inr (hq)))))))))))))))))))))))))))))) rfl rfl (by simp [zP_pt, zP_nw, wX3_init]) rfl rfl dX5_init_39 ?_
  refine zW_iload_n 0 dX5_init_42 rfl ?_
  refine zU_new (q := (11, L, 6)) (ad (11, L, 6)) nj_RX5_9 rfl rfl (h 15 _ rfl) hA ⟨Nat.le_of_ble_eq_true rfl, Nat.le_of_ble_eq_true rfl⟩ dX5_init_43 (fun hA => ?_)
  refine zW_dup dX5_init_46 rfl ?_
  refine zU_ini (q := (11, L, 6)) (As := []) (ad (11, L, 6)) (kX3_init (zAt.of (n := 16) (l2 := lX3_init L 6) rfl rfl h rfl) (Or.inl rfl)) (Or.inr ⟨RX11, fun U h => h.2.2.2.2.2.2.1⟩) ij_X3_init (wwX3_init (zAt.of (n := 16) (l2 := lX3_init L 6) rfl rfl h rfl)) weX3_init ⟨rfl, rfl⟩ rfl hA ⟨Nat.le_of_ble_eq_true rfl, Nat.le_of_ble_eq_true rfl⟩ rfl rfl rfl rfl dX5_init_47 (fun hA => ?_)
  refine zU_aast (qa := (38, L, 0)) (qv := (11, L, 6)) 4 6 (ad (38, L, 0)) (ad (11, L, 6)) (by decide +kernel) rfl (show vwCl[3]? = some (RX3, TX3, 4) from rfl) (Or.inr ((Or.inr ((Or.inr ((Or.inr ((Or.inr ((Or.inr ((Or.inr ((Or.inr ((Or.inr ((Or.inr ((Or.inr ((Or.inr ((Or.inr ((Or.inr ((Or.inr ((Or.inr (Or.inl rfl)))))))))))))))))))))))))))))))) rfl rfl (Or.inr (Or.inl rfl)) rfl (by decide +kernel) rfl rfl hA dX5_init_50 (fun hA => ?_)
  refine zW_iinc 0 (lv' := [(1, vi 7), (0, .ref (ad (9, L, 0)))]) dX5_init_51 rfl rfl rfl ?_
  refine zW_goto 32 dX5_init_54 rfl ?_
  refine zW_iload_n 0 dX5_init_32 rfl ?_
  refine zW_bipush dX5_init_33 rfl ?_
  refine zW_icmp_ge 57 dX5_init_35 rfl (fun c => absurd c (by decide +kernel)) (fun _ => ?_)
  refine zW_aload_n (a := ad (9, L, 0)) 1 dX5_init_38 rfl ?_
  refine zU_getR (q := (9, L, 0)) (q' := (38, L, 0)) (ad (9, L, 0)) (ad (38, L, 0)) lj_RX5_11 (Or.inr ((Or.inr ((Or.inr ((Or.inr ((Or.inr ((Or.inr ((Or.inr ((Or.inr ((Or.inr ((Or.inr ((Or.inr ((Or.inr ((Or.inr ((Or.inr ((Or.inr ((Or.inr ((Or.inr (hq)))))))))))))))))))))))))))))))))) rfl rfl (by simp [zP_pt, zP_nw, wX3_init]) rfl rfl dX5_init_39 ?_
  refine zW_iload_n 0 dX5_init_42 rfl ?_
  refine zU_new (q := (11, L, 7)) (ad (11, L, 7)) nj_RX5_9 rfl rfl (h 17 _ rfl) hA ⟨Nat.le_of_ble_eq_true rfl, Nat.le_of_ble_eq_true rfl⟩ dX5_init_43 (fun hA => ?_)
  refine zW_dup dX5_init_46 rfl ?_
  refine zU_ini (q := (11, L, 7)) (As := []) (ad (11, L, 7)) (kX3_init (zAt.of (n := 18) (l2 := lX3_init L 7) rfl rfl h rfl) (Or.inl rfl)) (Or.inr ⟨RX11, fun U h => h.2.2.2.2.2.2.1⟩) ij_X3_init (wwX3_init (zAt.of (n := 18) (l2 := lX3_init L 7) rfl rfl h rfl)) weX3_init ⟨rfl, rfl⟩ rfl hA ⟨Nat.le_of_ble_eq_true rfl, Nat.le_of_ble_eq_true rfl⟩ rfl rfl rfl rfl dX5_init_47 (fun hA => ?_)
  refine zU_aast (qa := (38, L, 0)) (qv := (11, L, 7)) 4 7 (ad (38, L, 0)) (ad (11, L, 7)) (by decide +kernel) rfl (show vwCl[3]? = some (RX3, TX3, 4) from rfl) (Or.inr ((Or.inr ((Or.inr ((Or.inr ((Or.inr ((Or.inr ((Or.inr ((Or.inr ((Or.inr ((Or.inr ((Or.inr ((Or.inr ((Or.inr ((Or.inr ((Or.inr ((Or.inr ((Or.inr ((Or.inr (Or.inl rfl)))))))))))))))))))))))))))))))))))) rfl rfl (Or.inr (Or.inl rfl)) rfl (by decide +kernel) rfl rfl hA dX5_init_50 (fun hA => ?_)
  refine zW_iinc 0 (lv' := [(1, vi 8), (0, .ref (ad (9, L, 0)))]) dX5_init_51 rfl rfl rfl ?_
  refine zW_goto 32 dX5_init_54 rfl ?_
  refine zW_iload_n 0 dX5_init_32 rfl ?_
  refine zW_bipush dX5_init_33 rfl ?_
  refine zW_icmp_ge 57 dX5_init_35 rfl (fun _ => ?_) (fun c => absurd (by decide +kernel) c)
  refine zW_aload_n (a := ad (9, L, 0)) 1 dX5_init_57 rfl ?_
  refine zU_getR (q := (9, L, 0)) (q' := (39, L, 0)) (ad (9, L, 0)) (ad (39, L, 0)) lj_RX5_17 (Or.inr ((Or.inr ((Or.inr ((Or.inr ((Or.inr ((Or.inr ((Or.inr ((Or.inr ((Or.inr ((Or.inr ((Or.inr ((Or.inr ((Or.inr ((Or.inr ((Or.inr ((Or.inr ((Or.inr ((Or.inr ((Or.inr (hq)))))))))))))))))))))))))))))))))))))) rfl rfl (by simp [zP_pt, zP_nw, wX3_init]) rfl rfl dX5_init_58 ?_
  refine zW_iconst dX5_init_61 ?_
  refine zW_callS (As := [.ref (ad (39, L, 0)), vi (-1)]) (T' := (none, zmp _ (39, L, 0) 8 (fun _ => (-1)))) (zfillI (-1) (ad (39, L, 0)) (Or.inr ((Or.inr ((Or.inr ((Or.inr ((Or.inr ((Or.inr ((Or.inr ((Or.inr ((Or.inr ((Or.inr ((Or.inr ((Or.inr ((Or.inr ((Or.inr ((Or.inr ((Or.inr ((Or.inr (Or.inl rfl)))))))))))))))))))))))))))))))))) rfl (by decide) rfl) msj_RX5_25 rfl rfl rfl rfl dX5_init_62 ?_
  exact zW_vret (zHk (B := zB (G0, cy, ad, D, P, tc, tv, A, Q, k0, n0, z)) (smX5_init (zSm.K)) rfl rfl) rfl dX5_init_65
theorem kX5_init {X : zX} {L : Nat} {I : zMem} (h : zAt X (zz X) (lX5_init L)) (hq : zDom X (9, L, 0))  : zCk X (wX5_init L X) mX5_init yX5_init [.ref (zad X (9, L, 0))] I (none, gX5_init L I) := by
  obtain ⟨G0, cy, ad, D, P, tc, tv, A, Q, k0, n0, z⟩ := X
  exact kX5_init_v h hq
def lX4_init (L : Nat) : List zPl := [(8, L, 0), (32, L, 0), (33, L, 0), (34, L, 0), (35, L, 0), (36, L, 0), (10, L, 0), (37, L, 0), (10, L, 1), (37, L, 1), (10, L, 2), (37, L, 2), (10, L, 3), (37, L, 3), (10, L, 4), (37, L, 4), (10, L, 5), (37, L, 5), (10, L, 6), (37, L, 6), (10, L, 7), (37, L, 7), (9, L, 0), (38, L, 0), (39, L, 0), (40, L, 0), (11, L, 0), (41, L, 0), (11, L, 1), (41, L, 1), (11, L, 2), (41, L, 2), (11, L, 3), (41, L, 3), (11, L, 4), (41, L, 4), (11, L, 5), (41, L, 5), (11, L, 6), (41, L, 6), (11, L, 7), (41, L, 7)]
def wX4_init (L : Nat) (X : zX) : zX := (zpt (wX5_init L (znw (zpt (wX7_init L (znw X (8, L, 0) 11)) (7, L, 0) 7 (8, L, 0)) (9, L, 0) 11)) (7, L, 0) 8 (9, L, 0))
def gX4_init (L : Nat) (I : zMem) : zMem := (gX5_init L (zzr (gX7_init L (zzr (zst (zst (zst (zst (zst (zst (zst I (7, L, 0) 0 4) (7, L, 0) 1 4) (7, L, 0) 2 12) (7, L, 0) 3 4) (7, L, 0) 4 48) (7, L, 0) 5 500) (7, L, 0) 6 20) (8, L, 0))) (9, L, 0)))
set_option maxRecDepth 100000 in
theorem wwX4_init_v {G0 : va_G} {cy : Nat → ClassId} {ad : zPl → Nat} {D : zPl → Prop} {P : zRf} {tc tv : Nat} {A : Nat → Prop} {Q : zMT → Array Value → State → Outcome → State → Prop} {k0 n0 z : Nat} {L : Nat} (h : ∀ i q, (lX4_init L)[i]? = some q → ad q = z + i) : zGw (G0, cy, ad, D, P, tc, tv, A, Q, k0, n0, z) (wX4_init L (G0, cy, ad, D, P, tc, tv, A, Q, k0, n0, z)) := (zGw.pt (zGw.tr (zGw.nw (zGw.pt (zGw.tr (zGw.nw zGw.rf (h 0 _ rfl)) (wwX7_init (zAt.of (n := 1) (l2 := lX7_init L) rfl rfl h rfl)))) (h 22 _ rfl)) (wwX5_init (zAt.of (n := 23) (l2 := lX5_init L) rfl rfl h rfl))))
theorem wwX4_init {X : zX} {L : Nat} (h : zAt X (zz X) (lX4_init L)) : zGw X (wX4_init L X) := by
  obtain ⟨G0, cy, ad, D, P, tc, tv, A, Q, k0, n0, z⟩ := X
  exact wwX4_init_v h
set_option maxRecDepth 100000 in
theorem weX4_init {X : zX} {L : Nat} : zE X (wX4_init L X) 42 1050 := (zE.pt (zE.tr (zE.nw (zE.pt (zE.tr (zE.nw zE.rf) weX7_init))) weX5_init))
set_option maxRecDepth 100000 in
theorem smX4_init {A B : zX} {L : Nat} (h : zSm A B) : zSm (wX4_init L A) (wX4_init L B) := (zSm.pt (smX5_init (zSm.nw (zSm.pt (smX7_init (zSm.nw h))))))
set_option maxRecDepth 100000 in
theorem kX4_init_v {G0 : va_G} {cy : Nat → ClassId} {ad : zPl → Nat} {D : zPl → Prop} {P : zRf} {tc tv : Nat} {A : Nat → Prop} {Q : zMT → Array Value → State → Outcome → State → Prop} {k0 n0 z : Nat} {L : Nat} {I : zMem} (h : ∀ i q, (lX4_init L)[i]? = some q → ad q = z + i) (hq : D (7, L, 0))  : zCk (G0, cy, ad, D, P, tc, tv, A, Q, k0, n0, z) (wX4_init L (G0, cy, ad, D, P, tc, tv, A, Q, k0, n0, z)) mX4_init yX4_init [.ref (ad (7, L, 0))] I (none, gX4_init L I) := by
  refine zCk_of (by decide +kernel) rfl rfl (fun _ => rfl) ?_
  have hA : zNA (zK (G0, cy, ad, D, P, tc, tv, A, Q, k0, n0, z) (wX4_init L (G0, cy, ad, D, P, tc, tv, A, Q, k0, n0, z))) := fun a h => Or.inr h
  refine zW_aload_n (a := ad (7, L, 0)) 0 dX4_init_0 rfl ?_
  refine zW_obj oj_RX4_3 rfl dX4_init_1 ?_
  refine zW_aload_n (a := ad (7, L, 0)) 0 dX4_init_4 rfl ?_
  refine zW_iconst dX4_init_5 ?_
  refine zU_put (q := (7, L, 0)) (ad (7, L, 0)) lj_RX4_9 hq rfl rfl (zn_int _) rfl dX4_init_6 ?_
  refine zW_aload_n (a := ad (7, L, 0)) 0 dX4_init_9 rfl ?_
  refine zW_iconst dX4_init_10 ?_
  refine zU_put (q := (7, L, 0)) (ad (7, L, 0)) lj_RX4_15 hq rfl rfl (zn_int _) rfl dX4_init_11 ?_
  refine zW_aload_n (a := ad (7, L, 0)) 0 dX4_init_14 rfl ?_
  refine zW_bipush dX4_init_15 rfl ?_
  refine zU_put (q := (7, L, 0)) (ad (7, L, 0)) lj_RX4_18 hq rfl rfl (zn_int _) rfl dX4_init_17 ?_
  refine zW_aload_n (a := ad (7, L, 0)) 0 dX4_init_20 rfl ?_
  refine zW_iconst dX4_init_21 ?_
  refine zU_put (q := (7, L, 0)) (ad (7, L, 0)) lj_RX4_21 hq rfl rfl (zn_int _) rfl dX4_init_22 ?_
  refine zW_aload_n (a := ad (7, L, 0)) 0 dX4_init_25 rfl ?_
  refine zW_bipush dX4_init_26 rfl ?_
  refine zU_put (q := (7, L, 0)) (ad (7, L, 0)) lj_RX4_24 hq rfl rfl (zn_int _) rfl dX4_init_28 ?_
  refine zW_aload_n (a := ad (7, L, 0)) 0 dX4_init_31 rfl ?_
  refine zW_sipush dX4_init_32 rfl ?_
  refine zU_put (q := (7, L, 0)) (ad (7, L, 0)) lj_RX4_27 hq rfl rfl (zn_int _) rfl dX4_init_35 ?_
  refine zW_aload_n (a := ad (7, L, 0)) 0 dX4_init_38 rfl ?_
  refine zW_bipush dX4_init_39 rfl ?_
  refine zU_put (q := (7, L, 0)) (ad (7, L, 0)) lj_RX4_30 hq rfl rfl (zn_int _) rfl dX4_init_41 ?_
  refine zW_aload_n (a := ad (7, L, 0)) 0 dX4_init_44 rfl ?_
  refine zU_new (q := (8, L, 0)) (ad (8, L, 0)) nj_RX4_33 rfl rfl (h 0 _ rfl) hA ⟨Nat.le_of_ble_eq_true rfl, Nat.le_of_ble_eq_true rfl⟩ dX4_init_45 (fun hA => ?_)
  refine zW_dup dX4_init_48 rfl ?_
  refine zU_ini (q := (8, L, 0)) (As := []) (ad (8, L, 0)) (kX7_init (zAt.of (n := 1) (l2 := lX7_init L) rfl rfl h rfl) (Or.inl rfl)) (Or.inl yj_RX4_35) ij_X7_init (wwX7_init (zAt.of (n := 1) (l2 := lX7_init L) rfl rfl h rfl)) weX7_init ⟨rfl, rfl⟩ rfl hA ⟨Nat.le_of_ble_eq_true rfl, Nat.le_of_ble_eq_true rfl⟩ rfl rfl rfl rfl dX4_init_49 (fun hA => ?_)
  refine zU_putR (q := (7, L, 0)) (q2 := (8, L, 0)) (ad (7, L, 0)) (ad (8, L, 0)) ⟨rfl, by decide⟩ lj_RX4_36 (fun _ _ _ h => by cases h; rfl) (Or.inr ((Or.inr ((Or.inr ((Or.inr ((Or.inr ((Or.inr ((Or.inr ((Or.inr ((Or.inr ((Or.inr ((Or.inr ((Or.inr ((Or.inr ((Or.inr ((Or.inr ((Or.inr ((Or.inr ((Or.inr ((Or.inr ((Or.inr ((Or.inr ((Or.inr (hq)))))))))))))))))))))))))))))))))))))))))))) rfl rfl (fun _ => ⟨rfl, rfl⟩) rfl rfl hA dX4_init_52 (fun hA => ?_)
  refine zW_aload_n (a := ad (7, L, 0)) 0 dX4_init_55 rfl ?_
  refine zU_new (q := (9, L, 0)) (ad (9, L, 0)) nj_RX4_40 rfl rfl (h 22 _ rfl) hA ⟨Nat.le_of_ble_eq_true rfl, Nat.le_of_ble_eq_true rfl⟩ dX4_init_56 (fun hA => ?_)
  refine zW_dup dX4_init_59 rfl ?_
  refine zU_ini (q := (9, L, 0)) (As := []) (ad (9, L, 0)) (kX5_init (zAt.of (n := 23) (l2 := lX5_init L) rfl rfl h rfl) (Or.inl rfl)) (Or.inl yj_RX4_42) ij_X5_init (wwX5_init (zAt.of (n := 23) (l2 := lX5_init L) rfl rfl h rfl)) weX5_init ⟨rfl, rfl⟩ rfl hA ⟨Nat.le_of_ble_eq_true rfl, Nat.le_of_ble_eq_true rfl⟩ rfl rfl rfl rfl dX4_init_60 (fun hA => ?_)
  refine zU_putR (q := (7, L, 0)) (q2 := (9, L, 0)) (ad (7, L, 0)) (ad (9, L, 0)) ⟨rfl, by decide⟩ lj_RX4_43 (fun _ _ _ h => by cases h; rfl) (Or.inr ((Or.inr ((Or.inr ((Or.inr ((Or.inr ((Or.inr ((Or.inr ((Or.inr ((Or.inr ((Or.inr ((Or.inr ((Or.inr ((Or.inr ((Or.inr ((Or.inr ((Or.inr ((Or.inr ((Or.inr ((Or.inr ((Or.inr ((Or.inr ((Or.inr ((Or.inr ((Or.inr ((Or.inr ((Or.inr ((Or.inr ((Or.inr ((Or.inr ((Or.inr ((Or.inr ((Or.inr ((Or.inr ((Or.inr ((Or.inr ((Or.inr ((Or.inr ((Or.inr ((Or.inr ((Or.inr ((Or.inr ((Or.inr (hq)))))))))))))))))))))))))))))))))))))))))))))))))))))))))))))))))))))))))))))))))))) rfl rfl (fun _ => ⟨rfl, rfl⟩) rfl rfl hA dX4_init_63 (fun hA => ?_)
  exact zW_vret (zHk (B := zB (G0, cy, ad, D, P, tc, tv, A, Q, k0, n0, z)) (smX4_init (zSm.K)) rfl rfl) rfl dX4_init_66
theorem kX4_init {X : zX} {L : Nat} {I : zMem} (h : zAt X (zz X) (lX4_init L)) (hq : zDom X (7, L, 0))  : zCk X (wX4_init L X) mX4_init yX4_init [.ref (zad X (7, L, 0))] I (none, gX4_init L I) := by
  obtain ⟨G0, cy, ad, D, P, tc, tv, A, Q, k0, n0, z⟩ := X
  exact kX4_init_v h hq
def lX1_init  : List zPl := [(16, 0, 0), (17, 0, 0)]
def wX1_init  (X : zX) : zX := (zpt (znw (zpt (znw X (16, 0, 0) 2048) (1, 0, 0) 0 (16, 0, 0)) (17, 0, 0) 256) (1, 0, 0) 1 (17, 0, 0))
def gX1_init  (I : zMem) : zMem := (zzr (zzr I (16, 0, 0)) (17, 0, 0))
set_option maxRecDepth 100000 in
theorem wwX1_init_v {G0 : va_G} {cy : Nat → ClassId} {ad : zPl → Nat} {D : zPl → Prop} {P : zRf} {tc tv : Nat} {A : Nat → Prop} {Q : zMT → Array Value → State → Outcome → State → Prop} {k0 n0 z : Nat}  (h : ∀ i q, (lX1_init )[i]? = some q → ad q = z + i) : zGw (G0, cy, ad, D, P, tc, tv, A, Q, k0, n0, z) (wX1_init  (G0, cy, ad, D, P, tc, tv, A, Q, k0, n0, z)) := (zGw.pt (zGw.nw (zGw.pt (zGw.nw zGw.rf (h 0 _ rfl))) (h 1 _ rfl)))
theorem wwX1_init {X : zX}  (h : zAt X (zz X) (lX1_init )) : zGw X (wX1_init  X) := by
  obtain ⟨G0, cy, ad, D, P, tc, tv, A, Q, k0, n0, z⟩ := X
  exact wwX1_init_v h
set_option maxRecDepth 100000 in
theorem weX1_init {X : zX}  : zE X (wX1_init  X) 2 2304 := (zE.pt (zE.nw (zE.pt (zE.nw zE.rf))))
set_option maxRecDepth 100000 in
theorem smX1_init {A B : zX}  (h : zSm A B) : zSm (wX1_init  A) (wX1_init  B) := (zSm.pt (zSm.nw (zSm.pt (zSm.nw h))))
set_option maxRecDepth 100000 in
theorem kX1_init_v {G0 : va_G} {cy : Nat → ClassId} {ad : zPl → Nat} {D : zPl → Prop} {P : zRf} {tc tv : Nat} {A : Nat → Prop} {Q : zMT → Array Value → State → Outcome → State → Prop} {k0 n0 z : Nat}  {I : zMem} (h : ∀ i q, (lX1_init )[i]? = some q → ad q = z + i) (hq : D (1, 0, 0)) {u : zMem} (hf : fX1_init (gX1_init I) = some u) : zCk (G0, cy, ad, D, P, tc, tv, A, Q, k0, n0, z) (wX1_init  (G0, cy, ad, D, P, tc, tv, A, Q, k0, n0, z)) mX1_init yX1_init [.ref (ad (1, 0, 0))] I (none, u) := by
  refine zCk_of (by decide +kernel) rfl rfl (fun _ => rfl) ?_
  have hA : zNA (zK (G0, cy, ad, D, P, tc, tv, A, Q, k0, n0, z) (wX1_init  (G0, cy, ad, D, P, tc, tv, A, Q, k0, n0, z))) := fun a h => Or.inr h
  refine zW_aload_n (a := ad (1, 0, 0)) 0 dX1_init_0 rfl ?_
  refine zW_obj oj_RX1_3 rfl dX1_init_1 ?_
  refine zW_aload_n (a := ad (1, 0, 0)) 0 dX1_init_4 rfl ?_
  refine zW_sipush dX1_init_5 rfl ?_
  refine zU_newL (q := (16, 0, 0)) (N := 2048) (ad (16, 0, 0)) aj_long rfl rfl rfl rfl (h 0 _ rfl) hA ⟨Nat.le_of_ble_eq_true rfl, Nat.le_of_ble_eq_true rfl⟩ dX1_init_8 (fun hA => ?_)
  refine zU_putR (q := (1, 0, 0)) (q2 := (16, 0, 0)) (ad (1, 0, 0)) (ad (16, 0, 0)) ⟨rfl, by decide⟩ lj_RX1_9 (fun _ _ _ h => by cases h; rfl) (Or.inr (hq)) rfl rfl (fun _ => ⟨rfl, rfl⟩) rfl rfl hA dX1_init_10 (fun hA => ?_)
  refine zW_aload_n (a := ad (1, 0, 0)) 0 dX1_init_13 rfl ?_
  refine zW_sipush dX1_init_14 rfl ?_
  refine zU_newL (q := (17, 0, 0)) (N := 256) (ad (17, 0, 0)) aj_long rfl rfl rfl rfl (h 1 _ rfl) hA ⟨Nat.le_of_ble_eq_true rfl, Nat.le_of_ble_eq_true rfl⟩ dX1_init_17 (fun hA => ?_)
  refine zU_putR (q := (1, 0, 0)) (q2 := (17, 0, 0)) (ad (1, 0, 0)) (ad (17, 0, 0)) ⟨rfl, by decide⟩ lj_RX1_15 (fun _ _ _ h => by cases h; rfl) (Or.inr ((Or.inr (hq)))) rfl rfl (fun _ => ⟨rfl, rfl⟩) rfl rfl hA dX1_init_19 (fun hA => ?_)
  exact tX1_init_22 (zWf0 (zHk (B := zB (G0, cy, ad, D, P, tc, tv, A, Q, k0, n0, z)) (smX1_init (zSm.K)) rfl rfl)) ⟨(Or.inr ((Or.inr (hq)))), (Or.inr (Or.inl rfl)), (Or.inl rfl), (by simp [zP_pt, zP_nw, wX1_init]), (by simp [zP_pt, zP_nw, wX1_init])⟩ hf
theorem kX1_init {X : zX}  {I : zMem} (h : zAt X (zz X) (lX1_init )) (hq : zDom X (1, 0, 0)) {u : zMem} (hf : fX1_init (gX1_init I) = some u) : zCk X (wX1_init  X) mX1_init yX1_init [.ref (zad X (1, 0, 0))] I (none, u) := by
  obtain ⟨G0, cy, ad, D, P, tc, tv, A, Q, k0, n0, z⟩ := X
  exact kX1_init_v h hq hf
def lX6_init  : List zPl := [(18, 0, 0), (19, 0, 0), (20, 0, 0)]
def wX6_init  (X : zX) : zX := (zpt (znw (zpt (znw (zpt (znw X (18, 0, 0) 39) (2, 0, 0) 0 (18, 0, 0)) (19, 0, 0) 49) (2, 0, 0) 1 (19, 0, 0)) (20, 0, 0) 60) (2, 0, 0) 2 (20, 0, 0))
def gX6_init  (I : zMem) : zMem := (zzr (zzr (zzr I (18, 0, 0)) (19, 0, 0)) (20, 0, 0))
set_option maxRecDepth 100000 in
theorem wwX6_init_v {G0 : va_G} {cy : Nat → ClassId} {ad : zPl → Nat} {D : zPl → Prop} {P : zRf} {tc tv : Nat} {A : Nat → Prop} {Q : zMT → Array Value → State → Outcome → State → Prop} {k0 n0 z : Nat}  (h : ∀ i q, (lX6_init )[i]? = some q → ad q = z + i) : zGw (G0, cy, ad, D, P, tc, tv, A, Q, k0, n0, z) (wX6_init  (G0, cy, ad, D, P, tc, tv, A, Q, k0, n0, z)) := (zGw.pt (zGw.nw (zGw.pt (zGw.nw (zGw.pt (zGw.nw zGw.rf (h 0 _ rfl))) (h 1 _ rfl))) (h 2 _ rfl)))
theorem wwX6_init {X : zX}  (h : zAt X (zz X) (lX6_init )) : zGw X (wX6_init  X) := by
  obtain ⟨G0, cy, ad, D, P, tc, tv, A, Q, k0, n0, z⟩ := X
  exact wwX6_init_v h
set_option maxRecDepth 100000 in
theorem weX6_init {X : zX}  : zE X (wX6_init  X) 3 148 := (zE.pt (zE.nw (zE.pt (zE.nw (zE.pt (zE.nw zE.rf))))))
set_option maxRecDepth 100000 in
theorem smX6_init {A B : zX}  (h : zSm A B) : zSm (wX6_init  A) (wX6_init  B) := (zSm.pt (zSm.nw (zSm.pt (zSm.nw (zSm.pt (zSm.nw h))))))
set_option maxRecDepth 100000 in
theorem kX6_init_v {G0 : va_G} {cy : Nat → ClassId} {ad : zPl → Nat} {D : zPl → Prop} {P : zRf} {tc tv : Nat} {A : Nat → Prop} {Q : zMT → Array Value → State → Outcome → State → Prop} {k0 n0 z : Nat}  {I : zMem} (h : ∀ i q, (lX6_init )[i]? = some q → ad q = z + i) (hq : D (2, 0, 0)) {u : zMem} (hf : fX6_init (gX6_init I) = some u) : zCk (G0, cy, ad, D, P, tc, tv, A, Q, k0, n0, z) (wX6_init  (G0, cy, ad, D, P, tc, tv, A, Q, k0, n0, z)) mX6_init yX6_init [.ref (ad (2, 0, 0))] I (none, u) := by
  refine zCk_of (by decide +kernel) rfl rfl (fun _ => rfl) ?_
  have hA : zNA (zK (G0, cy, ad, D, P, tc, tv, A, Q, k0, n0, z) (wX6_init  (G0, cy, ad, D, P, tc, tv, A, Q, k0, n0, z))) := fun a h => Or.inr h
  refine zW_aload_n (a := ad (2, 0, 0)) 0 dX6_init_0 rfl ?_
  refine zW_obj oj_RX6_3 rfl dX6_init_1 ?_
  refine zW_aload_n (a := ad (2, 0, 0)) 0 dX6_init_4 rfl ?_
  refine zW_bipush dX6_init_5 rfl ?_
  refine zU_newI (q := (18, 0, 0)) (N := 39) (ad (18, 0, 0)) aj_int rfl rfl rfl rfl (h 0 _ rfl) hA ⟨Nat.le_of_ble_eq_true rfl, Nat.le_of_ble_eq_true rfl⟩ dX6_init_7 (fun hA => ?_)
  refine zU_putR (q := (2, 0, 0)) (q2 := (18, 0, 0)) (ad (2, 0, 0)) (ad (18, 0, 0)) ⟨rfl, by decide⟩ lj_RX6_9 (fun _ _ _ h => by cases h; rfl) (Or.inr (hq)) rfl rfl (fun _ => ⟨rfl, rfl⟩) rfl rfl hA dX6_init_9 (fun hA => ?_)
  refine zW_aload_n (a := ad (2, 0, 0)) 0 dX6_init_12 rfl ?_
  refine zW_bipush dX6_init_13 rfl ?_
  refine zU_newI (q := (19, 0, 0)) (N := 49) (ad (19, 0, 0)) aj_int rfl rfl rfl rfl (h 1 _ rfl) hA ⟨Nat.le_of_ble_eq_true rfl, Nat.le_of_ble_eq_true rfl⟩ dX6_init_15 (fun hA => ?_)
  refine zU_putR (q := (2, 0, 0)) (q2 := (19, 0, 0)) (ad (2, 0, 0)) (ad (19, 0, 0)) ⟨rfl, by decide⟩ lj_RX6_15 (fun _ _ _ h => by cases h; rfl) (Or.inr ((Or.inr (hq)))) rfl rfl (fun _ => ⟨rfl, rfl⟩) rfl rfl hA dX6_init_17 (fun hA => ?_)
  refine zW_aload_n (a := ad (2, 0, 0)) 0 dX6_init_20 rfl ?_
  refine zW_bipush dX6_init_21 rfl ?_
  refine zU_newI (q := (20, 0, 0)) (N := 60) (ad (20, 0, 0)) aj_int rfl rfl rfl rfl (h 2 _ rfl) hA ⟨Nat.le_of_ble_eq_true rfl, Nat.le_of_ble_eq_true rfl⟩ dX6_init_23 (fun hA => ?_)
  refine zU_putR (q := (2, 0, 0)) (q2 := (20, 0, 0)) (ad (2, 0, 0)) (ad (20, 0, 0)) ⟨rfl, by decide⟩ lj_RX6_18 (fun _ _ _ h => by cases h; rfl) (Or.inr ((Or.inr ((Or.inr (hq)))))) rfl rfl (fun _ => ⟨rfl, rfl⟩) rfl rfl hA dX6_init_25 (fun hA => ?_)
  exact tX6_init_28 (zWf0 (zHk (B := zB (G0, cy, ad, D, P, tc, tv, A, Q, k0, n0, z)) (smX6_init (zSm.K)) rfl rfl)) ⟨(Or.inr ((Or.inr ((Or.inr (hq)))))), (Or.inr ((Or.inr (Or.inl rfl)))), (Or.inr (Or.inl rfl)), (by simp [zP_pt, zP_nw, wX6_init]), (by simp [zP_pt, zP_nw, wX6_init])⟩ hf
theorem kX6_init {X : zX}  {I : zMem} (h : zAt X (zz X) (lX6_init )) (hq : zDom X (2, 0, 0)) {u : zMem} (hf : fX6_init (gX6_init I) = some u) : zCk X (wX6_init  X) mX6_init yX6_init [.ref (zad X (2, 0, 0))] I (none, u) := by
  obtain ⟨G0, cy, ad, D, P, tc, tv, A, Q, k0, n0, z⟩ := X
  exact kX6_init_v h hq hf
def lX10_init  : List zPl := [(21, 0, 0)]
def wX10_init  (X : zX) : zX := (zpt (znw X (21, 0, 0) 6) (3, 0, 0) 0 (21, 0, 0))
def gX10_init  (I : zMem) : zMem := (zzr I (21, 0, 0))
set_option maxRecDepth 100000 in
theorem wwX10_init_v {G0 : va_G} {cy : Nat → ClassId} {ad : zPl → Nat} {D : zPl → Prop} {P : zRf} {tc tv : Nat} {A : Nat → Prop} {Q : zMT → Array Value → State → Outcome → State → Prop} {k0 n0 z : Nat}  (h : ∀ i q, (lX10_init )[i]? = some q → ad q = z + i) : zGw (G0, cy, ad, D, P, tc, tv, A, Q, k0, n0, z) (wX10_init  (G0, cy, ad, D, P, tc, tv, A, Q, k0, n0, z)) := (zGw.pt (zGw.nw zGw.rf (h 0 _ rfl)))
theorem wwX10_init {X : zX}  (h : zAt X (zz X) (lX10_init )) : zGw X (wX10_init  X) := by
  obtain ⟨G0, cy, ad, D, P, tc, tv, A, Q, k0, n0, z⟩ := X
  exact wwX10_init_v h
set_option maxRecDepth 100000 in
theorem weX10_init {X : zX}  : zE X (wX10_init  X) 1 6 := (zE.pt (zE.nw zE.rf))
set_option maxRecDepth 100000 in
theorem smX10_init {A B : zX}  (h : zSm A B) : zSm (wX10_init  A) (wX10_init  B) := (zSm.pt (zSm.nw h))
set_option maxRecDepth 100000 in
theorem kX10_init_v {G0 : va_G} {cy : Nat → ClassId} {ad : zPl → Nat} {D : zPl → Prop} {P : zRf} {tc tv : Nat} {A : Nat → Prop} {Q : zMT → Array Value → State → Outcome → State → Prop} {k0 n0 z : Nat}  {I : zMem} (h : ∀ i q, (lX10_init )[i]? = some q → ad q = z + i) (hq : D (3, 0, 0))  : zCk (G0, cy, ad, D, P, tc, tv, A, Q, k0, n0, z) (wX10_init  (G0, cy, ad, D, P, tc, tv, A, Q, k0, n0, z)) mX10_init yX10_init [.ref (ad (3, 0, 0))] I (none, gX10_init  I) := by
  refine zCk_of (by decide +kernel) rfl rfl (fun _ => rfl) ?_
  have hA : zNA (zK (G0, cy, ad, D, P, tc, tv, A, Q, k0, n0, z) (wX10_init  (G0, cy, ad, D, P, tc, tv, A, Q, k0, n0, z))) := fun a h => Or.inr h
  refine zW_aload_n (a := ad (3, 0, 0)) 0 dX10_init_0 rfl ?_
  refine zW_obj oj_RX10_3 rfl dX10_init_1 ?_
  refine zW_aload_n (a := ad (3, 0, 0)) 0 dX10_init_4 rfl ?_
  refine zW_bipush dX10_init_5 rfl ?_
  refine zU_newL (q := (21, 0, 0)) (N := 6) (ad (21, 0, 0)) aj_long rfl rfl rfl rfl (h 0 _ rfl) hA ⟨Nat.le_of_ble_eq_true rfl, Nat.le_of_ble_eq_true rfl⟩ dX10_init_7 (fun hA => ?_)
  refine zU_putR (q := (3, 0, 0)) (q2 := (21, 0, 0)) (ad (3, 0, 0)) (ad (21, 0, 0)) ⟨rfl, by decide⟩ lj_RX10_11 (fun _ _ _ h => by cases h; rfl) (Or.inr (hq)) rfl rfl (fun _ => ⟨rfl, rfl⟩) rfl rfl hA dX10_init_9 (fun hA => ?_)
  exact zW_vret (zHk (B := zB (G0, cy, ad, D, P, tc, tv, A, Q, k0, n0, z)) (smX10_init (zSm.K)) rfl rfl) rfl dX10_init_12
theorem kX10_init {X : zX}  {I : zMem} (h : zAt X (zz X) (lX10_init )) (hq : zDom X (3, 0, 0))  : zCk X (wX10_init  X) mX10_init yX10_init [.ref (zad X (3, 0, 0))] I (none, gX10_init  I) := by
  obtain ⟨G0, cy, ad, D, P, tc, tv, A, Q, k0, n0, z⟩ := X
  exact kX10_init_v h hq
def lX2_init  : List zPl := [(22, 0, 0), (23, 0, 0), (24, 0, 0), (25, 0, 0), (26, 0, 0), (27, 0, 0)]
def wX2_init  (X : zX) : zX := (zpt (znw (zpt (znw (zpt (znw (zpt (znw (zpt (znw (zpt (znw X (22, 0, 0) 104) (4, 0, 0) 0 (22, 0, 0)) (23, 0, 0) 2048) (4, 0, 0) 1 (23, 0, 0)) (24, 0, 0) 4) (4, 0, 0) 2 (24, 0, 0)) (25, 0, 0) 4) (4, 0, 0) 3 (25, 0, 0)) (26, 0, 0) 4) (4, 0, 0) 4 (26, 0, 0)) (27, 0, 0) 4) (4, 0, 0) 5 (27, 0, 0))
def gX2_init  (I : zMem) : zMem := (zzr (zzr (zzr (zzr (zzr (zzr I (22, 0, 0)) (23, 0, 0)) (24, 0, 0)) (25, 0, 0)) (26, 0, 0)) (27, 0, 0))
set_option maxRecDepth 100000 in
theorem wwX2_init_v {G0 : va_G} {cy : Nat → ClassId} {ad : zPl → Nat} {D : zPl → Prop} {P : zRf} {tc tv : Nat} {A : Nat → Prop} {Q : zMT → Array Value → State → Outcome → State → Prop} {k0 n0 z : Nat}  (h : ∀ i q, (lX2_init )[i]? = some q → ad q = z + i) : zGw (G0, cy, ad, D, P, tc, tv, A, Q, k0, n0, z) (wX2_init  (G0, cy, ad, D, P, tc, tv, A, Q, k0, n0, z)) := (zGw.pt (zGw.nw (zGw.pt (zGw.nw (zGw.pt (zGw.nw (zGw.pt (zGw.nw (zGw.pt (zGw.nw (zGw.pt (zGw.nw zGw.rf (h 0 _ rfl))) (h 1 _ rfl))) (h 2 _ rfl))) (h 3 _ rfl))) (h 4 _ rfl))) (h 5 _ rfl)))
theorem wwX2_init {X : zX}  (h : zAt X (zz X) (lX2_init )) : zGw X (wX2_init  X) := by
  obtain ⟨G0, cy, ad, D, P, tc, tv, A, Q, k0, n0, z⟩ := X
  exact wwX2_init_v h
set_option maxRecDepth 100000 in
theorem weX2_init {X : zX}  : zE X (wX2_init  X) 6 2168 := (zE.pt (zE.nw (zE.pt (zE.nw (zE.pt (zE.nw (zE.pt (zE.nw (zE.pt (zE.nw (zE.pt (zE.nw zE.rf))))))))))))
set_option maxRecDepth 100000 in
theorem smX2_init {A B : zX}  (h : zSm A B) : zSm (wX2_init  A) (wX2_init  B) := (zSm.pt (zSm.nw (zSm.pt (zSm.nw (zSm.pt (zSm.nw (zSm.pt (zSm.nw (zSm.pt (zSm.nw (zSm.pt (zSm.nw h))))))))))))
set_option maxRecDepth 100000 in
theorem kX2_init_v {G0 : va_G} {cy : Nat → ClassId} {ad : zPl → Nat} {D : zPl → Prop} {P : zRf} {tc tv : Nat} {A : Nat → Prop} {Q : zMT → Array Value → State → Outcome → State → Prop} {k0 n0 z : Nat}  {I : zMem} (h : ∀ i q, (lX2_init )[i]? = some q → ad q = z + i) (hq : D (4, 0, 0))  : zCk (G0, cy, ad, D, P, tc, tv, A, Q, k0, n0, z) (wX2_init  (G0, cy, ad, D, P, tc, tv, A, Q, k0, n0, z)) mX2_init yX2_init [.ref (ad (4, 0, 0))] I (none, gX2_init  I) := by
  refine zCk_of (by decide +kernel) rfl rfl (fun _ => rfl) ?_
  have hA : zNA (zK (G0, cy, ad, D, P, tc, tv, A, Q, k0, n0, z) (wX2_init  (G0, cy, ad, D, P, tc, tv, A, Q, k0, n0, z))) := fun a h => Or.inr h
  refine zW_aload_n (a := ad (4, 0, 0)) 0 dX2_init_0 rfl ?_
  refine zW_obj oj_RX2_3 rfl dX2_init_1 ?_
  refine zW_aload_n (a := ad (4, 0, 0)) 0 dX2_init_4 rfl ?_
  refine zW_bipush dX2_init_5 rfl ?_
  refine zU_newI (q := (22, 0, 0)) (N := 104) (ad (22, 0, 0)) aj_int rfl rfl rfl rfl (h 0 _ rfl) hA ⟨Nat.le_of_ble_eq_true rfl, Nat.le_of_ble_eq_true rfl⟩ dX2_init_7 (fun hA => ?_)
  refine zU_putR (q := (4, 0, 0)) (q2 := (22, 0, 0)) (ad (4, 0, 0)) (ad (22, 0, 0)) ⟨rfl, by decide⟩ lj_RX2_9 (fun _ _ _ h => by cases h; rfl) (Or.inr (hq)) rfl rfl (fun _ => ⟨rfl, rfl⟩) rfl rfl hA dX2_init_9 (fun hA => ?_)
  refine zW_aload_n (a := ad (4, 0, 0)) 0 dX2_init_12 rfl ?_
  refine zW_sipush dX2_init_13 rfl ?_
  refine zU_newI (q := (23, 0, 0)) (N := 2048) (ad (23, 0, 0)) aj_int rfl rfl rfl rfl (h 1 _ rfl) hA ⟨Nat.le_of_ble_eq_true rfl, Nat.le_of_ble_eq_true rfl⟩ dX2_init_16 (fun hA => ?_)
  refine zU_putR (q := (4, 0, 0)) (q2 := (23, 0, 0)) (ad (4, 0, 0)) (ad (23, 0, 0)) ⟨rfl, by decide⟩ lj_RX2_15 (fun _ _ _ h => by cases h; rfl) (Or.inr ((Or.inr (hq)))) rfl rfl (fun _ => ⟨rfl, rfl⟩) rfl rfl hA dX2_init_18 (fun hA => ?_)
  refine zW_aload_n (a := ad (4, 0, 0)) 0 dX2_init_21 rfl ?_
  refine zW_iconst dX2_init_22 ?_
  refine zU_newI (q := (24, 0, 0)) (N := 4) (ad (24, 0, 0)) aj_int rfl rfl rfl rfl (h 2 _ rfl) hA ⟨Nat.le_of_ble_eq_true rfl, Nat.le_of_ble_eq_true rfl⟩ dX2_init_23 (fun hA => ?_)
  refine zU_putR (q := (4, 0, 0)) (q2 := (24, 0, 0)) (ad (4, 0, 0)) (ad (24, 0, 0)) ⟨rfl, by decide⟩ lj_RX2_18 (fun _ _ _ h => by cases h; rfl) (Or.inr ((Or.inr ((Or.inr (hq)))))) rfl rfl (fun _ => ⟨rfl, rfl⟩) rfl rfl hA dX2_init_25 (fun hA => ?_)
  refine zW_aload_n (a := ad (4, 0, 0)) 0 dX2_init_28 rfl ?_
  refine zW_iconst dX2_init_29 ?_
  refine zU_newI (q := (25, 0, 0)) (N := 4) (ad (25, 0, 0)) aj_int rfl rfl rfl rfl (h 3 _ rfl) hA ⟨Nat.le_of_ble_eq_true rfl, Nat.le_of_ble_eq_true rfl⟩ dX2_init_30 (fun hA => ?_)
  refine zU_putR (q := (4, 0, 0)) (q2 := (25, 0, 0)) (ad (4, 0, 0)) (ad (25, 0, 0)) ⟨rfl, by decide⟩ lj_RX2_21 (fun _ _ _ h => by cases h; rfl) (Or.inr ((Or.inr ((Or.inr ((Or.inr (hq)))))))) rfl rfl (fun _ => ⟨rfl, rfl⟩) rfl rfl hA dX2_init_32 (fun hA => ?_)
  refine zW_aload_n (a := ad (4, 0, 0)) 0 dX2_init_35 rfl ?_
  refine zW_iconst dX2_init_36 ?_
  refine zU_newI (q := (26, 0, 0)) (N := 4) (ad (26, 0, 0)) aj_int rfl rfl rfl rfl (h 4 _ rfl) hA ⟨Nat.le_of_ble_eq_true rfl, Nat.le_of_ble_eq_true rfl⟩ dX2_init_37 (fun hA => ?_)
  refine zU_putR (q := (4, 0, 0)) (q2 := (26, 0, 0)) (ad (4, 0, 0)) (ad (26, 0, 0)) ⟨rfl, by decide⟩ lj_RX2_24 (fun _ _ _ h => by cases h; rfl) (Or.inr ((Or.inr ((Or.inr ((Or.inr ((Or.inr (hq)))))))))) rfl rfl (fun _ => ⟨rfl, rfl⟩) rfl rfl hA dX2_init_39 (fun hA => ?_)
  refine zW_aload_n (a := ad (4, 0, 0)) 0 dX2_init_42 rfl ?_
  refine zW_iconst dX2_init_43 ?_
  refine zU_newI (q := (27, 0, 0)) (N := 4) (ad (27, 0, 0)) aj_int rfl rfl rfl rfl (h 5 _ rfl) hA ⟨Nat.le_of_ble_eq_true rfl, Nat.le_of_ble_eq_true rfl⟩ dX2_init_44 (fun hA => ?_)
  refine zU_putR (q := (4, 0, 0)) (q2 := (27, 0, 0)) (ad (4, 0, 0)) (ad (27, 0, 0)) ⟨rfl, by decide⟩ lj_RX2_27 (fun _ _ _ h => by cases h; rfl) (Or.inr ((Or.inr ((Or.inr ((Or.inr ((Or.inr ((Or.inr (hq)))))))))))) rfl rfl (fun _ => ⟨rfl, rfl⟩) rfl rfl hA dX2_init_46 (fun hA => ?_)
  exact zW_vret (zHk (B := zB (G0, cy, ad, D, P, tc, tv, A, Q, k0, n0, z)) (smX2_init (zSm.K)) rfl rfl) rfl dX2_init_49
theorem kX2_init {X : zX}  {I : zMem} (h : zAt X (zz X) (lX2_init )) (hq : zDom X (4, 0, 0))  : zCk X (wX2_init  X) mX2_init yX2_init [.ref (zad X (4, 0, 0))] I (none, gX2_init  I) := by
  obtain ⟨G0, cy, ad, D, P, tc, tv, A, Q, k0, n0, z⟩ := X
  exact kX2_init_v h hq
def lX0_init  : List zPl := [(28, 0, 0), (7, 0, 0), (8, 0, 0), (32, 0, 0), (33, 0, 0), (34, 0, 0), (35, 0, 0), (36, 0, 0), (10, 0, 0), (37, 0, 0), (10, 0, 1), (37, 0, 1), (10, 0, 2), (37, 0, 2), (10, 0, 3), (37, 0, 3), (10, 0, 4), (37, 0, 4), (10, 0, 5), (37, 0, 5), (10, 0, 6), (37, 0, 6), (10, 0, 7), (37, 0, 7), (9, 0, 0), (38, 0, 0), (39, 0, 0), (40, 0, 0), (11, 0, 0), (41, 0, 0), (11, 0, 1), (41, 0, 1), (11, 0, 2), (41, 0, 2), (11, 0, 3), (41, 0, 3), (11, 0, 4), (41, 0, 4), (11, 0, 5), (41, 0, 5), (11, 0, 6), (41, 0, 6), (11, 0, 7), (41, 0, 7)]
def wX0_init  (X : zX) : zX := (zpt (zpt (zpt (zpt (wX4_init 0 (znw (zpt (znw X (28, 0, 0) 60) (5, 0, 0) 3 (28, 0, 0)) (7, 0, 0) 9)) (5, 0, 0) 4 (7, 0, 0)) (5, 0, 0) 0 (1, 0, 0)) (5, 0, 0) 1 (2, 0, 0)) (5, 0, 0) 2 (4, 0, 0))
def gX0_init  (I : zMem) : zMem := (gX4_init 0 (zzr (zzr I (28, 0, 0)) (7, 0, 0)))
set_option maxRecDepth 100000 in
theorem wwX0_init_v {G0 : va_G} {cy : Nat → ClassId} {ad : zPl → Nat} {D : zPl → Prop} {P : zRf} {tc tv : Nat} {A : Nat → Prop} {Q : zMT → Array Value → State → Outcome → State → Prop} {k0 n0 z : Nat}  (h : ∀ i q, (lX0_init )[i]? = some q → ad q = z + i) : zGw (G0, cy, ad, D, P, tc, tv, A, Q, k0, n0, z) (wX0_init  (G0, cy, ad, D, P, tc, tv, A, Q, k0, n0, z)) := (zGw.pt (zGw.pt (zGw.pt (zGw.pt (zGw.tr (zGw.nw (zGw.pt (zGw.nw zGw.rf (h 0 _ rfl))) (h 1 _ rfl)) (wwX4_init (zAt.of (n := 2) (l2 := lX4_init 0) rfl rfl h rfl)))))))
theorem wwX0_init {X : zX}  (h : zAt X (zz X) (lX0_init )) : zGw X (wX0_init  X) := by
  obtain ⟨G0, cy, ad, D, P, tc, tv, A, Q, k0, n0, z⟩ := X
  exact wwX0_init_v h
set_option maxRecDepth 100000 in
theorem weX0_init {X : zX}  : zE X (wX0_init  X) 44 1119 := (zE.pt (zE.pt (zE.pt (zE.pt (zE.tr (zE.nw (zE.pt (zE.nw zE.rf))) weX4_init)))))
set_option maxRecDepth 100000 in
theorem smX0_init {A B : zX}  (h : zSm A B) : zSm (wX0_init  A) (wX0_init  B) := (zSm.pt (zSm.pt (zSm.pt (zSm.pt (smX4_init (zSm.nw (zSm.pt (zSm.nw h))))))))
set_option maxRecDepth 100000 in
theorem kX0_init_v {G0 : va_G} {cy : Nat → ClassId} {ad : zPl → Nat} {D : zPl → Prop} {P : zRf} {tc tv : Nat} {A : Nat → Prop} {Q : zMT → Array Value → State → Outcome → State → Prop} {k0 n0 z : Nat}  {I : zMem} (h : ∀ i q, (lX0_init )[i]? = some q → ad q = z + i) (hq : D (5, 0, 0)) (hq1 : D (1, 0, 0)) (hq2 : D (2, 0, 0)) (hq3 : D (4, 0, 0))  : zCk (G0, cy, ad, D, P, tc, tv, A, Q, k0, n0, z) (wX0_init  (G0, cy, ad, D, P, tc, tv, A, Q, k0, n0, z)) mX0_init yX0_init [.ref (ad (5, 0, 0)), .ref (ad (1, 0, 0)), .ref (ad (2, 0, 0)), .ref (ad (4, 0, 0))] I (none, gX0_init  I) := by
  refine zCk_of (by decide +kernel) rfl rfl (fun _ => rfl) ?_
  have hA : zNA (zK (G0, cy, ad, D, P, tc, tv, A, Q, k0, n0, z) (wX0_init  (G0, cy, ad, D, P, tc, tv, A, Q, k0, n0, z))) := fun a h => Or.inr h
  refine zW_aload_n (a := ad (5, 0, 0)) 0 dX0_init_0 rfl ?_
  refine zW_obj oj_RX0_3 rfl dX0_init_1 ?_
  refine zW_aload_n (a := ad (5, 0, 0)) 0 dX0_init_4 rfl ?_
  refine zW_bipush dX0_init_5 rfl ?_
  refine zU_newI (q := (28, 0, 0)) (N := 60) (ad (28, 0, 0)) aj_int rfl rfl rfl rfl (h 0 _ rfl) hA ⟨Nat.le_of_ble_eq_true rfl, Nat.le_of_ble_eq_true rfl⟩ dX0_init_7 (fun hA => ?_)
  refine zU_putR (q := (5, 0, 0)) (q2 := (28, 0, 0)) (ad (5, 0, 0)) (ad (28, 0, 0)) ⟨rfl, by decide⟩ lj_RX0_9 (fun _ _ _ h => by cases h; rfl) (Or.inr (hq)) rfl rfl (fun _ => ⟨rfl, rfl⟩) rfl rfl hA dX0_init_9 (fun hA => ?_)
  refine zW_aload_n (a := ad (5, 0, 0)) 0 dX0_init_12 rfl ?_
  refine zU_new (q := (7, 0, 0)) (ad (7, 0, 0)) nj_RX0_15 rfl rfl (h 1 _ rfl) hA ⟨Nat.le_of_ble_eq_true rfl, Nat.le_of_ble_eq_true rfl⟩ dX0_init_13 (fun hA => ?_)
  refine zW_dup dX0_init_16 rfl ?_
  refine zU_ini (q := (7, 0, 0)) (As := []) (ad (7, 0, 0)) (kX4_init (zAt.of (n := 2) (l2 := lX4_init 0) rfl rfl h rfl) (Or.inl rfl)) (Or.inr ⟨RX11, fun U h => h.2.2.2.2.1⟩) ij_X4_init (wwX4_init (zAt.of (n := 2) (l2 := lX4_init 0) rfl rfl h rfl)) weX4_init ⟨rfl, rfl⟩ rfl hA ⟨Nat.le_of_ble_eq_true rfl, Nat.le_of_ble_eq_true rfl⟩ rfl rfl rfl rfl dX0_init_17 (fun hA => ?_)
  refine zU_putR (q := (5, 0, 0)) (q2 := (7, 0, 0)) (ad (5, 0, 0)) (ad (7, 0, 0)) ⟨rfl, by decide⟩ lj_RX0_18 (fun _ _ _ h => by cases h; rfl) (Or.inr ((Or.inr ((Or.inr ((Or.inr ((Or.inr ((Or.inr ((Or.inr ((Or.inr ((Or.inr ((Or.inr ((Or.inr ((Or.inr ((Or.inr ((Or.inr ((Or.inr ((Or.inr ((Or.inr ((Or.inr ((Or.inr ((Or.inr ((Or.inr ((Or.inr ((Or.inr ((Or.inr ((Or.inr ((Or.inr ((Or.inr ((Or.inr ((Or.inr ((Or.inr ((Or.inr ((Or.inr ((Or.inr ((Or.inr ((Or.inr ((Or.inr ((Or.inr ((Or.inr ((Or.inr ((Or.inr ((Or.inr ((Or.inr ((Or.inr ((Or.inr (hq)))))))))))))))))))))))))))))))))))))))))))))))))))))))))))))))))))))))))))))))))))))))) rfl rfl (fun _ => ⟨rfl, rfl⟩) rfl rfl hA dX0_init_20 (fun hA => ?_)
  refine zW_aload_n (a := ad (5, 0, 0)) 0 dX0_init_23 rfl ?_
  refine zW_aload_n (a := ad (1, 0, 0)) 1 dX0_init_24 rfl ?_
  refine zU_putR (q := (5, 0, 0)) (q2 := (1, 0, 0)) (ad (5, 0, 0)) (ad (1, 0, 0)) ⟨rfl, by decide⟩ lj_RX0_22 (fun _ _ _ h => by cases h; rfl) (Or.inr ((Or.inr ((Or.inr ((Or.inr ((Or.inr ((Or.inr ((Or.inr ((Or.inr ((Or.inr ((Or.inr ((Or.inr ((Or.inr ((Or.inr ((Or.inr ((Or.inr ((Or.inr ((Or.inr ((Or.inr ((Or.inr ((Or.inr ((Or.inr ((Or.inr ((Or.inr ((Or.inr ((Or.inr ((Or.inr ((Or.inr ((Or.inr ((Or.inr ((Or.inr ((Or.inr ((Or.inr ((Or.inr ((Or.inr ((Or.inr ((Or.inr ((Or.inr ((Or.inr ((Or.inr ((Or.inr ((Or.inr ((Or.inr ((Or.inr ((Or.inr (hq)))))))))))))))))))))))))))))))))))))))))))))))))))))))))))))))))))))))))))))))))))))))) rfl rfl (fun _ => ⟨rfl, rfl⟩) rfl rfl hA dX0_init_25 (fun hA => ?_)
  refine zW_aload_n (a := ad (5, 0, 0)) 0 dX0_init_28 rfl ?_
  refine zW_aload_n (a := ad (2, 0, 0)) 2 dX0_init_29 rfl ?_
  refine zU_putR (q := (5, 0, 0)) (q2 := (2, 0, 0)) (ad (5, 0, 0)) (ad (2, 0, 0)) ⟨rfl, by decide⟩ lj_RX0_26 (fun _ _ _ h => by cases h; rfl) (Or.inr ((Or.inr ((Or.inr ((Or.inr ((Or.inr ((Or.inr ((Or.inr ((Or.inr ((Or.inr ((Or.inr ((Or.inr ((Or.inr ((Or.inr ((Or.inr ((Or.inr ((Or.inr ((Or.inr ((Or.inr ((Or.inr ((Or.inr ((Or.inr ((Or.inr ((Or.inr ((Or.inr ((Or.inr ((Or.inr ((Or.inr ((Or.inr ((Or.inr ((Or.inr ((Or.inr ((Or.inr ((Or.inr ((Or.inr ((Or.inr ((Or.inr ((Or.inr ((Or.inr ((Or.inr ((Or.inr ((Or.inr ((Or.inr ((Or.inr ((Or.inr (hq)))))))))))))))))))))))))))))))))))))))))))))))))))))))))))))))))))))))))))))))))))))))) rfl rfl (fun _ => ⟨rfl, rfl⟩) rfl rfl hA dX0_init_30 (fun hA => ?_)
  refine zW_aload_n (a := ad (5, 0, 0)) 0 dX0_init_33 rfl ?_
  refine zW_aload_n (a := ad (4, 0, 0)) 3 dX0_init_34 rfl ?_
  refine zU_putR (q := (5, 0, 0)) (q2 := (4, 0, 0)) (ad (5, 0, 0)) (ad (4, 0, 0)) ⟨rfl, by decide⟩ lj_RX0_30 (fun _ _ _ h => by cases h; rfl) (Or.inr ((Or.inr ((Or.inr ((Or.inr ((Or.inr ((Or.inr ((Or.inr ((Or.inr ((Or.inr ((Or.inr ((Or.inr ((Or.inr ((Or.inr ((Or.inr ((Or.inr ((Or.inr ((Or.inr ((Or.inr ((Or.inr ((Or.inr ((Or.inr ((Or.inr ((Or.inr ((Or.inr ((Or.inr ((Or.inr ((Or.inr ((Or.inr ((Or.inr ((Or.inr ((Or.inr ((Or.inr ((Or.inr ((Or.inr ((Or.inr ((Or.inr ((Or.inr ((Or.inr ((Or.inr ((Or.inr ((Or.inr ((Or.inr ((Or.inr ((Or.inr (hq)))))))))))))))))))))))))))))))))))))))))))))))))))))))))))))))))))))))))))))))))))))))) rfl rfl (fun _ => ⟨rfl, rfl⟩) rfl rfl hA dX0_init_35 (fun hA => ?_)
  exact zW_vret (zHk (B := zB (G0, cy, ad, D, P, tc, tv, A, Q, k0, n0, z)) (smX0_init (zSm.K)) rfl rfl) rfl dX0_init_38
theorem kX0_init {X : zX}  {I : zMem} (h : zAt X (zz X) (lX0_init )) (hq : zDom X (5, 0, 0)) (hq1 : zDom X (1, 0, 0)) (hq2 : zDom X (2, 0, 0)) (hq3 : zDom X (4, 0, 0))  : zCk X (wX0_init  X) mX0_init yX0_init [.ref (zad X (5, 0, 0)), .ref (zad X (1, 0, 0)), .ref (zad X (2, 0, 0)), .ref (zad X (4, 0, 0))] I (none, gX0_init  I) := by
  obtain ⟨G0, cy, ad, D, P, tc, tv, A, Q, k0, n0, z⟩ := X
  exact kX0_init_v h hq hq1 hq2 hq3
def lX9_init  : List zPl := [(29, 0, 0), (30, 0, 0), (30, 0, 1), (30, 0, 2), (30, 0, 3), (31, 0, 0)]
def wX9_init  (X : zX) : zX := (zpt (znw (zpt (wmn X 4) (6, 0, 0) 0 (29, 0, 0)) (31, 0, 0) 4) (6, 0, 0) 1 (31, 0, 0))
def gX9_init  (I : zMem) : zMem := (zst (zst (zst (zst (zzr (imn I 4) (31, 0, 0)) (31, 0, 0) 0 (-1)) (31, 0, 0) 1 (-1)) (31, 0, 0) 2 (-1)) (31, 0, 0) 3 (-1))
set_option maxRecDepth 100000 in
theorem wwX9_init_v {G0 : va_G} {cy : Nat → ClassId} {ad : zPl → Nat} {D : zPl → Prop} {P : zRf} {tc tv : Nat} {A : Nat → Prop} {Q : zMT → Array Value → State → Outcome → State → Prop} {k0 n0 z : Nat}  (h : ∀ i q, (lX9_init )[i]? = some q → ad q = z + i) : zGw (G0, cy, ad, D, P, tc, tv, A, Q, k0, n0, z) (wX9_init  (G0, cy, ad, D, P, tc, tv, A, Q, k0, n0, z)) := (zGw.pt (zGw.nw (zGw.pt (zGw.mn zGw.rf (h 0 _ rfl) (zmn4 (h 1 _ rfl) (h 2 _ rfl) (h 3 _ rfl) (h 4 _ rfl)) 4 (Nat.le_refl _))) (h 5 _ rfl)))
theorem wwX9_init {X : zX}  (h : zAt X (zz X) (lX9_init )) : zGw X (wX9_init  X) := by
  obtain ⟨G0, cy, ad, D, P, tc, tv, A, Q, k0, n0, z⟩ := X
  exact wwX9_init_v h
set_option maxRecDepth 100000 in
theorem weX9_init {X : zX}  : zE X (wX9_init  X) 6 248 := (zE.pt (zE.nw (zE.pt (zE.mn zE.rf 4))))
set_option maxRecDepth 100000 in
theorem smX9_init {A B : zX}  (h : zSm A B) : zSm (wX9_init  A) (wX9_init  B) := (zSm.pt (zSm.nw (zSm.pt (zSm.mn h 4))))
set_option maxRecDepth 100000 in
theorem kX9_init_v {G0 : va_G} {cy : Nat → ClassId} {ad : zPl → Nat} {D : zPl → Prop} {P : zRf} {tc tv : Nat} {A : Nat → Prop} {Q : zMT → Array Value → State → Outcome → State → Prop} {k0 n0 z : Nat}  {I : zMem} (h : ∀ i q, (lX9_init )[i]? = some q → ad q = z + i) (hq : D (6, 0, 0))  : zCk (G0, cy, ad, D, P, tc, tv, A, Q, k0, n0, z) (wX9_init  (G0, cy, ad, D, P, tc, tv, A, Q, k0, n0, z)) mX9_init yX9_init [.ref (ad (6, 0, 0))] I (none, gX9_init  I) := by
  refine zCk_of (by decide +kernel) rfl rfl (fun _ => rfl) ?_
  have hA : zNA (zK (G0, cy, ad, D, P, tc, tv, A, Q, k0, n0, z) (wX9_init  (G0, cy, ad, D, P, tc, tv, A, Q, k0, n0, z))) := fun a h => Or.inr h
  refine zW_aload_n (a := ad (6, 0, 0)) 0 dX9_init_0 rfl ?_
  refine zW_obj oj_RX9_3 rfl dX9_init_1 ?_
  refine zW_aload_n (a := ad (6, 0, 0)) 0 dX9_init_4 rfl ?_
  refine zW_iconst dX9_init_5 ?_
  refine zW_bipush dX9_init_6 rfl ?_
  refine zU_mna (ad (29, 0, 0)) cj_mna aj_byte rfl (h 0 _ rfl) (h 1 _ rfl) (h 2 _ rfl) (h 3 _ rfl) (h 4 _ rfl) hA ⟨Nat.le_of_ble_eq_true rfl, Nat.le_of_ble_eq_true rfl⟩ dX9_init_8 (fun hA => ?_)
  refine zU_putR (q := (6, 0, 0)) (q2 := (29, 0, 0)) (ad (6, 0, 0)) (ad (29, 0, 0)) ⟨rfl, by decide⟩ lj_RX9_11 (fun _ _ _ h => by cases h; rfl) (Or.inr ((Or.inr ((Or.inr ((Or.inr ((Or.inr (hq)))))))))) rfl rfl (fun _ => ⟨rfl, rfl⟩) rfl rfl hA dX9_init_12 (fun hA => ?_)
  refine zW_aload_n (a := ad (6, 0, 0)) 0 dX9_init_15 rfl ?_
  refine zW_iconst dX9_init_16 ?_
  refine zU_newI (q := (31, 0, 0)) (N := 4) (ad (31, 0, 0)) aj_int rfl rfl rfl rfl (h 5 _ rfl) hA ⟨Nat.le_of_ble_eq_true rfl, Nat.le_of_ble_eq_true rfl⟩ dX9_init_17 (fun hA => ?_)
  refine zW_dup dX9_init_19 rfl ?_
  refine zW_iconst dX9_init_20 ?_
  refine zW_iconst dX9_init_21 ?_
  refine zU_iastk (q := (31, 0, 0)) 0 (ad (31, 0, 0)) (by decide +kernel) (Or.inl rfl) rfl (by decide +kernel) rfl dX9_init_22 ?_
  refine zW_dup dX9_init_23 rfl ?_
  refine zW_iconst dX9_init_24 ?_
  refine zW_iconst dX9_init_25 ?_
  refine zU_iastk (q := (31, 0, 0)) 1 (ad (31, 0, 0)) (by decide +kernel) (Or.inl rfl) rfl (by decide +kernel) rfl dX9_init_26 ?_
  refine zW_dup dX9_init_27 rfl ?_
  refine zW_iconst dX9_init_28 ?_
  refine zW_iconst dX9_init_29 ?_
  refine zU_iastk (q := (31, 0, 0)) 2 (ad (31, 0, 0)) (by decide +kernel) (Or.inl rfl) rfl (by decide +kernel) rfl dX9_init_30 ?_
  refine zW_dup dX9_init_31 rfl ?_
  refine zW_iconst dX9_init_32 ?_
  refine zW_iconst dX9_init_33 ?_
  refine zU_iastk (q := (31, 0, 0)) 3 (ad (31, 0, 0)) (by decide +kernel) (Or.inl rfl) rfl (by decide +kernel) rfl dX9_init_34 ?_
  refine zU_putR (q := (6, 0, 0)) (q2 := (31, 0, 0)) (ad (6, 0, 0)) (ad (31, 0, 0)) ⟨rfl, by decide⟩ lj_RX9_16 (fun _ _ _ h => by cases h; rfl) (Or.inr ((Or.inr ((Or.inr ((Or.inr ((Or.inr ((Or.inr (hq)))))))))))) rfl rfl (fun _ => ⟨rfl, rfl⟩) rfl rfl hA dX9_init_35 (fun hA => ?_)
  exact zW_vret (zHk (B := zB (G0, cy, ad, D, P, tc, tv, A, Q, k0, n0, z)) (smX9_init (zSm.K)) rfl rfl) rfl dX9_init_38
theorem kX9_init {X : zX}  {I : zMem} (h : zAt X (zz X) (lX9_init )) (hq : zDom X (6, 0, 0))  : zCk X (wX9_init  X) mX9_init yX9_init [.ref (zad X (6, 0, 0))] I (none, gX9_init  I) := by
  obtain ⟨G0, cy, ad, D, P, tc, tv, A, Q, k0, n0, z⟩ := X
  exact kX9_init_v h hq
def lX11_init  : List zPl := [(1, 0, 0), (16, 0, 0), (17, 0, 0), (2, 0, 0), (18, 0, 0), (19, 0, 0), (20, 0, 0), (3, 0, 0), (21, 0, 0), (4, 0, 0), (22, 0, 0), (23, 0, 0), (24, 0, 0), (25, 0, 0), (26, 0, 0), (27, 0, 0), (5, 0, 0), (28, 0, 0), (7, 0, 0), (8, 0, 0), (32, 0, 0), (33, 0, 0), (34, 0, 0), (35, 0, 0), (36, 0, 0), (10, 0, 0), (37, 0, 0), (10, 0, 1), (37, 0, 1), (10, 0, 2), (37, 0, 2), (10, 0, 3), (37, 0, 3), (10, 0, 4), (37, 0, 4), (10, 0, 5), (37, 0, 5), (10, 0, 6), (37, 0, 6), (10, 0, 7), (37, 0, 7), (9, 0, 0), (38, 0, 0), (39, 0, 0), (40, 0, 0), (11, 0, 0), (41, 0, 0), (11, 0, 1), (41, 0, 1), (11, 0, 2), (41, 0, 2), (11, 0, 3), (41, 0, 3), (11, 0, 4), (41, 0, 4), (11, 0, 5), (41, 0, 5), (11, 0, 6), (41, 0, 6), (11, 0, 7), (41, 0, 7), (6, 0, 0), (29, 0, 0), (30, 0, 0), (30, 0, 1), (30, 0, 2), (30, 0, 3), (31, 0, 0), (7, 1, 0), (8, 1, 0), (32, 1, 0), (33, 1, 0), (34, 1, 0), (35, 1, 0), (36, 1, 0), (10, 1, 0), (37, 1, 0), (10, 1, 1), (37, 1, 1), (10, 1, 2), (37, 1, 2), (10, 1, 3), (37, 1, 3), (10, 1, 4), (37, 1, 4), (10, 1, 5), (37, 1, 5), (10, 1, 6), (37, 1, 6), (10, 1, 7), (37, 1, 7), (9, 1, 0), (38, 1, 0), (39, 1, 0), (40, 1, 0), (11, 1, 0), (41, 1, 0), (11, 1, 1), (41, 1, 1), (11, 1, 2), (41, 1, 2), (11, 1, 3), (41, 1, 3), (11, 1, 4), (41, 1, 4), (11, 1, 5), (41, 1, 5), (11, 1, 6), (41, 1, 6), (11, 1, 7), (41, 1, 7), (12, 0, 0), (13, 0, 0), (14, 0, 0), (15, 0, 0)]
def wX11_init  (X : zX) : zX := (zpt (znw (zpt (znw (zpt (znw (zpt (znw (zpt (wX4_init 1 (znw (zpt (wX9_init (znw (zpt (wX0_init (znw (zpt (wX2_init (znw (zpt (wX10_init (znw (zpt (wX6_init (znw (zpt (wX1_init (znw X (1, 0, 0) 2)) (0, 0, 0) 0 (1, 0, 0)) (2, 0, 0) 3)) (0, 0, 0) 1 (2, 0, 0)) (3, 0, 0) 2)) (0, 0, 0) 2 (3, 0, 0)) (4, 0, 0) 6)) (0, 0, 0) 3 (4, 0, 0)) (5, 0, 0) 6)) (0, 0, 0) 4 (5, 0, 0)) (6, 0, 0) 2)) (0, 0, 0) 5 (6, 0, 0)) (7, 1, 0) 9)) (0, 0, 0) 6 (7, 1, 0)) (12, 0, 0) 2) (0, 0, 0) 7 (12, 0, 0)) (13, 0, 0) 39) (0, 0, 0) 8 (13, 0, 0)) (14, 0, 0) 39) (0, 0, 0) 9 (14, 0, 0)) (15, 0, 0) 256) (0, 0, 0) 10 (15, 0, 0))
def gX11_init (uX6_init : zMem) : zMem := (zzr (zzr (zzr (zzr (gX4_init 1 (zzr (gX9_init (zzr (gX0_init (zzr (gX2_init (zzr (gX10_init (zzr uX6_init (3, 0, 0))) (4, 0, 0))) (5, 0, 0))) (6, 0, 0))) (7, 1, 0))) (12, 0, 0)) (13, 0, 0)) (14, 0, 0)) (15, 0, 0))
set_option maxRecDepth 100000 in
theorem wwX11_init_v {G0 : va_G} {cy : Nat → ClassId} {ad : zPl → Nat} {D : zPl → Prop} {P : zRf} {tc tv : Nat} {A : Nat → Prop} {Q : zMT → Array Value → State → Outcome → State → Prop} {k0 n0 z : Nat}  (h : ∀ i q, (lX11_init )[i]? = some q → ad q = z + i) : zGw (G0, cy, ad, D, P, tc, tv, A, Q, k0, n0, z) (wX11_init  (G0, cy, ad, D, P, tc, tv, A, Q, k0, n0, z)) := (zGw.pt (zGw.nw (zGw.pt (zGw.nw (zGw.pt (zGw.nw (zGw.pt (zGw.nw (zGw.pt (zGw.tr (zGw.nw (zGw.pt (zGw.tr (zGw.nw (zGw.pt (zGw.tr (zGw.nw (zGw.pt (zGw.tr (zGw.nw (zGw.pt (zGw.tr (zGw.nw (zGw.pt (zGw.tr (zGw.nw (zGw.pt (zGw.tr (zGw.nw zGw.rf (h 0 _ rfl)) (wwX1_init (zAt.of (n := 1) (l2 := lX1_init ) rfl rfl h rfl)))) (h 3 _ rfl)) (wwX6_init (zAt.of (n := 4) (l2 := lX6_init ) rfl rfl h rfl)))) (h 7 _ rfl)) (wwX10_init (zAt.of (n := 8) (l2 := lX10_init ) rfl rfl h rfl)))) (h 9 _ rfl)) (wwX2_init (zAt.of (n := 10) (l2 := lX2_init ) rfl rfl h rfl)))) (h 16 _ rfl)) (wwX0_init (zAt.of (n := 17) (l2 := lX0_init ) rfl rfl h rfl)))) (h 61 _ rfl)) (wwX9_init (zAt.of (n := 62) (l2 := lX9_init ) rfl rfl h rfl)))) (h 68 _ rfl)) (wwX4_init (zAt.of (n := 69) (l2 := lX4_init 1) rfl rfl h rfl)))) (h 111 _ rfl))) (h 112 _ rfl))) (h 113 _ rfl))) (h 114 _ rfl)))
theorem wwX11_init {X : zX}  (h : zAt X (zz X) (lX11_init )) : zGw X (wX11_init  X) := by
  obtain ⟨G0, cy, ad, D, P, tc, tv, A, Q, k0, n0, z⟩ := X
  exact wwX11_init_v h
set_option maxRecDepth 100000 in
theorem weX11_init {X : zX}  : zE X (wX11_init  X) 115 7409 := (zE.pt (zE.nw (zE.pt (zE.nw (zE.pt (zE.nw (zE.pt (zE.nw (zE.pt (zE.tr (zE.nw (zE.pt (zE.tr (zE.nw (zE.pt (zE.tr (zE.nw (zE.pt (zE.tr (zE.nw (zE.pt (zE.tr (zE.nw (zE.pt (zE.tr (zE.nw (zE.pt (zE.tr (zE.nw zE.rf) weX1_init))) weX6_init))) weX10_init))) weX2_init))) weX0_init))) weX9_init))) weX4_init))))))))))
set_option maxRecDepth 100000 in
theorem smX11_init {A B : zX}  (h : zSm A B) : zSm (wX11_init  A) (wX11_init  B) := (zSm.pt (zSm.nw (zSm.pt (zSm.nw (zSm.pt (zSm.nw (zSm.pt (zSm.nw (zSm.pt (smX4_init (zSm.nw (zSm.pt (smX9_init (zSm.nw (zSm.pt (smX0_init (zSm.nw (zSm.pt (smX2_init (zSm.nw (zSm.pt (smX10_init (zSm.nw (zSm.pt (smX6_init (zSm.nw (zSm.pt (smX1_init (zSm.nw h)))))))))))))))))))))))))))))
set_option maxRecDepth 100000 in
theorem kX11_init_v {G0 : va_G} {cy : Nat → ClassId} {ad : zPl → Nat} {D : zPl → Prop} {P : zRf} {tc tv : Nat} {A : Nat → Prop} {Q : zMT → Array Value → State → Outcome → State → Prop} {k0 n0 z : Nat}  {I : zMem} (h : ∀ i q, (lX11_init )[i]? = some q → ad q = z + i) (hq : D (0, 0, 0)) {uX1_init uX6_init : zMem} (hfX1_init : fX1_init (gX1_init (zzr I (1, 0, 0))) = some uX1_init) (hfX6_init : fX6_init (gX6_init (zzr uX1_init (2, 0, 0))) = some uX6_init) : zCk (G0, cy, ad, D, P, tc, tv, A, Q, k0, n0, z) (wX11_init  (G0, cy, ad, D, P, tc, tv, A, Q, k0, n0, z)) mX11_init yX11_init [.ref (ad (0, 0, 0))] I (none, gX11_init uX6_init) := by
  refine zCk_of (by decide +kernel) rfl rfl (fun _ => rfl) ?_
  have hA : zNA (zK (G0, cy, ad, D, P, tc, tv, A, Q, k0, n0, z) (wX11_init  (G0, cy, ad, D, P, tc, tv, A, Q, k0, n0, z))) := fun a h => Or.inr h
  refine zW_aload_n (a := ad (0, 0, 0)) 0 dX11_init_0 rfl ?_
  refine zW_obj oj_RX11_3 rfl dX11_init_1 ?_
  refine zW_aload_n (a := ad (0, 0, 0)) 0 dX11_init_4 rfl ?_
  refine zU_new (q := (1, 0, 0)) (ad (1, 0, 0)) nj_RX11_9 rfl rfl (h 0 _ rfl) hA ⟨Nat.le_of_ble_eq_true rfl, Nat.le_of_ble_eq_true rfl⟩ dX11_init_5 (fun hA => ?_)
  refine zW_dup dX11_init_8 rfl ?_
  refine zU_ini (q := (1, 0, 0)) (As := []) (ad (1, 0, 0)) (kX1_init (zAt.of (n := 1) (l2 := lX1_init ) rfl rfl h rfl) (Or.inl rfl) hfX1_init) (Or.inl yj_RX11_11) ij_X1_init (wwX1_init (zAt.of (n := 1) (l2 := lX1_init ) rfl rfl h rfl)) weX1_init ⟨rfl, rfl⟩ rfl hA ⟨Nat.le_of_ble_eq_true rfl, Nat.le_of_ble_eq_true rfl⟩ rfl rfl rfl rfl dX11_init_9 (fun hA => ?_)
  refine zU_putR (q := (0, 0, 0)) (q2 := (1, 0, 0)) (ad (0, 0, 0)) (ad (1, 0, 0)) ⟨rfl, by decide⟩ lj_RX11_12 (fun _ _ _ h => by cases h; rfl) (Or.inr ((Or.inr ((Or.inr (hq)))))) rfl rfl (fun _ => ⟨rfl, rfl⟩) rfl rfl hA dX11_init_12 (fun hA => ?_)
  refine zW_aload_n (a := ad (0, 0, 0)) 0 dX11_init_15 rfl ?_
  refine zU_new (q := (2, 0, 0)) (ad (2, 0, 0)) nj_RX11_16 rfl rfl (h 3 _ rfl) hA ⟨Nat.le_of_ble_eq_true rfl, Nat.le_of_ble_eq_true rfl⟩ dX11_init_16 (fun hA => ?_)
  refine zW_dup dX11_init_19 rfl ?_
  refine zU_ini (q := (2, 0, 0)) (As := []) (ad (2, 0, 0)) (kX6_init (zAt.of (n := 4) (l2 := lX6_init ) rfl rfl h rfl) (Or.inl rfl) hfX6_init) (Or.inl yj_RX11_18) ij_X6_init (wwX6_init (zAt.of (n := 4) (l2 := lX6_init ) rfl rfl h rfl)) weX6_init ⟨rfl, rfl⟩ rfl hA ⟨Nat.le_of_ble_eq_true rfl, Nat.le_of_ble_eq_true rfl⟩ rfl rfl rfl rfl dX11_init_20 (fun hA => ?_)
  refine zU_putR (q := (0, 0, 0)) (q2 := (2, 0, 0)) (ad (0, 0, 0)) (ad (2, 0, 0)) ⟨rfl, by decide⟩ lj_RX11_19 (fun _ _ _ h => by cases h; rfl) (Or.inr ((Or.inr ((Or.inr ((Or.inr ((Or.inr ((Or.inr ((Or.inr (hq)))))))))))))) rfl rfl (fun _ => ⟨rfl, rfl⟩) rfl rfl hA dX11_init_23 (fun hA => ?_)
  refine zW_aload_n (a := ad (0, 0, 0)) 0 dX11_init_26 rfl ?_
  refine zU_new (q := (3, 0, 0)) (ad (3, 0, 0)) nj_RX11_23 rfl rfl (h 7 _ rfl) hA ⟨Nat.le_of_ble_eq_true rfl, Nat.le_of_ble_eq_true rfl⟩ dX11_init_27 (fun hA => ?_)
  refine zW_dup dX11_init_30 rfl ?_
  refine zU_ini (q := (3, 0, 0)) (As := []) (ad (3, 0, 0)) (kX10_init (zAt.of (n := 8) (l2 := lX10_init ) rfl rfl h rfl) (Or.inl rfl)) (Or.inr ⟨RX11, fun U h => h.2.2.1⟩) ij_X10_init (wwX10_init (zAt.of (n := 8) (l2 := lX10_init ) rfl rfl h rfl)) weX10_init ⟨rfl, rfl⟩ rfl hA ⟨Nat.le_of_ble_eq_true rfl, Nat.le_of_ble_eq_true rfl⟩ rfl rfl rfl rfl dX11_init_31 (fun hA => ?_)
  refine zU_putR (q := (0, 0, 0)) (q2 := (3, 0, 0)) (ad (0, 0, 0)) (ad (3, 0, 0)) ⟨rfl, by decide⟩ lj_RX11_26 (fun _ _ _ h => by cases h; rfl) (Or.inr ((Or.inr ((Or.inr ((Or.inr ((Or.inr ((Or.inr ((Or.inr ((Or.inr ((Or.inr (hq)))))))))))))))))) rfl rfl (fun _ => ⟨rfl, rfl⟩) rfl rfl hA dX11_init_34 (fun hA => ?_)
  refine zW_aload_n (a := ad (0, 0, 0)) 0 dX11_init_37 rfl ?_
  refine zU_new (q := (4, 0, 0)) (ad (4, 0, 0)) nj_RX11_30 rfl rfl (h 9 _ rfl) hA ⟨Nat.le_of_ble_eq_true rfl, Nat.le_of_ble_eq_true rfl⟩ dX11_init_38 (fun hA => ?_)
  refine zW_dup dX11_init_41 rfl ?_
  refine zU_ini (q := (4, 0, 0)) (As := []) (ad (4, 0, 0)) (kX2_init (zAt.of (n := 10) (l2 := lX2_init ) rfl rfl h rfl) (Or.inl rfl)) (Or.inr ⟨RX11, fun U h => h.2.2.2.1⟩) ij_X2_init (wwX2_init (zAt.of (n := 10) (l2 := lX2_init ) rfl rfl h rfl)) weX2_init ⟨rfl, rfl⟩ rfl hA ⟨Nat.le_of_ble_eq_true rfl, Nat.le_of_ble_eq_true rfl⟩ rfl rfl rfl rfl dX11_init_42 (fun hA => ?_)
  refine zU_putR (q := (0, 0, 0)) (q2 := (4, 0, 0)) (ad (0, 0, 0)) (ad (4, 0, 0)) ⟨rfl, by decide⟩ lj_RX11_33 (fun _ _ _ h => by cases h; rfl) (Or.inr ((Or.inr ((Or.inr ((Or.inr ((Or.inr ((Or.inr ((Or.inr ((Or.inr ((Or.inr ((Or.inr ((Or.inr ((Or.inr ((Or.inr ((Or.inr ((Or.inr ((Or.inr (hq)))))))))))))))))))))))))))))))) rfl rfl (fun _ => ⟨rfl, rfl⟩) rfl rfl hA dX11_init_45 (fun hA => ?_)
  refine zW_aload_n (a := ad (0, 0, 0)) 0 dX11_init_48 rfl ?_
  refine zU_new (q := (5, 0, 0)) (ad (5, 0, 0)) nj_RX11_37 rfl rfl (h 16 _ rfl) hA ⟨Nat.le_of_ble_eq_true rfl, Nat.le_of_ble_eq_true rfl⟩ dX11_init_49 (fun hA => ?_)
  refine zW_dup dX11_init_52 rfl ?_
  refine zW_aload_n (a := ad (0, 0, 0)) 0 dX11_init_53 rfl ?_
  refine zU_getR (q := (0, 0, 0)) (q' := (1, 0, 0)) (ad (0, 0, 0)) (ad (1, 0, 0)) lj_RX11_12 (Or.inr ((Or.inr ((Or.inr ((Or.inr ((Or.inr ((Or.inr ((Or.inr ((Or.inr ((Or.inr ((Or.inr ((Or.inr ((Or.inr ((Or.inr ((Or.inr ((Or.inr ((Or.inr ((Or.inr (hq)))))))))))))))))))))))))))))))))) rfl rfl (by simp [zP_pt, zP_nw, wX10_init, wX1_init, wX2_init, wX6_init]) rfl rfl dX11_init_54 ?_
  refine zW_aload_n (a := ad (0, 0, 0)) 0 dX11_init_57 rfl ?_
  refine zU_getR (q := (0, 0, 0)) (q' := (2, 0, 0)) (ad (0, 0, 0)) (ad (2, 0, 0)) lj_RX11_19 (Or.inr ((Or.inr ((Or.inr ((Or.inr ((Or.inr ((Or.inr ((Or.inr ((Or.inr ((Or.inr ((Or.inr ((Or.inr ((Or.inr ((Or.inr ((Or.inr ((Or.inr ((Or.inr ((Or.inr (hq)))))))))))))))))))))))))))))))))) rfl rfl (by simp [zP_pt, zP_nw, wX10_init, wX1_init, wX2_init, wX6_init]) rfl rfl dX11_init_58 ?_
  refine zW_aload_n (a := ad (0, 0, 0)) 0 dX11_init_61 rfl ?_
  refine zU_getR (q := (0, 0, 0)) (q' := (4, 0, 0)) (ad (0, 0, 0)) (ad (4, 0, 0)) lj_RX11_33 (Or.inr ((Or.inr ((Or.inr ((Or.inr ((Or.inr ((Or.inr ((Or.inr ((Or.inr ((Or.inr ((Or.inr ((Or.inr ((Or.inr ((Or.inr ((Or.inr ((Or.inr ((Or.inr ((Or.inr (hq)))))))))))))))))))))))))))))))))) rfl rfl (by simp [zP_pt, zP_nw, wX10_init, wX1_init, wX2_init, wX6_init]) rfl rfl dX11_init_62 ?_
  refine zU_ini (q := (5, 0, 0)) (As := [.ref (ad (1, 0, 0)), .ref (ad (2, 0, 0)), .ref (ad (4, 0, 0))]) (ad (5, 0, 0)) (kX0_init (zAt.of (n := 17) (l2 := lX0_init ) rfl rfl h rfl) (Or.inl rfl) (Or.inr ((Or.inr ((Or.inr ((Or.inr ((Or.inr ((Or.inr ((Or.inr ((Or.inr ((Or.inr ((Or.inr ((Or.inr ((Or.inr ((Or.inr ((Or.inr ((Or.inr ((Or.inr (Or.inl rfl)))))))))))))))))))))))))))))))) (Or.inr ((Or.inr ((Or.inr ((Or.inr ((Or.inr ((Or.inr ((Or.inr ((Or.inr ((Or.inr ((Or.inr ((Or.inr ((Or.inr ((Or.inr (Or.inl rfl)))))))))))))))))))))))))) (Or.inr ((Or.inr ((Or.inr ((Or.inr ((Or.inr ((Or.inr ((Or.inr (Or.inl rfl))))))))))))))) (Or.inl yj_RX11_39) ij_X0_init (wwX0_init (zAt.of (n := 17) (l2 := lX0_init ) rfl rfl h rfl)) weX0_init ⟨rfl, rfl⟩ rfl hA ⟨Nat.le_of_ble_eq_true rfl, Nat.le_of_ble_eq_true rfl⟩ rfl rfl rfl rfl dX11_init_65 (fun hA => ?_)
  refine zU_putR (q := (0, 0, 0)) (q2 := (5, 0, 0)) (ad (0, 0, 0)) (ad (5, 0, 0)) ⟨rfl, by decide⟩ lj_RX11_42 (fun _ _ _ h => by cases h; rfl) (Or.inr ((Or.inr ((Or.inr ((Or.inr ((Or.inr ((Or.inr ((Or.inr ((Or.inr ((Or.inr ((Or.inr ((Or.inr ((Or.inr ((Or.inr ((Or.inr ((Or.inr ((Or.inr ((Or.inr ((Or.inr ((Or.inr ((Or.inr ((Or.inr ((Or.inr ((Or.inr ((Or.inr ((Or.inr ((Or.inr ((Or.inr ((Or.inr ((Or.inr ((Or.inr ((Or.inr ((Or.inr ((Or.inr ((Or.inr ((Or.inr ((Or.inr ((Or.inr ((Or.inr ((Or.inr ((Or.inr ((Or.inr ((Or.inr ((Or.inr ((Or.inr ((Or.inr ((Or.inr ((Or.inr ((Or.inr ((Or.inr ((Or.inr ((Or.inr ((Or.inr ((Or.inr ((Or.inr ((Or.inr ((Or.inr ((Or.inr ((Or.inr ((Or.inr ((Or.inr ((Or.inr (hq)))))))))))))))))))))))))))))))))))))))))))))))))))))))))))))))))))))))))))))))))))))))))))))))))))))))))))))))))))))))))) rfl rfl (fun _ => ⟨rfl, rfl⟩) rfl rfl hA dX11_init_68 (fun hA => ?_)
  refine zW_aload_n (a := ad (0, 0, 0)) 0 dX11_init_71 rfl ?_
  refine zU_new (q := (6, 0, 0)) (ad (6, 0, 0)) nj_RX11_46 rfl rfl (h 61 _ rfl) hA ⟨Nat.le_of_ble_eq_true rfl, Nat.le_of_ble_eq_true rfl⟩ dX11_init_72 (fun hA => ?_)
  refine zW_dup dX11_init_75 rfl ?_
  refine zU_ini (q := (6, 0, 0)) (As := []) (ad (6, 0, 0)) (kX9_init (zAt.of (n := 62) (l2 := lX9_init ) rfl rfl h rfl) (Or.inl rfl)) (Or.inr ⟨RX11, fun U h => h.2.2.2.2.2.2.2.1⟩) ij_X9_init (wwX9_init (zAt.of (n := 62) (l2 := lX9_init ) rfl rfl h rfl)) weX9_init ⟨rfl, rfl⟩ rfl hA ⟨Nat.le_of_ble_eq_true rfl, Nat.le_of_ble_eq_true rfl⟩ rfl rfl rfl rfl dX11_init_76 (fun hA => ?_)
  refine zU_putR (q := (0, 0, 0)) (q2 := (6, 0, 0)) (ad (0, 0, 0)) (ad (6, 0, 0)) ⟨rfl, by decide⟩ lj_RX11_49 (fun _ _ _ h => by cases h; rfl) (Or.inr ((Or.inr ((Or.inr ((Or.inr ((Or.inr ((Or.inr ((Or.inr ((Or.inr ((Or.inr ((Or.inr ((Or.inr ((Or.inr ((Or.inr ((Or.inr ((Or.inr ((Or.inr ((Or.inr ((Or.inr ((Or.inr ((Or.inr ((Or.inr ((Or.inr ((Or.inr ((Or.inr ((Or.inr ((Or.inr ((Or.inr ((Or.inr ((Or.inr ((Or.inr ((Or.inr ((Or.inr ((Or.inr ((Or.inr ((Or.inr ((Or.inr ((Or.inr ((Or.inr ((Or.inr ((Or.inr ((Or.inr ((Or.inr ((Or.inr ((Or.inr ((Or.inr ((Or.inr ((Or.inr ((Or.inr ((Or.inr ((Or.inr ((Or.inr ((Or.inr ((Or.inr ((Or.inr ((Or.inr ((Or.inr ((Or.inr ((Or.inr ((Or.inr ((Or.inr ((Or.inr ((Or.inr ((Or.inr ((Or.inr ((Or.inr ((Or.inr ((Or.inr ((Or.inr (hq)))))))))))))))))))))))))))))))))))))))))))))))))))))))))))))))))))))))))))))))))))))))))))))))))))))))))))))))))))))))))))))))))))))))) rfl rfl (fun _ => ⟨rfl, rfl⟩) rfl rfl hA dX11_init_79 (fun hA => ?_)
  refine zW_aload_n (a := ad (0, 0, 0)) 0 dX11_init_82 rfl ?_
  refine zU_new (q := (7, 1, 0)) (ad (7, 1, 0)) nj_RX11_53 rfl rfl (h 68 _ rfl) hA ⟨Nat.le_of_ble_eq_true rfl, Nat.le_of_ble_eq_true rfl⟩ dX11_init_83 (fun hA => ?_)
  refine zW_dup dX11_init_86 rfl ?_
  refine zU_ini (q := (7, 1, 0)) (As := []) (ad (7, 1, 0)) (kX4_init (zAt.of (n := 69) (l2 := lX4_init 1) rfl rfl h rfl) (Or.inl rfl)) (Or.inr ⟨RX11, fun U h => h.2.2.2.2.2.2.2.2.1⟩) ij_X4_init (wwX4_init (zAt.of (n := 69) (l2 := lX4_init 1) rfl rfl h rfl)) weX4_init ⟨rfl, rfl⟩ rfl hA ⟨Nat.le_of_ble_eq_true rfl, Nat.le_of_ble_eq_true rfl⟩ rfl rfl rfl rfl dX11_init_87 (fun hA => ?_)
  refine zU_putR (q := (0, 0, 0)) (q2 := (7, 1, 0)) (ad (0, 0, 0)) (ad (7, 1, 0)) ⟨rfl, by decide⟩ lj_RX11_56 (fun _ _ _ h => by cases h; rfl) (Or.inr ((Or.inr ((Or.inr ((Or.inr ((Or.inr ((Or.inr ((Or.inr ((Or.inr ((Or.inr ((Or.inr ((Or.inr ((Or.inr ((Or.inr ((Or.inr ((Or.inr ((Or.inr ((Or.inr ((Or.inr ((Or.inr ((Or.inr ((Or.inr ((Or.inr ((Or.inr ((Or.inr ((Or.inr ((Or.inr ((Or.inr ((Or.inr ((Or.inr ((Or.inr ((Or.inr ((Or.inr ((Or.inr ((Or.inr ((Or.inr ((Or.inr ((Or.inr ((Or.inr ((Or.inr ((Or.inr ((Or.inr ((Or.inr ((Or.inr ((Or.inr ((Or.inr ((Or.inr ((Or.inr ((Or.inr ((Or.inr ((Or.inr ((Or.inr ((Or.inr ((Or.inr ((Or.inr ((Or.inr ((Or.inr ((Or.inr ((Or.inr ((Or.inr ((Or.inr ((Or.inr ((Or.inr ((Or.inr ((Or.inr ((Or.inr ((Or.inr ((Or.inr ((Or.inr ((Or.inr ((Or.inr ((Or.inr ((Or.inr ((Or.inr ((Or.inr ((Or.inr ((Or.inr ((Or.inr ((Or.inr ((Or.inr ((Or.inr ((Or.inr ((Or.inr ((Or.inr ((Or.inr ((Or.inr ((Or.inr ((Or.inr ((Or.inr ((Or.inr ((Or.inr ((Or.inr ((Or.inr ((Or.inr ((Or.inr ((Or.inr ((Or.inr ((Or.inr ((Or.inr ((Or.inr ((Or.inr ((Or.inr ((Or.inr ((Or.inr ((Or.inr ((Or.inr ((Or.inr ((Or.inr ((Or.inr ((Or.inr ((Or.inr ((Or.inr (hq)))))))))))))))))))))))))))))))))))))))))))))))))))))))))))))))))))))))))))))))))))))))))))))))))))))))))))))))))))))))))))))))))))))))))))))))))))))))))))))))))))))))))))))))))))))))))))))))))))))))))))))))))))))))))))))) rfl rfl (fun _ => ⟨rfl, rfl⟩) rfl rfl hA dX11_init_90 (fun hA => ?_)
  refine zW_aload_n (a := ad (0, 0, 0)) 0 dX11_init_93 rfl ?_
  refine zW_iconst dX11_init_94 ?_
  refine zU_newR (q := (12, 0, 0)) (N := 2) (ad (12, 0, 0)) 5 cj_RX11_53 (fun U h => h.2.2.2.2.2.2.2.2.2.2.1) rfl rfl rfl rfl rfl (h 111 _ rfl) hA ⟨Nat.le_of_ble_eq_true rfl, Nat.le_of_ble_eq_true rfl⟩ dX11_init_95 (fun hA => ?_)
  refine zU_putR (q := (0, 0, 0)) (q2 := (12, 0, 0)) (ad (0, 0, 0)) (ad (12, 0, 0)) ⟨rfl, by decide⟩ lj_RX11_60 (fun _ _ _ h => by cases h; rfl) (Or.inr ((Or.inr ((Or.inr ((Or.inr ((Or.inr ((Or.inr ((Or.inr ((Or.inr ((Or.inr ((Or.inr ((Or.inr ((Or.inr ((Or.inr ((Or.inr ((Or.inr ((Or.inr ((Or.inr ((Or.inr ((Or.inr ((Or.inr ((Or.inr ((Or.inr ((Or.inr ((Or.inr ((Or.inr ((Or.inr ((Or.inr ((Or.inr ((Or.inr ((Or.inr ((Or.inr ((Or.inr ((Or.inr ((Or.inr ((Or.inr ((Or.inr ((Or.inr ((Or.inr ((Or.inr ((Or.inr ((Or.inr ((Or.inr ((Or.inr ((Or.inr ((Or.inr ((Or.inr ((Or.inr ((Or.inr ((Or.inr ((Or.inr ((Or.inr ((Or.inr ((Or.inr ((Or.inr ((Or.inr ((Or.inr ((Or.inr ((Or.inr ((Or.inr ((Or.inr ((Or.inr ((Or.inr ((Or.inr ((Or.inr ((Or.inr ((Or.inr ((Or.inr ((Or.inr ((Or.inr ((Or.inr ((Or.inr ((Or.inr ((Or.inr ((Or.inr ((Or.inr ((Or.inr ((Or.inr ((Or.inr ((Or.inr ((Or.inr ((Or.inr ((Or.inr ((Or.inr ((Or.inr ((Or.inr ((Or.inr ((Or.inr ((Or.inr ((Or.inr ((Or.inr ((Or.inr ((Or.inr ((Or.inr ((Or.inr ((Or.inr ((Or.inr ((Or.inr ((Or.inr ((Or.inr ((Or.inr ((Or.inr ((Or.inr ((Or.inr ((Or.inr ((Or.inr ((Or.inr ((Or.inr ((Or.inr ((Or.inr ((Or.inr ((Or.inr ((Or.inr (hq)))))))))))))))))))))))))))))))))))))))))))))))))))))))))))))))))))))))))))))))))))))))))))))))))))))))))))))))))))))))))))))))))))))))))))))))))))))))))))))))))))))))))))))))))))))))))))))))))))))))))))))))))))))))))))))))) rfl rfl (fun _ => ⟨rfl, rfl⟩) rfl rfl hA dX11_init_98 (fun hA => ?_)
  refine zW_aload_n (a := ad (0, 0, 0)) 0 dX11_init_101 rfl ?_
  refine zW_bipush dX11_init_102 rfl ?_
  refine zU_newI (q := (13, 0, 0)) (N := 39) (ad (13, 0, 0)) aj_int rfl rfl rfl rfl (h 112 _ rfl) hA ⟨Nat.le_of_ble_eq_true rfl, Nat.le_of_ble_eq_true rfl⟩ dX11_init_104 (fun hA => ?_)
  refine zU_putR (q := (0, 0, 0)) (q2 := (13, 0, 0)) (ad (0, 0, 0)) (ad (13, 0, 0)) ⟨rfl, by decide⟩ lj_RX11_64 (fun _ _ _ h => by cases h; rfl) (Or.inr ((Or.inr ((Or.inr ((Or.inr ((Or.inr ((Or.inr ((Or.inr ((Or.inr ((Or.inr ((Or.inr ((Or.inr ((Or.inr ((Or.inr ((Or.inr ((Or.inr ((Or.inr ((Or.inr ((Or.inr ((Or.inr ((Or.inr ((Or.inr ((Or.inr ((Or.inr ((Or.inr ((Or.inr ((Or.inr ((Or.inr ((Or.inr ((Or.inr ((Or.inr ((Or.inr ((Or.inr ((Or.inr ((Or.inr ((Or.inr ((Or.inr ((Or.inr ((Or.inr ((Or.inr ((Or.inr ((Or.inr ((Or.inr ((Or.inr ((Or.inr ((Or.inr ((Or.inr ((Or.inr ((Or.inr ((Or.inr ((Or.inr ((Or.inr ((Or.inr ((Or.inr ((Or.inr ((Or.inr ((Or.inr ((Or.inr ((Or.inr ((Or.inr ((Or.inr ((Or.inr ((Or.inr ((Or.inr ((Or.inr ((Or.inr ((Or.inr ((Or.inr ((Or.inr ((Or.inr ((Or.inr ((Or.inr ((Or.inr ((Or.inr ((Or.inr ((Or.inr ((Or.inr ((Or.inr ((Or.inr ((Or.inr ((Or.inr ((Or.inr ((Or.inr ((Or.inr ((Or.inr ((Or.inr ((Or.inr ((Or.inr ((Or.inr ((Or.inr ((Or.inr ((Or.inr ((Or.inr ((Or.inr ((Or.inr ((Or.inr ((Or.inr ((Or.inr ((Or.inr ((Or.inr ((Or.inr ((Or.inr ((Or.inr ((Or.inr ((Or.inr ((Or.inr ((Or.inr ((Or.inr ((Or.inr ((Or.inr ((Or.inr ((Or.inr ((Or.inr ((Or.inr (hq)))))))))))))))))))))))))))))))))))))))))))))))))))))))))))))))))))))))))))))))))))))))))))))))))))))))))))))))))))))))))))))))))))))))))))))))))))))))))))))))))))))))))))))))))))))))))))))))))))))))))))))))))))))))))))))))))) rfl rfl (fun _ => ⟨rfl, rfl⟩) rfl rfl hA dX11_init_106 (fun hA => ?_)
  refine zW_aload_n (a := ad (0, 0, 0)) 0 dX11_init_109 rfl ?_
  refine zW_bipush dX11_init_110 rfl ?_
  refine zU_newI (q := (14, 0, 0)) (N := 39) (ad (14, 0, 0)) aj_int rfl rfl rfl rfl (h 113 _ rfl) hA ⟨Nat.le_of_ble_eq_true rfl, Nat.le_of_ble_eq_true rfl⟩ dX11_init_112 (fun hA => ?_)
  refine zU_putR (q := (0, 0, 0)) (q2 := (14, 0, 0)) (ad (0, 0, 0)) (ad (14, 0, 0)) ⟨rfl, by decide⟩ lj_RX11_68 (fun _ _ _ h => by cases h; rfl) (Or.inr ((Or.inr ((Or.inr ((Or.inr ((Or.inr ((Or.inr ((Or.inr ((Or.inr ((Or.inr ((Or.inr ((Or.inr ((Or.inr ((Or.inr ((Or.inr ((Or.inr ((Or.inr ((Or.inr ((Or.inr ((Or.inr ((Or.inr ((Or.inr ((Or.inr ((Or.inr ((Or.inr ((Or.inr ((Or.inr ((Or.inr ((Or.inr ((Or.inr ((Or.inr ((Or.inr ((Or.inr ((Or.inr ((Or.inr ((Or.inr ((Or.inr ((Or.inr ((Or.inr ((Or.inr ((Or.inr ((Or.inr ((Or.inr ((Or.inr ((Or.inr ((Or.inr ((Or.inr ((Or.inr ((Or.inr ((Or.inr ((Or.inr ((Or.inr ((Or.inr ((Or.inr ((Or.inr ((Or.inr ((Or.inr ((Or.inr ((Or.inr ((Or.inr ((Or.inr ((Or.inr ((Or.inr ((Or.inr ((Or.inr ((Or.inr ((Or.inr ((Or.inr ((Or.inr ((Or.inr ((Or.inr ((Or.inr ((Or.inr ((Or.inr ((Or.inr ((Or.inr ((Or.inr ((Or.inr ((Or.inr ((Or.inr ((Or.inr ((Or.inr ((Or.inr ((Or.inr ((Or.inr ((Or.inr ((Or.inr ((Or.inr ((Or.inr ((Or.inr ((Or.inr ((Or.inr ((Or.inr ((Or.inr ((Or.inr ((Or.inr ((Or.inr ((Or.inr ((Or.inr ((Or.inr ((Or.inr ((Or.inr ((Or.inr ((Or.inr ((Or.inr ((Or.inr ((Or.inr ((Or.inr ((Or.inr ((Or.inr ((Or.inr ((Or.inr ((Or.inr ((Or.inr ((Or.inr (hq)))))))))))))))))))))))))))))))))))))))))))))))))))))))))))))))))))))))))))))))))))))))))))))))))))))))))))))))))))))))))))))))))))))))))))))))))))))))))))))))))))))))))))))))))))))))))))))))))))))))))))))))))))))))))))))))))))) rfl rfl (fun _ => ⟨rfl, rfl⟩) rfl rfl hA dX11_init_114 (fun hA => ?_)
  refine zW_aload_n (a := ad (0, 0, 0)) 0 dX11_init_117 rfl ?_
  refine zW_sipush dX11_init_118 rfl ?_
  refine zU_newL (q := (15, 0, 0)) (N := 256) (ad (15, 0, 0)) aj_long rfl rfl rfl rfl (h 114 _ rfl) hA ⟨Nat.le_of_ble_eq_true rfl, Nat.le_of_ble_eq_true rfl⟩ dX11_init_121 (fun hA => ?_)
  refine zU_putR (q := (0, 0, 0)) (q2 := (15, 0, 0)) (ad (0, 0, 0)) (ad (15, 0, 0)) ⟨rfl, by decide⟩ lj_RX11_71 (fun _ _ _ h => by cases h; rfl) (Or.inr ((Or.inr ((Or.inr ((Or.inr ((Or.inr ((Or.inr ((Or.inr ((Or.inr ((Or.inr ((Or.inr ((Or.inr ((Or.inr ((Or.inr ((Or.inr ((Or.inr ((Or.inr ((Or.inr ((Or.inr ((Or.inr ((Or.inr ((Or.inr ((Or.inr ((Or.inr ((Or.inr ((Or.inr ((Or.inr ((Or.inr ((Or.inr ((Or.inr ((Or.inr ((Or.inr ((Or.inr ((Or.inr ((Or.inr ((Or.inr ((Or.inr ((Or.inr ((Or.inr ((Or.inr ((Or.inr ((Or.inr ((Or.inr ((Or.inr ((Or.inr ((Or.inr ((Or.inr ((Or.inr ((Or.inr ((Or.inr ((Or.inr ((Or.inr ((Or.inr ((Or.inr ((Or.inr ((Or.inr ((Or.inr ((Or.inr ((Or.inr ((Or.inr ((Or.inr ((Or.inr ((Or.inr ((Or.inr ((Or.inr ((Or.inr ((Or.inr ((Or.inr ((Or.inr ((Or.inr ((Or.inr ((Or.inr ((Or.inr ((Or.inr ((Or.inr ((Or.inr ((Or.inr ((Or.inr ((Or.inr ((Or.inr ((Or.inr ((Or.inr ((Or.inr ((Or.inr ((Or.inr ((Or.inr ((Or.inr ((Or.inr ((Or.inr ((Or.inr ((Or.inr ((Or.inr ((Or.inr ((Or.inr ((Or.inr ((Or.inr ((Or.inr ((Or.inr ((Or.inr ((Or.inr ((Or.inr ((Or.inr ((Or.inr ((Or.inr ((Or.inr ((Or.inr ((Or.inr ((Or.inr ((Or.inr ((Or.inr ((Or.inr ((Or.inr ((Or.inr ((Or.inr ((Or.inr ((Or.inr (hq)))))))))))))))))))))))))))))))))))))))))))))))))))))))))))))))))))))))))))))))))))))))))))))))))))))))))))))))))))))))))))))))))))))))))))))))))))))))))))))))))))))))))))))))))))))))))))))))))))))))))))))))))))))))))))))))))))))) rfl rfl (fun _ => ⟨rfl, rfl⟩) rfl rfl hA dX11_init_123 (fun hA => ?_)
  exact zW_vret (zHk (B := zB (G0, cy, ad, D, P, tc, tv, A, Q, k0, n0, z)) (smX11_init (zSm.K)) rfl rfl) rfl dX11_init_126
theorem kX11_init {X : zX}  {I : zMem} (h : zAt X (zz X) (lX11_init )) (hq : zDom X (0, 0, 0)) {uX1_init uX6_init : zMem} (hfX1_init : fX1_init (gX1_init (zzr I (1, 0, 0))) = some uX1_init) (hfX6_init : fX6_init (gX6_init (zzr uX1_init (2, 0, 0))) = some uX6_init) : zCk X (wX11_init  X) mX11_init yX11_init [.ref (zad X (0, 0, 0))] I (none, gX11_init uX6_init) := by
  obtain ⟨G0, cy, ad, D, P, tc, tv, A, Q, k0, n0, z⟩ := X
  exact kX11_init_v h hq hfX1_init hfX6_init
def lX12_init  : List zPl := [(51, 0, 0), (52, 0, 0), (53, 0, 0), (54, 0, 0), (55, 0, 0), (56, 0, 0), (57, 0, 0), (58, 0, 0), (59, 0, 0), (60, 0, 0), (61, 0, 0), (62, 0, 0), (63, 0, 0), (64, 0, 0), (65, 0, 0), (66, 0, 0), (67, 0, 0)]
def wX12_init  (X : zX) : zX := (zpt (znw (zpt (znw (zpt (znw (zpt (znw (zpt (znw (zpt (znw (zpt (znw (zpt (znw (zpt (znw (zpt (znw (zpt (znw (zpt (znw (zpt (znw (zpt (znw (zpt (znw (zpt (znw (zpt (znw X (51, 0, 0) 3099) (50, 0, 0) 1 (51, 0, 0)) (52, 0, 0) 1033) (50, 0, 0) 2 (52, 0, 0)) (53, 0, 0) 2) (50, 0, 0) 3 (53, 0, 0)) (54, 0, 0) 2048) (50, 0, 0) 4 (54, 0, 0)) (55, 0, 0) 48) (50, 0, 0) 5 (55, 0, 0)) (56, 0, 0) 60) (50, 0, 0) 6 (56, 0, 0)) (57, 0, 0) 39) (50, 0, 0) 7 (57, 0, 0)) (58, 0, 0) 39) (50, 0, 0) 8 (58, 0, 0)) (59, 0, 0) 4) (50, 0, 0) 9 (59, 0, 0)) (60, 0, 0) 4) (50, 0, 0) 10 (60, 0, 0)) (61, 0, 0) 4) (50, 0, 0) 11 (61, 0, 0)) (62, 0, 0) 4) (50, 0, 0) 12 (62, 0, 0)) (63, 0, 0) 60) (50, 0, 0) 13 (63, 0, 0)) (64, 0, 0) 256) (50, 0, 0) 15 (64, 0, 0)) (65, 0, 0) 256) (50, 0, 0) 16 (65, 0, 0)) (66, 0, 0) 4) (50, 0, 0) 17 (66, 0, 0)) (67, 0, 0) 240) (50, 0, 0) 18 (67, 0, 0))
def gX12_init  (I : zMem) : zMem := (zzr (zst (zst (zst (zst (zzr (zzr (zzr (zzr (zzr (zzr (zzr (zzr (zzr (zzr (zzr (zzr (zzr (zzr (zzr (zzr I (51, 0, 0)) (52, 0, 0)) (53, 0, 0)) (54, 0, 0)) (55, 0, 0)) (56, 0, 0)) (57, 0, 0)) (58, 0, 0)) (59, 0, 0)) (60, 0, 0)) (61, 0, 0)) (62, 0, 0)) (63, 0, 0)) (64, 0, 0)) (65, 0, 0)) (66, 0, 0)) (66, 0, 0) 0 (-1)) (66, 0, 0) 1 (-1)) (66, 0, 0) 2 (-1)) (66, 0, 0) 3 (-1)) (67, 0, 0))
set_option maxRecDepth 100000 in
theorem wwX12_init_v {G0 : va_G} {cy : Nat → ClassId} {ad : zPl → Nat} {D : zPl → Prop} {P : zRf} {tc tv : Nat} {A : Nat → Prop} {Q : zMT → Array Value → State → Outcome → State → Prop} {k0 n0 z : Nat}  (h : ∀ i q, (lX12_init )[i]? = some q → ad q = z + i) : zGw (G0, cy, ad, D, P, tc, tv, A, Q, k0, n0, z) (wX12_init  (G0, cy, ad, D, P, tc, tv, A, Q, k0, n0, z)) := (zGw.pt (zGw.nw (zGw.pt (zGw.nw (zGw.pt (zGw.nw (zGw.pt (zGw.nw (zGw.pt (zGw.nw (zGw.pt (zGw.nw (zGw.pt (zGw.nw (zGw.pt (zGw.nw (zGw.pt (zGw.nw (zGw.pt (zGw.nw (zGw.pt (zGw.nw (zGw.pt (zGw.nw (zGw.pt (zGw.nw (zGw.pt (zGw.nw (zGw.pt (zGw.nw (zGw.pt (zGw.nw (zGw.pt (zGw.nw zGw.rf (h 0 _ rfl))) (h 1 _ rfl))) (h 2 _ rfl))) (h 3 _ rfl))) (h 4 _ rfl))) (h 5 _ rfl))) (h 6 _ rfl))) (h 7 _ rfl))) (h 8 _ rfl))) (h 9 _ rfl))) (h 10 _ rfl))) (h 11 _ rfl))) (h 12 _ rfl))) (h 13 _ rfl))) (h 14 _ rfl))) (h 15 _ rfl))) (h 16 _ rfl)))
theorem wwX12_init {X : zX}  (h : zAt X (zz X) (lX12_init )) : zGw X (wX12_init  X) := by
  obtain ⟨G0, cy, ad, D, P, tc, tv, A, Q, k0, n0, z⟩ := X
  exact wwX12_init_v h
set_option maxRecDepth 100000 in
theorem weX12_init {X : zX}  : zE X (wX12_init  X) 17 7200 := (zE.pt (zE.nw (zE.pt (zE.nw (zE.pt (zE.nw (zE.pt (zE.nw (zE.pt (zE.nw (zE.pt (zE.nw (zE.pt (zE.nw (zE.pt (zE.nw (zE.pt (zE.nw (zE.pt (zE.nw (zE.pt (zE.nw (zE.pt (zE.nw (zE.pt (zE.nw (zE.pt (zE.nw (zE.pt (zE.nw (zE.pt (zE.nw (zE.pt (zE.nw zE.rf))))))))))))))))))))))))))))))))))
set_option maxRecDepth 100000 in
theorem smX12_init {A B : zX}  (h : zSm A B) : zSm (wX12_init  A) (wX12_init  B) := (zSm.pt (zSm.nw (zSm.pt (zSm.nw (zSm.pt (zSm.nw (zSm.pt (zSm.nw (zSm.pt (zSm.nw (zSm.pt (zSm.nw (zSm.pt (zSm.nw (zSm.pt (zSm.nw (zSm.pt (zSm.nw (zSm.pt (zSm.nw (zSm.pt (zSm.nw (zSm.pt (zSm.nw (zSm.pt (zSm.nw (zSm.pt (zSm.nw (zSm.pt (zSm.nw (zSm.pt (zSm.nw (zSm.pt (zSm.nw h))))))))))))))))))))))))))))))))))
theorem zdX12 {X X1 : zX} (hq : zDom X (50, 0, 0)) : ∀ q, zOk (fun L => L = 9) q → zDom (wX12_init (zK X X1)) q := fun q o => by
  obtain ⟨h1, h2, h3⟩ := zok9r o
  obtain ⟨r, L, p⟩ := q
  simp only [Prod.mk.injEq] at h1
  obtain ⟨rfl, rfl⟩ := h1
  simp only at h2 h3
  by_cases e : r = 50
  · subst e; simp [zDom, wX12_init, zpt, znw, zK]; exact hq
  · have h4 : r ∈ [51, 52, 53, 54, 55, 56, 57, 58, 59, 60, 61, 62, 63, 64, 65, 66, 67] := by simp; omega
    simp only [List.mem_cons, List.not_mem_nil, or_false] at h4
    rcases h4 with rfl | rfl | rfl | rfl | rfl | rfl | rfl | rfl | rfl | rfl | rfl | rfl | rfl | rfl | rfl | rfl | rfl <;> simp [zDom, wX12_init, zpt, znw, zK]
theorem zpX12 {X X1 : zX} : ∀ q k q', zOk (fun L => L = 9) q → zPs q k = some q' → zP (wX12_init (zK X X1)) q k = some q' := fun q k q' o hp => by
  obtain ⟨h1, h2, h3⟩ := zok9r o
  obtain ⟨r, L, p⟩ := q
  simp only [Prod.mk.injEq] at h1
  obtain ⟨rfl, rfl⟩ := h1
  simp only at h2 h3
  by_cases e : r = 50
  · subst e
    have hk : k < 19 := by
      rcases Nat.lt_or_ge k 19 with h | h
      · exact h
      · exfalso
        have : zPs (50, 0, 0) k = none := by simp [zPs, List.getD, List.getElem?_eq_none, h]
        rw [this] at hp; cases hp
    have h4 : k ∈ List.range 19 := by simp; exact hk
    simp only [show List.range 19 = [0, 1, 2, 3, 4, 5, 6, 7, 8, 9, 10, 11, 12, 13, 14, 15, 16, 17, 18] from rfl, List.mem_cons, List.not_mem_nil, or_false] at h4
    rcases h4 with rfl | rfl | rfl | rfl | rfl | rfl | rfl | rfl | rfl | rfl | rfl | rfl | rfl | rfl | rfl | rfl | rfl | rfl | rfl <;> simp [zPs] at hp <;> subst hp <;> simp [zP, wX12_init, zpt, znw, zK]
  · exfalso
    have h4 : r ∈ [51, 52, 53, 54, 55, 56, 57, 58, 59, 60, 61, 62, 63, 64, 65, 66, 67] := by simp; omega
    simp only [List.mem_cons, List.not_mem_nil, or_false] at h4
    rcases h4 with rfl | rfl | rfl | rfl | rfl | rfl | rfl | rfl | rfl | rfl | rfl | rfl | rfl | rfl | rfl | rfl | rfl <;> cases hp
set_option maxRecDepth 100000 in
theorem kX12_init_v {G0 : va_G} {cy : Nat → ClassId} {ad : zPl → Nat} {D : zPl → Prop} {P : zRf} {tc tv : Nat} {A : Nat → Prop} {Q : zMT → Array Value → State → Outcome → State → Prop} {k0 n0 z : Nat}  {I : zMem} (h : ∀ i q, (lX12_init )[i]? = some q → ad q = z + i) (hq : D (50, 0, 0)) {u : zMem} (hf : fX12_init (gX12_init I) = some u) : zCk (G0, cy, ad, D, P, tc, tv, A, Q, k0, n0, z) (wX12_init  (G0, cy, ad, D, P, tc, tv, A, Q, k0, n0, z)) mX12_init yX12_init [.ref (ad (50, 0, 0))] I (none, u) := by
  refine zCk_of (by decide +kernel) rfl rfl (fun _ => rfl) ?_
  have hA : zNA (zK (G0, cy, ad, D, P, tc, tv, A, Q, k0, n0, z) (wX12_init  (G0, cy, ad, D, P, tc, tv, A, Q, k0, n0, z))) := fun a h => Or.inr h
  refine zW_aload_n (a := ad (50, 0, 0)) 0 dX12_init_0 rfl ?_
  refine zW_obj oj_RX12_7 rfl dX12_init_1 ?_
  refine zW_aload_n (a := ad (50, 0, 0)) 0 dX12_init_4 rfl ?_
  refine zW_sipush dX12_init_5 rfl ?_
  refine zU_newI (q := (51, 0, 0)) (N := 3099) (ad (51, 0, 0)) aj_int rfl rfl rfl rfl (h 0 _ rfl) hA ⟨Nat.le_of_ble_eq_true rfl, Nat.le_of_ble_eq_true rfl⟩ dX12_init_8 (fun hA => ?_)
  refine zU_putR (q := (50, 0, 0)) (q2 := (51, 0, 0)) (ad (50, 0, 0)) (ad (51, 0, 0)) ⟨rfl, by decide⟩ lj_RX12_13 (fun _ _ _ h => by cases h; rfl) (Or.inr (hq)) rfl rfl (fun _ => ⟨rfl, rfl⟩) rfl rfl hA dX12_init_10 (fun hA => ?_)
  refine zW_aload_n (a := ad (50, 0, 0)) 0 dX12_init_13 rfl ?_
  refine zW_sipush dX12_init_14 rfl ?_
  refine zU_newI (q := (52, 0, 0)) (N := 1033) (ad (52, 0, 0)) aj_int rfl rfl rfl rfl (h 1 _ rfl) hA ⟨Nat.le_of_ble_eq_true rfl, Nat.le_of_ble_eq_true rfl⟩ dX12_init_17 (fun hA => ?_)
  refine zU_putR (q := (50, 0, 0)) (q2 := (52, 0, 0)) (ad (50, 0, 0)) (ad (52, 0, 0)) ⟨rfl, by decide⟩ lj_RX12_17 (fun _ _ _ h => by cases h; rfl) (Or.inr ((Or.inr (hq)))) rfl rfl (fun _ => ⟨rfl, rfl⟩) rfl rfl hA dX12_init_19 (fun hA => ?_)
  refine zW_aload_n (a := ad (50, 0, 0)) 0 dX12_init_22 rfl ?_
  refine zW_iconst dX12_init_23 ?_
  refine zU_newZ (q := (53, 0, 0)) (N := 2) (ad (53, 0, 0)) aj_boolean rfl rfl rfl rfl (h 2 _ rfl) hA ⟨Nat.le_of_ble_eq_true rfl, Nat.le_of_ble_eq_true rfl⟩ dX12_init_24 (fun hA => ?_)
  refine zU_putR (q := (50, 0, 0)) (q2 := (53, 0, 0)) (ad (50, 0, 0)) (ad (53, 0, 0)) ⟨rfl, by decide⟩ lj_RX12_20 (fun _ _ _ h => by cases h; rfl) (Or.inr ((Or.inr ((Or.inr (hq)))))) rfl rfl (fun _ => ⟨rfl, rfl⟩) rfl rfl hA dX12_init_26 (fun hA => ?_)
  refine zW_aload_n (a := ad (50, 0, 0)) 0 dX12_init_29 rfl ?_
  refine zW_sipush dX12_init_30 rfl ?_
  refine zU_newL (q := (54, 0, 0)) (N := 2048) (ad (54, 0, 0)) aj_long rfl rfl rfl rfl (h 3 _ rfl) hA ⟨Nat.le_of_ble_eq_true rfl, Nat.le_of_ble_eq_true rfl⟩ dX12_init_33 (fun hA => ?_)
  refine zU_putR (q := (50, 0, 0)) (q2 := (54, 0, 0)) (ad (50, 0, 0)) (ad (54, 0, 0)) ⟨rfl, by decide⟩ lj_RX12_24 (fun _ _ _ h => by cases h; rfl) (Or.inr ((Or.inr ((Or.inr ((Or.inr (hq)))))))) rfl rfl (fun _ => ⟨rfl, rfl⟩) rfl rfl hA dX12_init_35 (fun hA => ?_)
  refine zW_aload_n (a := ad (50, 0, 0)) 0 dX12_init_38 rfl ?_
  refine zW_bipush dX12_init_39 rfl ?_
  refine zU_newI (q := (55, 0, 0)) (N := 48) (ad (55, 0, 0)) aj_int rfl rfl rfl rfl (h 4 _ rfl) hA ⟨Nat.le_of_ble_eq_true rfl, Nat.le_of_ble_eq_true rfl⟩ dX12_init_41 (fun hA => ?_)
  refine zU_putR (q := (50, 0, 0)) (q2 := (55, 0, 0)) (ad (50, 0, 0)) (ad (55, 0, 0)) ⟨rfl, by decide⟩ lj_RX12_28 (fun _ _ _ h => by cases h; rfl) (Or.inr ((Or.inr ((Or.inr ((Or.inr ((Or.inr (hq)))))))))) rfl rfl (fun _ => ⟨rfl, rfl⟩) rfl rfl hA dX12_init_43 (fun hA => ?_)
  refine zW_aload_n (a := ad (50, 0, 0)) 0 dX12_init_46 rfl ?_
  refine zW_bipush dX12_init_47 rfl ?_
  refine zU_newI (q := (56, 0, 0)) (N := 60) (ad (56, 0, 0)) aj_int rfl rfl rfl rfl (h 5 _ rfl) hA ⟨Nat.le_of_ble_eq_true rfl, Nat.le_of_ble_eq_true rfl⟩ dX12_init_49 (fun hA => ?_)
  refine zU_putR (q := (50, 0, 0)) (q2 := (56, 0, 0)) (ad (50, 0, 0)) (ad (56, 0, 0)) ⟨rfl, by decide⟩ lj_RX12_31 (fun _ _ _ h => by cases h; rfl) (Or.inr ((Or.inr ((Or.inr ((Or.inr ((Or.inr ((Or.inr (hq)))))))))))) rfl rfl (fun _ => ⟨rfl, rfl⟩) rfl rfl hA dX12_init_51 (fun hA => ?_)
  refine zW_aload_n (a := ad (50, 0, 0)) 0 dX12_init_54 rfl ?_
  refine zW_bipush dX12_init_55 rfl ?_
  refine zU_newI (q := (57, 0, 0)) (N := 39) (ad (57, 0, 0)) aj_int rfl rfl rfl rfl (h 6 _ rfl) hA ⟨Nat.le_of_ble_eq_true rfl, Nat.le_of_ble_eq_true rfl⟩ dX12_init_57 (fun hA => ?_)
  refine zU_putR (q := (50, 0, 0)) (q2 := (57, 0, 0)) (ad (50, 0, 0)) (ad (57, 0, 0)) ⟨rfl, by decide⟩ lj_RX12_34 (fun _ _ _ h => by cases h; rfl) (Or.inr ((Or.inr ((Or.inr ((Or.inr ((Or.inr ((Or.inr ((Or.inr (hq)))))))))))))) rfl rfl (fun _ => ⟨rfl, rfl⟩) rfl rfl hA dX12_init_59 (fun hA => ?_)
  refine zW_aload_n (a := ad (50, 0, 0)) 0 dX12_init_62 rfl ?_
  refine zW_bipush dX12_init_63 rfl ?_
  refine zU_newI (q := (58, 0, 0)) (N := 39) (ad (58, 0, 0)) aj_int rfl rfl rfl rfl (h 7 _ rfl) hA ⟨Nat.le_of_ble_eq_true rfl, Nat.le_of_ble_eq_true rfl⟩ dX12_init_65 (fun hA => ?_)
  refine zU_putR (q := (50, 0, 0)) (q2 := (58, 0, 0)) (ad (50, 0, 0)) (ad (58, 0, 0)) ⟨rfl, by decide⟩ lj_RX12_37 (fun _ _ _ h => by cases h; rfl) (Or.inr ((Or.inr ((Or.inr ((Or.inr ((Or.inr ((Or.inr ((Or.inr ((Or.inr (hq)))))))))))))))) rfl rfl (fun _ => ⟨rfl, rfl⟩) rfl rfl hA dX12_init_67 (fun hA => ?_)
  refine zW_aload_n (a := ad (50, 0, 0)) 0 dX12_init_70 rfl ?_
  refine zW_iconst dX12_init_71 ?_
  refine zU_newI (q := (59, 0, 0)) (N := 4) (ad (59, 0, 0)) aj_int rfl rfl rfl rfl (h 8 _ rfl) hA ⟨Nat.le_of_ble_eq_true rfl, Nat.le_of_ble_eq_true rfl⟩ dX12_init_72 (fun hA => ?_)
  refine zU_putR (q := (50, 0, 0)) (q2 := (59, 0, 0)) (ad (50, 0, 0)) (ad (59, 0, 0)) ⟨rfl, by decide⟩ lj_RX12_40 (fun _ _ _ h => by cases h; rfl) (Or.inr ((Or.inr ((Or.inr ((Or.inr ((Or.inr ((Or.inr ((Or.inr ((Or.inr ((Or.inr (hq)))))))))))))))))) rfl rfl (fun _ => ⟨rfl, rfl⟩) rfl rfl hA dX12_init_74 (fun hA => ?_)
  refine zW_aload_n (a := ad (50, 0, 0)) 0 dX12_init_77 rfl ?_
  refine zW_iconst dX12_init_78 ?_
  refine zU_newI (q := (60, 0, 0)) (N := 4) (ad (60, 0, 0)) aj_int rfl rfl rfl rfl (h 9 _ rfl) hA ⟨Nat.le_of_ble_eq_true rfl, Nat.le_of_ble_eq_true rfl⟩ dX12_init_79 (fun hA => ?_)
  refine zU_putR (q := (50, 0, 0)) (q2 := (60, 0, 0)) (ad (50, 0, 0)) (ad (60, 0, 0)) ⟨rfl, by decide⟩ lj_RX12_43 (fun _ _ _ h => by cases h; rfl) (Or.inr ((Or.inr ((Or.inr ((Or.inr ((Or.inr ((Or.inr ((Or.inr ((Or.inr ((Or.inr ((Or.inr (hq)))))))))))))))))))) rfl rfl (fun _ => ⟨rfl, rfl⟩) rfl rfl hA dX12_init_81 (fun hA => ?_)
  refine zW_aload_n (a := ad (50, 0, 0)) 0 dX12_init_84 rfl ?_
  refine zW_iconst dX12_init_85 ?_
  refine zU_newI (q := (61, 0, 0)) (N := 4) (ad (61, 0, 0)) aj_int rfl rfl rfl rfl (h 10 _ rfl) hA ⟨Nat.le_of_ble_eq_true rfl, Nat.le_of_ble_eq_true rfl⟩ dX12_init_86 (fun hA => ?_)
  refine zU_putR (q := (50, 0, 0)) (q2 := (61, 0, 0)) (ad (50, 0, 0)) (ad (61, 0, 0)) ⟨rfl, by decide⟩ lj_RX12_46 (fun _ _ _ h => by cases h; rfl) (Or.inr ((Or.inr ((Or.inr ((Or.inr ((Or.inr ((Or.inr ((Or.inr ((Or.inr ((Or.inr ((Or.inr ((Or.inr (hq)))))))))))))))))))))) rfl rfl (fun _ => ⟨rfl, rfl⟩) rfl rfl hA dX12_init_88 (fun hA => ?_)
  refine zW_aload_n (a := ad (50, 0, 0)) 0 dX12_init_91 rfl ?_
  refine zW_iconst dX12_init_92 ?_
  refine zU_newI (q := (62, 0, 0)) (N := 4) (ad (62, 0, 0)) aj_int rfl rfl rfl rfl (h 11 _ rfl) hA ⟨Nat.le_of_ble_eq_true rfl, Nat.le_of_ble_eq_true rfl⟩ dX12_init_93 (fun hA => ?_)
  refine zU_putR (q := (50, 0, 0)) (q2 := (62, 0, 0)) (ad (50, 0, 0)) (ad (62, 0, 0)) ⟨rfl, by decide⟩ lj_RX12_49 (fun _ _ _ h => by cases h; rfl) (Or.inr ((Or.inr ((Or.inr ((Or.inr ((Or.inr ((Or.inr ((Or.inr ((Or.inr ((Or.inr ((Or.inr ((Or.inr ((Or.inr (hq)))))))))))))))))))))))) rfl rfl (fun _ => ⟨rfl, rfl⟩) rfl rfl hA dX12_init_95 (fun hA => ?_)
  refine zW_aload_n (a := ad (50, 0, 0)) 0 dX12_init_98 rfl ?_
  refine zW_bipush dX12_init_99 rfl ?_
  refine zU_newI (q := (63, 0, 0)) (N := 60) (ad (63, 0, 0)) aj_int rfl rfl rfl rfl (h 12 _ rfl) hA ⟨Nat.le_of_ble_eq_true rfl, Nat.le_of_ble_eq_true rfl⟩ dX12_init_101 (fun hA => ?_)
  refine zU_putR (q := (50, 0, 0)) (q2 := (63, 0, 0)) (ad (50, 0, 0)) (ad (63, 0, 0)) ⟨rfl, by decide⟩ lj_RX12_52 (fun _ _ _ h => by cases h; rfl) (Or.inr ((Or.inr ((Or.inr ((Or.inr ((Or.inr ((Or.inr ((Or.inr ((Or.inr ((Or.inr ((Or.inr ((Or.inr ((Or.inr ((Or.inr (hq)))))))))))))))))))))))))) rfl rfl (fun _ => ⟨rfl, rfl⟩) rfl rfl hA dX12_init_103 (fun hA => ?_)
  refine zW_aload_n (a := ad (50, 0, 0)) 0 dX12_init_106 rfl ?_
  refine zW_sipush dX12_init_107 rfl ?_
  refine zU_newI (q := (64, 0, 0)) (N := 256) (ad (64, 0, 0)) aj_int rfl rfl rfl rfl (h 13 _ rfl) hA ⟨Nat.le_of_ble_eq_true rfl, Nat.le_of_ble_eq_true rfl⟩ dX12_init_110 (fun hA => ?_)
  refine zU_putR (q := (50, 0, 0)) (q2 := (64, 0, 0)) (ad (50, 0, 0)) (ad (64, 0, 0)) ⟨rfl, by decide⟩ lj_RX12_55 (fun _ _ _ h => by cases h; rfl) (Or.inr ((Or.inr ((Or.inr ((Or.inr ((Or.inr ((Or.inr ((Or.inr ((Or.inr ((Or.inr ((Or.inr ((Or.inr ((Or.inr ((Or.inr ((Or.inr (hq)))))))))))))))))))))))))))) rfl rfl (fun _ => ⟨rfl, rfl⟩) rfl rfl hA dX12_init_112 (fun hA => ?_)
  refine zW_aload_n (a := ad (50, 0, 0)) 0 dX12_init_115 rfl ?_
  refine zW_sipush dX12_init_116 rfl ?_
  refine zU_newI (q := (65, 0, 0)) (N := 256) (ad (65, 0, 0)) aj_int rfl rfl rfl rfl (h 14 _ rfl) hA ⟨Nat.le_of_ble_eq_true rfl, Nat.le_of_ble_eq_true rfl⟩ dX12_init_119 (fun hA => ?_)
  refine zU_putR (q := (50, 0, 0)) (q2 := (65, 0, 0)) (ad (50, 0, 0)) (ad (65, 0, 0)) ⟨rfl, by decide⟩ lj_RX12_58 (fun _ _ _ h => by cases h; rfl) (Or.inr ((Or.inr ((Or.inr ((Or.inr ((Or.inr ((Or.inr ((Or.inr ((Or.inr ((Or.inr ((Or.inr ((Or.inr ((Or.inr ((Or.inr ((Or.inr ((Or.inr (hq)))))))))))))))))))))))))))))) rfl rfl (fun _ => ⟨rfl, rfl⟩) rfl rfl hA dX12_init_121 (fun hA => ?_)
  refine zW_aload_n (a := ad (50, 0, 0)) 0 dX12_init_124 rfl ?_
  refine zW_iconst dX12_init_125 ?_
  refine zU_newI (q := (66, 0, 0)) (N := 4) (ad (66, 0, 0)) aj_int rfl rfl rfl rfl (h 15 _ rfl) hA ⟨Nat.le_of_ble_eq_true rfl, Nat.le_of_ble_eq_true rfl⟩ dX12_init_126 (fun hA => ?_)
  refine zW_dup dX12_init_128 rfl ?_
  refine zW_iconst dX12_init_129 ?_
  refine zW_iconst dX12_init_130 ?_
  refine zU_iastk (q := (66, 0, 0)) 0 (ad (66, 0, 0)) (by decide +kernel) (Or.inl rfl) rfl (by decide +kernel) rfl dX12_init_131 ?_
  refine zW_dup dX12_init_132 rfl ?_
  refine zW_iconst dX12_init_133 ?_
  refine zW_iconst dX12_init_134 ?_
  refine zU_iastk (q := (66, 0, 0)) 1 (ad (66, 0, 0)) (by decide +kernel) (Or.inl rfl) rfl (by decide +kernel) rfl dX12_init_135 ?_
  refine zW_dup dX12_init_136 rfl ?_
  refine zW_iconst dX12_init_137 ?_
  refine zW_iconst dX12_init_138 ?_
  refine zU_iastk (q := (66, 0, 0)) 2 (ad (66, 0, 0)) (by decide +kernel) (Or.inl rfl) rfl (by decide +kernel) rfl dX12_init_139 ?_
  refine zW_dup dX12_init_140 rfl ?_
  refine zW_iconst dX12_init_141 ?_
  refine zW_iconst dX12_init_142 ?_
  refine zU_iastk (q := (66, 0, 0)) 3 (ad (66, 0, 0)) (by decide +kernel) (Or.inl rfl) rfl (by decide +kernel) rfl dX12_init_143 ?_
  refine zU_putR (q := (50, 0, 0)) (q2 := (66, 0, 0)) (ad (50, 0, 0)) (ad (66, 0, 0)) ⟨rfl, by decide⟩ lj_RX12_61 (fun _ _ _ h => by cases h; rfl) (Or.inr ((Or.inr ((Or.inr ((Or.inr ((Or.inr ((Or.inr ((Or.inr ((Or.inr ((Or.inr ((Or.inr ((Or.inr ((Or.inr ((Or.inr ((Or.inr ((Or.inr ((Or.inr (hq)))))))))))))))))))))))))))))))) rfl rfl (fun _ => ⟨rfl, rfl⟩) rfl rfl hA dX12_init_144 (fun hA => ?_)
  refine zW_aload_n (a := ad (50, 0, 0)) 0 dX12_init_147 rfl ?_
  refine zW_sipush dX12_init_148 rfl ?_
  refine zU_newI (q := (67, 0, 0)) (N := 240) (ad (67, 0, 0)) aj_int rfl rfl rfl rfl (h 16 _ rfl) hA ⟨Nat.le_of_ble_eq_true rfl, Nat.le_of_ble_eq_true rfl⟩ dX12_init_151 (fun hA => ?_)
  refine zU_putR (q := (50, 0, 0)) (q2 := (67, 0, 0)) (ad (50, 0, 0)) (ad (67, 0, 0)) ⟨rfl, by decide⟩ lj_RX12_64 (fun _ _ _ h => by cases h; rfl) (Or.inr ((Or.inr ((Or.inr ((Or.inr ((Or.inr ((Or.inr ((Or.inr ((Or.inr ((Or.inr ((Or.inr ((Or.inr ((Or.inr ((Or.inr ((Or.inr ((Or.inr ((Or.inr ((Or.inr (hq)))))))))))))))))))))))))))))))))) rfl rfl (fun _ => ⟨rfl, rfl⟩) rfl rfl hA dX12_init_153 (fun hA => ?_)
  exact tX12_init_156 (e := fun L => L = 9) ⟨zdX12 hq, zpX12, (zHk (B := zB (G0, cy, ad, D, P, tc, tv, A, Q, k0, n0, z)) (smX12_init (zSm.K)) rfl rfl)⟩ zok9 hf
theorem kX12_init {X : zX}  {I : zMem} (h : zAt X (zz X) (lX12_init )) (hq : zDom X (50, 0, 0)) {u : zMem} (hf : fX12_init (gX12_init I) = some u) : zCk X (wX12_init  X) mX12_init yX12_init [.ref (zad X (50, 0, 0))] I (none, u) := by
  obtain ⟨G0, cy, ad, D, P, tc, tv, A, Q, k0, n0, z⟩ := X
  exact kX12_init_v h hq hf
