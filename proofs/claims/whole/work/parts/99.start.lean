set_option maxRecDepth 100000 in
set_option maxHeartbeats 4000000 in
/-- from the entry, for every script of at most 3072 ints, the law comes to its end with true -/
theorem whole_start {p : Program} {e : Env} {s : State} {m : MethodId} {below : List Frame} {meth : Method} {c : Code} (l : Launch) (hflags : l.flags = flags0) {b L : Nat} {xs : Nat → Int32} (hL : L ≤ 3072) (C0 : lw_At p s m meth c b L xs) : W p l e room_1 s m #[Value.ref b] below meth c s.heap [] 0 0 (lw_Z below #[Value.ref b] s) (entryFrame m ([Value.ref b] : List Value).toArray 4) := by
  obtain ⟨hx, hb, hr, hml, hown, hts, hX, hbl, hlocks, hgv⟩ := id C0
  obtain ⟨D, cy, tc, tv, hkn⟩ := lw_know hts hgv
  obtain ⟨u1, u6, u12, f1, f6, f12, hRW⟩ := b_start (zzr (fun _ _ => 0) (0, 0, 0)) (zzr (fun _ _ => 0) (50, 0, 0))
  have hl := lv_entry ([.ref b]) (n := 4) (Nat.le_of_ble_eq_true rfl)
  rw [lg_entry_eq]
  generalize (lg_sl ([.ref b]) ++ List.replicate (4 - (lg_sl ([.ref b])).length) Slot.unset).toArray = ls at hl ⊢
  have hl : lv_has ls 4 [(0, .ref b)] := hl
  have hS0 : va_S (lwA s) s.heap s.heap [] := va_S.rf
  -- the class
  obtain ⟨ha0, hat0⟩ := zem_at (D := D) (cy := cy) (tc := tc) (tv := tv) (s := s) (z := s.heap.size) (w := 11) idx11
  have hK0 : lwK s (zem D cy tc tv s ((0, 0, 0) :: lX11_init) s.heap.size) := hkn _ rfl rfl rfl rfl
  have hR0 : zRel (zem D cy tc tv s ((0, 0, 0) :: lX11_init) s.heap.size) (fun _ _ => 0) s.heap := zem_rel
  have hD1 := zem_d (D := D) (cy := cy) (tc := tc) (tv := tv) (z := s.heap.size) (w := 11) (s := s) (q0 := (0, 0, 0)) (l := (0, 0, 0) :: lX11_init)
  have hP1 := zem_p (D := D) (cy := cy) (tc := tc) (tv := tv) (z := s.heap.size) (w := 11) (s := s) (q0 := (0, 0, 0)) (l := (0, 0, 0) :: lX11_init)
  have hG1 := zem_ge (D := D) (cy := cy) (tc := tc) (tv := tv) (z := s.heap.size) (w := 11) (s := s) (q0 := (0, 0, 0)) (l := (0, 0, 0) :: lX11_init)
  have hK1 : lwK s (znw (zem D cy tc tv s ((0, 0, 0) :: lX11_init) s.heap.size) (0, 0, 0) 11) := hK0
  refine lw_new (q := (0, 0, 0)) C0 hK0.1 njl_7 rfl ha0 hR0 hS0 ⟨Nat.le_of_ble_eq_true rfl, Nat.le_of_ble_eq_true rfl⟩ dL_law_0 (fun H1 hR1 hs1 ho1 hS1 => ?_)
  generalize hX1 : znw (zem D cy tc tv s ((0, 0, 0) :: lX11_init) s.heap.size) (0, 0, 0) 11 = X1 at hat0 hD1 hP1 hG1 hK1 hR1
  have hax : zad (zem D cy tc tv s ((0, 0, 0) :: lX11_init) s.heap.size) (0, 0, 0) = zad X1 (0, 0, 0) := by rw [← hX1]; rfl
  rw [hax]
  refine lv_dup hx hb dL_law_3 rfl ?_
  refine lw_ini (X := X1) (X' := wX11_init X1) (q := (0, 0, 0)) (T' := (none, gX11_init u6)) C0 hK1 hR1 (fun q _ => hG1 q) hS1 hl (kX11_init hat0 ((hD1 _).mpr rfl) f1 f6) yjl_9 ijl_X11_init ⟨Nat.le_of_ble_eq_true rfl, Nat.le_of_ble_eq_true rfl⟩ rfl rfl dL_law_4 (fun H2 locs2 hR2 hz2 hk2 hS2 => ?_)
  have hlkN : zLk X1 (zNo (wl11 X1) e01) := (wwX11_init hat0).1.tr (no11_sm hD1 hP1).1
  have hRN : zRel (znb X1 e01 H2.size) (gX11_init u6) H2 := zRel_nb hlkN (zRel_sm (no11_sm hD1 hP1) hR2)
  have hKN : lwK s (znb X1 e01 H2.size) := hK1
  refine lv_astore_n (lv' := [(1, .ref (zad X1 (0, 0, 0))), (0, .ref b)]) hx hb dL_law_7 rfl hl (by decide) rfl (fun ls hl => ?_)
  -- the model
  obtain ⟨hb0, hbt0⟩ := zem_at (D := D) (cy := cy) (tc := tc) (tv := tv) (s := s) (z := H2.size) (w := 19) idx12
  have hK2 : lwK s (zem D cy tc tv s ((50, 0, 0) :: lX12_init) H2.size) := hkn _ rfl rfl rfl rfl
  have hR20 : zRel (zem D cy tc tv s ((50, 0, 0) :: lX12_init) H2.size) (fun _ _ => 0) H2 := zem_rel
  have hD2 := zem_d (D := D) (cy := cy) (tc := tc) (tv := tv) (z := H2.size) (w := 19) (s := s) (q0 := (50, 0, 0)) (l := (50, 0, 0) :: lX12_init)
  have hG2 := zem_ge (D := D) (cy := cy) (tc := tc) (tv := tv) (z := H2.size) (w := 19) (s := s) (q0 := (50, 0, 0)) (l := (50, 0, 0) :: lX12_init)
  have hT2 : zqt (znw (zem D cy tc tv s ((50, 0, 0) :: lX12_init) H2.size) (50, 0, 0) 19) := fun _ _ _ _ _ => trivial
  have hZ2 : zz (znw (zem D cy tc tv s ((50, 0, 0) :: lX12_init) H2.size) (50, 0, 0) 19) = H2.size + 1 := rfl
  have hK3 : lwK s (znw (zem D cy tc tv s ((50, 0, 0) :: lX12_init) H2.size) (50, 0, 0) 19) := hK2
  refine lw_new (q := (50, 0, 0)) C0 hK2.1 njl_10 rfl hb0 hR20 hS2 ⟨Nat.le_of_ble_eq_true rfl, Nat.le_of_ble_eq_true rfl⟩ dL_law_8 (fun H3 hR3 hs3 ho3 hS3 => ?_)
  generalize hY1 : znw (zem D cy tc tv s ((50, 0, 0) :: lX12_init) H2.size) (50, 0, 0) 19 = Y1 at hbt0 hD2 hG2 hT2 hZ2 hK3 hR3
  have hay : zad (zem D cy tc tv s ((50, 0, 0) :: lX12_init) H2.size) (50, 0, 0) = zad Y1 (50, 0, 0) := by rw [← hY1]; rfl
  rw [hay]
  refine lv_dup hx hb dL_law_11 rfl ?_
  refine lw_ini (X := Y1) (X' := wX12_init Y1) (q := (50, 0, 0)) (T' := (none, u12)) C0 hK3 hR3 (fun q _ => Nat.le_trans hS2.1 (hG2 q)) hS3 hl (kX12_init hbt0 ((hD2 _).mpr rfl) f12) yjl_12 ijl_X12_init ⟨Nat.le_of_ble_eq_true rfl, Nat.le_of_ble_eq_true rfl⟩ rfl rfl dL_law_12 (fun H4 locs4 hR4 hz4 hk4 hS4 => ?_)
  have hgw := wwX12_init hbt0
  have hYd : zad (wX12_init Y1) = zad Y1 := hgw.1.2.2.1
  have hlt : ∀ q, zDom (znb X1 e01 H2.size) q → zad X1 q < H2.size := fun q hq => zat_lt (X := znb X1 e01 H2.size) (hRN.1 q hq)
  have hRX : zRel (zsz (znb X1 e01 H2.size) H4.size) (gX11_init u6) H4 := zRel_pass hRN (Bf := zB Y1) (fun q hq hn => (hk4 q (by omega) hn).trans (ho3 q hq)) (fun q hq hf => by
    have h := hlt q hq
    have h' : zad (znb X1 e01 H2.size) q < H2.size := h
    rcases hf with ⟨q', hq', ee⟩ | hf
    · have := hG2 q'
      omega
    · rw [hZ2] at hf; omega) rfl
  refine lv_astore_n (lv' := [(2, .ref (zad Y1 (50, 0, 0))), (1, .ref (zad X1 (0, 0, 0))), (0, .ref b)]) hx hb dL_law_15 rfl hl (by decide) rfl (fun ls hl => ?_)
  refine lv_iconst (v := Int32.ofInt 0) hx hb dL_law_16 rfl ?_
  refine lv_istore_n (lv' := [(3, vi 0), (2, .ref (zad Y1 (50, 0, 0))), (1, .ref (zad X1 (0, 0, 0))), (0, .ref b)]) hx hb dL_law_17 rfl hl (by decide) rfl (fun ls hl => ?_)
  refine W.widen (k := 134 + 43 * 0) (n := 14639 + 1059 * 0) (Nat.le_of_ble_eq_true rfl) (Nat.le_of_ble_eq_true rfl) ?_
  refine lw_loop C0 hL 513 0 (zad X1 (0, 0, 0)) (zad Y1 (50, 0, 0)) e01 (zsz (znb X1 e01 H2.size) H4.size) (wX12_init Y1) (gX11_init u6) u12 H4 locs4 ls (by omega) (by omega) ⟨hRW, zWc_nb.sz, zWm_12 ((hD2 _).mpr rfl) hT2, hKN.sz, hK3.lk hgw.1, ⟨hRX, hR4, fun q q' h1 h2 ee => ?_, fun q _ => hG1 q, fun q _ => by rw [hYd]; exact Nat.le_trans hS2.1 (hG2 q)⟩, hS4⟩ rfl (by rw [hYd]) (lv_sub hl [3, 2, 1, 0] rfl)
  have h := hlt q h1
  have ee' : zad X1 q = zad Y1 q' := by rw [← hYd]; exact ee
  have := hG2 q'
  omega
