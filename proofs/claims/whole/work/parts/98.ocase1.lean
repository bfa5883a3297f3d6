section
variable {p : Program} {l : Launch} {v : Env} {s : State} {g : MethodId} {B : List Frame} {meth : Method} {co : Code} {b L : Nat} {xs : Nat → Int32} {H : Heap} {locs : List Loc} {ls : Array Slot} {cs ss n i x1 x2 : Nat} {e : Nat → Prop} {X Y : zX} {I J : zMem}
theorem lw_c1 (C0 : lw_At p s g meth co b L xs) (hL : L ≤ 3072) (hi : i + 6 ≤ L) (hn : n ≤ 512) (hcs : cs + 43 ≤ room_1.cells ∧ ss + 1059 ≤ room_1.slots) (hl : lv_has ls 4 [(0, .ref b), (1, .ref x1), (2, .ref x2), (3, vi (i : Int))]) (hI : lwI s n e X Y I J H locs) (h1 : zad X (0, 0, 0) = x1) (h2 : zad Y (50, 0, 0) = x2) (hk : lwN p l v s g B meth co b (n + 1) (cs + 43) (ss + 1059) x1 x2 ls) : W p l v room_1 s g #[Value.ref b] B meth co H locs cs ss (lw_Z B #[Value.ref b] s) (F0 g 297 ls []) := by
  obtain ⟨hR, hW, hY, hKX, hKY, hH, hS⟩ := hI
  have hq : okR _ e I (fX11_whole (xs (i + 1)).toInt) (fX12_whole (xs (i + 1)).toInt J) := Q_whole hR (i32x _)
  obtain ⟨r, m', hf, hg, hR'⟩ := hq
  subst h1 h2
  refine lw_ald 1 C0 hl dL_law_297 rfl ?_
  refine lw_arg (i := i) 1 C0 hS hl hL rfl (by omega) dL_law_298 dL_law_299 dL_law_300 dL_law_301 dL_law_302 ?_
  refine lw_call (q := (0, 0, 0)) (As := [vi (xs (i + 1)).toInt]) (T' := (some (vi r), I)) C0 hKX hH hS hl ⟨by omega, by omega⟩ (kX11_whole hW.2.1 hW.o hW.e1 hf) mvl_18 hW.d rfl rfl rfl rfl rfl dL_law_303 (fun H1 locs1 hH1 hS1 => ?_)
  refine lw_ald 2 C0 hl dL_law_306 rfl ?_
  refine lw_arg (i := i) 1 C0 hS1 hl hL rfl (by omega) dL_law_307 dL_law_308 dL_law_309 dL_law_310 dL_law_311 ?_
  refine lw_call (q := (50, 0, 0)) (As := [vi (xs (i + 1)).toInt]) (T' := (some (vi r), m')) C0 hKY hH1.sy hS1 hl ⟨by omega, by omega⟩ (kX12_whole hY.1 zok9 hg) mvl_22 (hY.1.1 _ zok9) rfl rfl rfl rfl rfl dL_law_312 (fun H2 locs2 hH2 hS2 => ?_)
  refine lw_eq C0 dL_law_315 rfl ?_
  exact W.widen (by omega) (by omega) (hk e X Y I m' H2 locs2 ⟨lw_n hR', hW, hY, hKX, hKY, hH2.sy, hS2⟩ rfl rfl)
theorem lw_c4 (C0 : lw_At p s g meth co b L xs) (hL : L ≤ 3072) (hi : i + 6 ≤ L) (hn : n ≤ 512) (hcs : cs + 43 ≤ room_1.cells ∧ ss + 1059 ≤ room_1.slots) (hl : lv_has ls 4 [(0, .ref b), (1, .ref x1), (2, .ref x2), (3, vi (i : Int))]) (hI : lwI s n e X Y I J H locs) (h1 : zad X (0, 0, 0) = x1) (h2 : zad Y (50, 0, 0) = x2) (hk : lwN p l v s g B meth co b (n + 1) (cs + 43) (ss + 1059) x1 x2 ls) : W p l v room_1 s g #[Value.ref b] B meth co H locs cs ss (lw_Z B #[Value.ref b] s) (F0 g 367 ls []) := by
  obtain ⟨hR, hW, hY, hKX, hKY, hH, hS⟩ := hI
  have hq : okC _ e (fX11_sent (xs (i + 1)).toInt (xs (i + 2)).toInt (xs (i + 3)).toInt I) (fX12_sent (xs (i + 1)).toInt (xs (i + 2)).toInt (xs (i + 3)).toInt J) := Q_sent hR (i32x _) (i32x _) (i32x _)
  obtain ⟨r, c', m', hf, hg, hR'⟩ := hq
  subst h1 h2
  refine lw_ald 1 C0 hl dL_law_367 rfl ?_
  refine lw_arg (i := i) 1 C0 hS hl hL rfl (by omega) dL_law_368 dL_law_369 dL_law_370 dL_law_371 dL_law_372 ?_
  refine lw_arg (i := i) 2 C0 hS hl hL rfl (by omega) dL_law_373 dL_law_374 dL_law_375 dL_law_376 dL_law_377 ?_
  refine lw_arg (i := i) 3 C0 hS hl hL rfl (by omega) dL_law_378 dL_law_379 dL_law_380 dL_law_381 dL_law_382 ?_
  refine lw_call (q := (0, 0, 0)) (As := [vi (xs (i + 1)).toInt, vi (xs (i + 2)).toInt, vi (xs (i + 3)).toInt]) (T' := (some (vi r), c')) C0 hKX hH hS hl ⟨by omega, by omega⟩ (kX11_sent hW.2.1 hW.o hW.e1 hf) mvl_32 hW.d rfl rfl rfl rfl rfl dL_law_383 (fun H1 locs1 hH1 hS1 => ?_)
  refine lw_ald 2 C0 hl dL_law_386 rfl ?_
  refine lw_arg (i := i) 1 C0 hS1 hl hL rfl (by omega) dL_law_387 dL_law_388 dL_law_389 dL_law_390 dL_law_391 ?_
  refine lw_arg (i := i) 2 C0 hS1 hl hL rfl (by omega) dL_law_392 dL_law_393 dL_law_394 dL_law_395 dL_law_396 ?_
  refine lw_arg (i := i) 3 C0 hS1 hl hL rfl (by omega) dL_law_397 dL_law_398 dL_law_399 dL_law_400 dL_law_401 ?_
  refine lw_call (q := (50, 0, 0)) (As := [vi (xs (i + 1)).toInt, vi (xs (i + 2)).toInt, vi (xs (i + 3)).toInt]) (T' := (some (vi r), m')) C0 hKY hH1.sy hS1 hl ⟨by omega, by omega⟩ (kX12_sent hY.1 zok9 hg) mvl_36 (hY.1.1 _ zok9) rfl rfl rfl rfl rfl dL_law_402 (fun H2 locs2 hH2 hS2 => ?_)
  refine lw_eq C0 dL_law_405 rfl ?_
  exact W.widen (by omega) (by omega) (hk e X Y c' m' H2 locs2 ⟨lw_n hR', hW, hY, hKX, hKY, hH2.sy, hS2⟩ rfl rfl)
theorem lw_c7 (C0 : lw_At p s g meth co b L xs) (hL : L ≤ 3072) (hi : i + 6 ≤ L) (hn : n ≤ 512) (hcs : cs + 43 ≤ room_1.cells ∧ ss + 1059 ≤ room_1.slots) (hl : lv_has ls 4 [(0, .ref b), (1, .ref x1), (2, .ref x2), (3, vi (i : Int))]) (hI : lwI s n e X Y I J H locs) (h1 : zad X (0, 0, 0) = x1) (h2 : zad Y (50, 0, 0) = x2) (hk : lwN p l v s g B meth co b (n + 1) (cs + 43) (ss + 1059) x1 x2 ls) : W p l v room_1 s g #[Value.ref b] B meth co H locs cs ss (lw_Z B #[Value.ref b] s) (F0 g 477 ls []) := by
  obtain ⟨hR, hW, hY, hKX, hKY, hH, hS⟩ := hI
  have hq : okC _ e (fX11_between (xs (i + 1)).toInt (xs (i + 2)).toInt (xs (i + 3)).toInt (xs (i + 4)).toInt I) (fX12_between (xs (i + 1)).toInt (xs (i + 2)).toInt (xs (i + 3)).toInt (xs (i + 4)).toInt J) := Q_between hR (i32x _) (i32x _) (i32x _) (i32x _)
  obtain ⟨r, c', m', hf, hg, hR'⟩ := hq
  subst h1 h2
  refine lw_ald 1 C0 hl dL_law_477 rfl ?_
  refine lw_arg (i := i) 1 C0 hS hl hL rfl (by omega) dL_law_478 dL_law_479 dL_law_480 dL_law_481 dL_law_482 ?_
  refine lw_arg (i := i) 2 C0 hS hl hL rfl (by omega) dL_law_483 dL_law_484 dL_law_485 dL_law_486 dL_law_487 ?_
  refine lw_arg (i := i) 3 C0 hS hl hL rfl (by omega) dL_law_488 dL_law_489 dL_law_490 dL_law_491 dL_law_492 ?_
  refine lw_arg (i := i) 4 C0 hS hl hL rfl (by omega) dL_law_493 dL_law_494 dL_law_495 dL_law_496 dL_law_497 ?_
  refine lw_call (q := (0, 0, 0)) (As := [vi (xs (i + 1)).toInt, vi (xs (i + 2)).toInt, vi (xs (i + 3)).toInt, vi (xs (i + 4)).toInt]) (T' := (some (vi r), c')) C0 hKX hH hS hl ⟨by omega, by omega⟩ (kX11_between hW.2.1 hW.o hW.e1 hf) mvl_46 hW.d rfl rfl rfl rfl rfl dL_law_498 (fun H1 locs1 hH1 hS1 => ?_)
  refine lw_ald 2 C0 hl dL_law_501 rfl ?_
  refine lw_arg (i := i) 1 C0 hS1 hl hL rfl (by omega) dL_law_502 dL_law_503 dL_law_504 dL_law_505 dL_law_506 ?_
  refine lw_arg (i := i) 2 C0 hS1 hl hL rfl (by omega) dL_law_507 dL_law_508 dL_law_509 dL_law_510 dL_law_511 ?_
  refine lw_arg (i := i) 3 C0 hS1 hl hL rfl (by omega) dL_law_512 dL_law_513 dL_law_514 dL_law_515 dL_law_516 ?_
  refine lw_arg (i := i) 4 C0 hS1 hl hL rfl (by omega) dL_law_517 dL_law_518 dL_law_519 dL_law_520 dL_law_521 ?_
  refine lw_call (q := (50, 0, 0)) (As := [vi (xs (i + 1)).toInt, vi (xs (i + 2)).toInt, vi (xs (i + 3)).toInt, vi (xs (i + 4)).toInt]) (T' := (some (vi r), m')) C0 hKY hH1.sy hS1 hl ⟨by omega, by omega⟩ (kX12_between hY.1 zok9 hg) mvl_50 (hY.1.1 _ zok9) rfl rfl rfl rfl rfl dL_law_522 (fun H2 locs2 hH2 hS2 => ?_)
  refine lw_eq C0 dL_law_525 rfl ?_
  exact W.widen (by omega) (by omega) (hk e X Y c' m' H2 locs2 ⟨lw_n hR', hW, hY, hKX, hKY, hH2.sy, hS2⟩ rfl rfl)
theorem lw_c10 (C0 : lw_At p s g meth co b L xs) (hL : L ≤ 3072) (hi : i + 6 ≤ L) (hn : n ≤ 512) (hcs : cs + 43 ≤ room_1.cells ∧ ss + 1059 ≤ room_1.slots) (hl : lv_has ls 4 [(0, .ref b), (1, .ref x1), (2, .ref x2), (3, vi (i : Int))]) (hI : lwI s n e X Y I J H locs) (h1 : zad X (0, 0, 0) = x1) (h2 : zad Y (50, 0, 0) = x2) (hk : lwN p l v s g B meth co b (n + 1) (cs + 43) (ss + 1059) x1 x2 ls) : W p l v room_1 s g #[Value.ref b] B meth co H locs cs ss (lw_Z B #[Value.ref b] s) (F0 g 606 ls []) := by
  obtain ⟨hR, hW, hY, hKX, hKY, hH, hS⟩ := hI
  have hq : okC _ e (fX11_versions (xs (i + 1)).toInt (xs (i + 2)).toInt I) (fX12_versions (xs (i + 1)).toInt (xs (i + 2)).toInt J) := Q_versions hR (i32x _) (i32x _)
  obtain ⟨r, c', m', hf, hg, hR'⟩ := hq
  subst h1 h2
  refine lw_ald 1 C0 hl dL_law_606 rfl ?_
  refine lw_arg (i := i) 1 C0 hS hl hL rfl (by omega) dL_law_607 dL_law_608 dL_law_609 dL_law_610 dL_law_611 ?_
  refine lw_arg (i := i) 2 C0 hS hl hL rfl (by omega) dL_law_612 dL_law_613 dL_law_614 dL_law_615 dL_law_616 ?_
  refine lw_call (q := (0, 0, 0)) (As := [vi (xs (i + 1)).toInt, vi (xs (i + 2)).toInt]) (T' := (some (vi r), c')) C0 hKX hH hS hl ⟨by omega, by omega⟩ (kX11_versions hW.2.1 hW.o hW.e1 hf) mvl_59 hW.d rfl rfl rfl rfl rfl dL_law_617 (fun H1 locs1 hH1 hS1 => ?_)
  refine lw_ald 2 C0 hl dL_law_620 rfl ?_
  refine lw_arg (i := i) 1 C0 hS1 hl hL rfl (by omega) dL_law_621 dL_law_622 dL_law_623 dL_law_624 dL_law_625 ?_
  refine lw_arg (i := i) 2 C0 hS1 hl hL rfl (by omega) dL_law_626 dL_law_627 dL_law_628 dL_law_629 dL_law_630 ?_
  refine lw_call (q := (50, 0, 0)) (As := [vi (xs (i + 1)).toInt, vi (xs (i + 2)).toInt]) (T' := (some (vi r), m')) C0 hKY hH1.sy hS1 hl ⟨by omega, by omega⟩ (kX12_versions hY.1 zok9 hg) mvl_62 (hY.1.1 _ zok9) rfl rfl rfl rfl rfl dL_law_631 (fun H2 locs2 hH2 hS2 => ?_)
  refine lw_eq C0 dL_law_634 rfl ?_
  exact W.widen (by omega) (by omega) (hk e X Y c' m' H2 locs2 ⟨lw_n hR', hW, hY, hKX, hKY, hH2.sy, hS2⟩ rfl rfl)
theorem lw_c13 (C0 : lw_At p s g meth co b L xs) (hL : L ≤ 3072) (hi : i + 6 ≤ L) (hn : n ≤ 512) (hcs : cs + 43 ≤ room_1.cells ∧ ss + 1059 ≤ room_1.slots) (hl : lv_has ls 4 [(0, .ref b), (1, .ref x1), (2, .ref x2), (3, vi (i : Int))]) (hI : lwI s n e X Y I J H locs) (h1 : zad X (0, 0, 0) = x1) (h2 : zad Y (50, 0, 0) = x2) (hk : lwN p l v s g B meth co b (n + 1) (cs + 43) (ss + 1059) x1 x2 ls) : W p l v room_1 s g #[Value.ref b] B meth co H locs cs ss (lw_Z B #[Value.ref b] s) (F0 g 745 ls []) := by
  obtain ⟨hR, hW, hY, hKX, hKY, hH, hS⟩ := hI
  have hq : okC _ e (fX11_limit (xs (i + 1)).toInt I) (fX12_limit (xs (i + 1)).toInt J) := Q_limit hR (i32x _)
  obtain ⟨r, c', m', hf, hg, hR'⟩ := hq
  subst h1 h2
  refine lw_ald 1 C0 hl dL_law_745 rfl ?_
  refine lw_arg (i := i) 1 C0 hS hl hL rfl (by omega) dL_law_746 dL_law_747 dL_law_748 dL_law_749 dL_law_750 ?_
  refine lw_call (q := (0, 0, 0)) (As := [vi (xs (i + 1)).toInt]) (T' := (some (vi r), c')) C0 hKX hH hS hl ⟨by omega, by omega⟩ (kX11_limit hW.2.1 hW.o hW.e1 hf) mvl_72 hW.d rfl rfl rfl rfl rfl dL_law_751 (fun H1 locs1 hH1 hS1 => ?_)
  refine lw_ald 2 C0 hl dL_law_754 rfl ?_
  refine lw_arg (i := i) 1 C0 hS1 hl hL rfl (by omega) dL_law_755 dL_law_756 dL_law_757 dL_law_758 dL_law_759 ?_
  refine lw_call (q := (50, 0, 0)) (As := [vi (xs (i + 1)).toInt]) (T' := (some (vi r), m')) C0 hKY hH1.sy hS1 hl ⟨by omega, by omega⟩ (kX12_limit hY.1 zok9 hg) mvl_75 (hY.1.1 _ zok9) rfl rfl rfl rfl rfl dL_law_760 (fun H2 locs2 hH2 hS2 => ?_)
  refine lw_eq C0 dL_law_763 rfl ?_
  exact W.widen (by omega) (by omega) (hk e X Y c' m' H2 locs2 ⟨lw_n hR', hW, hY, hKX, hKY, hH2.sy, hS2⟩ rfl rfl)
theorem lw_c16 (C0 : lw_At p s g meth co b L xs) (hL : L ≤ 3072) (hi : i + 6 ≤ L) (hn : n ≤ 512) (hcs : cs + 43 ≤ room_1.cells ∧ ss + 1059 ≤ room_1.slots) (hl : lv_has ls 4 [(0, .ref b), (1, .ref x1), (2, .ref x2), (3, vi (i : Int))]) (hI : lwI s n e X Y I J H locs) (h1 : zad X (0, 0, 0) = x1) (h2 : zad Y (50, 0, 0) = x2) (hk : lwN p l v s g B meth co b (n + 1) (cs + 43) (ss + 1059) x1 x2 ls) : W p l v room_1 s g #[Value.ref b] B meth co H locs cs ss (lw_Z B #[Value.ref b] s) (F0 g 814 ls []) := by
  obtain ⟨hR, hW, hY, hKX, hKY, hH, hS⟩ := hI
  have hq : okC _ e (fX11_send (xs (i + 1)).toInt (xs (i + 2)).toInt (xs (i + 3)).toInt I) (fX12_send (xs (i + 1)).toInt (xs (i + 2)).toInt (xs (i + 3)).toInt J) := Q_send hR (by omega) (i32x _) (i32x _) (i32x _)
  obtain ⟨r, c', m', hf, hg, hR'⟩ := hq
  subst h1 h2
  refine lw_ald 1 C0 hl dL_law_814 rfl ?_
  refine lw_arg (i := i) 1 C0 hS hl hL rfl (by omega) dL_law_815 dL_law_816 dL_law_817 dL_law_818 dL_law_819 ?_
  refine lw_arg (i := i) 2 C0 hS hl hL rfl (by omega) dL_law_820 dL_law_821 dL_law_822 dL_law_823 dL_law_824 ?_
  refine lw_arg (i := i) 3 C0 hS hl hL rfl (by omega) dL_law_825 dL_law_826 dL_law_827 dL_law_828 dL_law_829 ?_
  refine lw_call (q := (0, 0, 0)) (As := [vi (xs (i + 1)).toInt, vi (xs (i + 2)).toInt, vi (xs (i + 3)).toInt]) (T' := (some (vi r), c')) C0 hKX hH hS hl ⟨by omega, by omega⟩ (kX11_send hW.2.1 hW.o hW.e1 hf) mvl_84 hW.d rfl rfl rfl rfl rfl dL_law_830 (fun H1 locs1 hH1 hS1 => ?_)
  refine lw_ald 2 C0 hl dL_law_833 rfl ?_
  refine lw_arg (i := i) 1 C0 hS1 hl hL rfl (by omega) dL_law_834 dL_law_835 dL_law_836 dL_law_837 dL_law_838 ?_
  refine lw_arg (i := i) 2 C0 hS1 hl hL rfl (by omega) dL_law_839 dL_law_840 dL_law_841 dL_law_842 dL_law_843 ?_
  refine lw_arg (i := i) 3 C0 hS1 hl hL rfl (by omega) dL_law_844 dL_law_845 dL_law_846 dL_law_847 dL_law_848 ?_
  refine lw_call (q := (50, 0, 0)) (As := [vi (xs (i + 1)).toInt, vi (xs (i + 2)).toInt, vi (xs (i + 3)).toInt]) (T' := (some (vi r), m')) C0 hKY hH1.sy hS1 hl ⟨by omega, by omega⟩ (kX12_send hY.1 zok9 hg) mvl_87 (hY.1.1 _ zok9) rfl rfl rfl rfl rfl dL_law_849 (fun H2 locs2 hH2 hS2 => ?_)
  refine lw_eq C0 dL_law_852 rfl ?_
  exact W.widen (by omega) (by omega) (hk e X Y c' m' H2 locs2 ⟨lw_n hR', hW, hY, hKX, hKY, hH2.sy, hS2⟩ rfl rfl)
theorem lw_c19 (C0 : lw_At p s g meth co b L xs) (hL : L ≤ 3072) (hi : i + 6 ≤ L) (hn : n ≤ 512) (hcs : cs + 43 ≤ room_1.cells ∧ ss + 1059 ≤ room_1.slots) (hl : lv_has ls 4 [(0, .ref b), (1, .ref x1), (2, .ref x2), (3, vi (i : Int))]) (hI : lwI s n e X Y I J H locs) (h1 : zad X (0, 0, 0) = x1) (h2 : zad Y (50, 0, 0) = x2) (hk : lwN p l v s g B meth co b (n + 1) (cs + 43) (ss + 1059) x1 x2 ls) : W p l v room_1 s g #[Value.ref b] B meth co H locs cs ss (lw_Z B #[Value.ref b] s) (F0 g 943 ls []) := by
  obtain ⟨hR, hW, hY, hKX, hKY, hH, hS⟩ := hI
  have hq : okC _ e (fX11_tick (xs (i + 1)).toInt I) (fX12_tick (xs (i + 1)).toInt J) := Q_tick hR (by omega) (i32x _)
  obtain ⟨r, c', m', hf, hg, hR'⟩ := hq
  subst h1 h2
  refine lw_ald 1 C0 hl dL_law_943 rfl ?_
  refine lw_arg (i := i) 1 C0 hS hl hL rfl (by omega) dL_law_944 dL_law_945 dL_law_946 dL_law_947 dL_law_948 ?_
  refine lw_call (q := (0, 0, 0)) (As := [vi (xs (i + 1)).toInt]) (T' := (some (vi r), c')) C0 hKX hH hS hl ⟨by omega, by omega⟩ (kX11_tick hW.2.1 hW.o hW.e1 hf) mvl_96 hW.d rfl rfl rfl rfl rfl dL_law_949 (fun H1 locs1 hH1 hS1 => ?_)
  refine lw_ald 2 C0 hl dL_law_952 rfl ?_
  refine lw_arg (i := i) 1 C0 hS1 hl hL rfl (by omega) dL_law_953 dL_law_954 dL_law_955 dL_law_956 dL_law_957 ?_
  refine lw_call (q := (50, 0, 0)) (As := [vi (xs (i + 1)).toInt]) (T' := (some (vi r), m')) C0 hKY hH1.sy hS1 hl ⟨by omega, by omega⟩ (kX12_tick hY.1 zok9 hg) mvl_99 (hY.1.1 _ zok9) rfl rfl rfl rfl rfl dL_law_958 (fun H2 locs2 hH2 hS2 => ?_)
  refine lw_eq C0 dL_law_961 rfl ?_
  exact W.widen (by omega) (by omega) (hk e X Y c' m' H2 locs2 ⟨lw_n hR', hW, hY, hKX, hKY, hH2.sy, hS2⟩ rfl rfl)
theorem lw_c22 (C0 : lw_At p s g meth co b L xs) (hL : L ≤ 3072) (hi : i + 6 ≤ L) (hn : n ≤ 512) (hcs : cs + 43 ≤ room_1.cells ∧ ss + 1059 ≤ room_1.slots) (hl : lv_has ls 4 [(0, .ref b), (1, .ref x1), (2, .ref x2), (3, vi (i : Int))]) (hI : lwI s n e X Y I J H locs) (h1 : zad X (0, 0, 0) = x1) (h2 : zad Y (50, 0, 0) = x2) (hk : lwN p l v s g B meth co b (n + 1) (cs + 43) (ss + 1059) x1 x2 ls) : W p l v room_1 s g #[Value.ref b] B meth co H locs cs ss (lw_Z B #[Value.ref b] s) (F0 g 1032 ls []) := by
  obtain ⟨hR, hW, hY, hKX, hKY, hH, hS⟩ := hI
  have hq : okC _ e (fX11_drain  I) (fX12_drain  J) := Q_drain hR (by omega)
  obtain ⟨r, c', m', hf, hg, hR'⟩ := hq
  subst h1 h2
  refine lw_ald 1 C0 hl dL_law_1032 rfl ?_
  refine lw_call (q := (0, 0, 0)) (As := []) (T' := (some (vi r), c')) C0 hKX hH hS hl ⟨by omega, by omega⟩ (kX11_drain hW.2.1 hW.o hW.e1 hf) mvl_109 hW.d rfl rfl rfl rfl rfl dL_law_1033 (fun H1 locs1 hH1 hS1 => ?_)
  refine lw_ald 2 C0 hl dL_law_1036 rfl ?_
  refine lw_call (q := (50, 0, 0)) (As := []) (T' := (some (vi r), m')) C0 hKY hH1.sy hS1 hl ⟨by omega, by omega⟩ (kX12_drain hY.1 zok9 hg) mvl_112 (hY.1.1 _ zok9) rfl rfl rfl rfl rfl dL_law_1037 (fun H2 locs2 hH2 hS2 => ?_)
  refine lw_eq C0 dL_law_1040 rfl ?_
  exact W.widen (by omega) (by omega) (hk e X Y c' m' H2 locs2 ⟨lw_n hR', hW, hY, hKX, hKY, hH2.sy, hS2⟩ rfl rfl)
theorem lw_c25 (C0 : lw_At p s g meth co b L xs) (hL : L ≤ 3072) (hi : i + 6 ≤ L) (hn : n ≤ 512) (hcs : cs + 43 ≤ room_1.cells ∧ ss + 1059 ≤ room_1.slots) (hl : lv_has ls 4 [(0, .ref b), (1, .ref x1), (2, .ref x2), (3, vi (i : Int))]) (hI : lwI s n e X Y I J H locs) (h1 : zad X (0, 0, 0) = x1) (h2 : zad Y (50, 0, 0) = x2) (hk : lwN p l v s g B meth co b (n + 1) (cs + 43) (ss + 1059) x1 x2 ls) : W p l v room_1 s g #[Value.ref b] B meth co H locs cs ss (lw_Z B #[Value.ref b] s) (F0 g 1101 ls []) := by
  obtain ⟨hR, hW, hY, hKX, hKY, hH, hS⟩ := hI
  have hq : okR _ e I (fX11_process (xs (i + 1)).toInt (xs (i + 2)).toInt I) (fX12_process (xs (i + 1)).toInt (xs (i + 2)).toInt J) := Q_process hR (i32x _) (i32x _)
  obtain ⟨r, m', hf, hg, hR'⟩ := hq
  subst h1 h2
  refine lw_ald 1 C0 hl dL_law_1101 rfl ?_
  refine lw_arg (i := i) 1 C0 hS hl hL rfl (by omega) dL_law_1102 dL_law_1103 dL_law_1104 dL_law_1105 dL_law_1106 ?_
  refine lw_arg (i := i) 2 C0 hS hl hL rfl (by omega) dL_law_1107 dL_law_1108 dL_law_1109 dL_law_1110 dL_law_1111 ?_
  refine lw_call (q := (0, 0, 0)) (As := [vi (xs (i + 1)).toInt, vi (xs (i + 2)).toInt]) (T' := (some (vi r), I)) C0 hKX hH hS hl ⟨by omega, by omega⟩ (kX11_process hW.2.1 hW.o hW.e1 hf) mvl_121 hW.d rfl rfl rfl rfl rfl dL_law_1112 (fun H1 locs1 hH1 hS1 => ?_)
  refine lw_ald 2 C0 hl dL_law_1115 rfl ?_
  refine lw_arg (i := i) 1 C0 hS1 hl hL rfl (by omega) dL_law_1116 dL_law_1117 dL_law_1118 dL_law_1119 dL_law_1120 ?_
  refine lw_arg (i := i) 2 C0 hS1 hl hL rfl (by omega) dL_law_1121 dL_law_1122 dL_law_1123 dL_law_1124 dL_law_1125 ?_
  refine lw_call (q := (50, 0, 0)) (As := [vi (xs (i + 1)).toInt, vi (xs (i + 2)).toInt]) (T' := (some (vi r), m')) C0 hKY hH1.sy hS1 hl ⟨by omega, by omega⟩ (kX12_process hY.1 zok9 hg) mvl_124 (hY.1.1 _ zok9) rfl rfl rfl rfl rfl dL_law_1126 (fun H2 locs2 hH2 hS2 => ?_)
  refine lw_eq C0 dL_law_1129 rfl ?_
  exact W.widen (by omega) (by omega) (hk e X Y I m' H2 locs2 ⟨lw_n hR', hW, hY, hKX, hKY, hH2.sy, hS2⟩ rfl rfl)
theorem lw_c28 (C0 : lw_At p s g meth co b L xs) (hL : L ≤ 3072) (hi : i + 6 ≤ L) (hn : n ≤ 512) (hcs : cs + 43 ≤ room_1.cells ∧ ss + 1059 ≤ room_1.slots) (hl : lv_has ls 4 [(0, .ref b), (1, .ref x1), (2, .ref x2), (3, vi (i : Int))]) (hI : lwI s n e X Y I J H locs) (h1 : zad X (0, 0, 0) = x1) (h2 : zad Y (50, 0, 0) = x2) (hk : lwN p l v s g B meth co b (n + 1) (cs + 43) (ss + 1059) x1 x2 ls) : W p l v room_1 s g #[Value.ref b] B meth co H locs cs ss (lw_Z B #[Value.ref b] s) (F0 g 1190 ls []) := by
  obtain ⟨hR, hW, hY, hKX, hKY, hH, hS⟩ := hI
  have hq : okR _ e I (fX11_waiting (xs (i + 1)).toInt I) (fX12_waiting (xs (i + 1)).toInt J) := Q_waiting hR (i32x _)
  obtain ⟨r, m', hf, hg, hR'⟩ := hq
  subst h1 h2
  refine lw_ald 1 C0 hl dL_law_1190 rfl ?_
  refine lw_arg (i := i) 1 C0 hS hl hL rfl (by omega) dL_law_1191 dL_law_1192 dL_law_1193 dL_law_1194 dL_law_1195 ?_
  refine lw_call (q := (0, 0, 0)) (As := [vi (xs (i + 1)).toInt]) (T' := (some (vi r), I)) C0 hKX hH hS hl ⟨by omega, by omega⟩ (kX11_waiting hW.2.1 hW.o hW.e1 hf) mvl_133 hW.d rfl rfl rfl rfl rfl dL_law_1196 (fun H1 locs1 hH1 hS1 => ?_)
  refine lw_ald 2 C0 hl dL_law_1199 rfl ?_
  refine lw_arg (i := i) 1 C0 hS1 hl hL rfl (by omega) dL_law_1200 dL_law_1201 dL_law_1202 dL_law_1203 dL_law_1204 ?_
  refine lw_call (q := (50, 0, 0)) (As := [vi (xs (i + 1)).toInt]) (T' := (some (vi r), m')) C0 hKY hH1.sy hS1 hl ⟨by omega, by omega⟩ (kX12_waiting hY.1 zok9 hg) mvl_136 (hY.1.1 _ zok9) rfl rfl rfl rfl rfl dL_law_1205 (fun H2 locs2 hH2 hS2 => ?_)
  refine lw_eq C0 dL_law_1208 rfl ?_
  exact W.widen (by omega) (by omega) (hk e X Y I m' H2 locs2 ⟨lw_n hR', hW, hY, hKX, hKY, hH2.sy, hS2⟩ rfl rfl)
theorem lw_c31 (C0 : lw_At p s g meth co b L xs) (hL : L ≤ 3072) (hi : i + 6 ≤ L) (hn : n ≤ 512) (hcs : cs + 43 ≤ room_1.cells ∧ ss + 1059 ≤ room_1.slots) (hl : lv_has ls 4 [(0, .ref b), (1, .ref x1), (2, .ref x2), (3, vi (i : Int))]) (hI : lwI s n e X Y I J H locs) (h1 : zad X (0, 0, 0) = x1) (h2 : zad Y (50, 0, 0) = x2) (hk : lwN p l v s g B meth co b (n + 1) (cs + 43) (ss + 1059) x1 x2 ls) : W p l v room_1 s g #[Value.ref b] B meth co H locs cs ss (lw_Z B #[Value.ref b] s) (F0 g 1289 ls []) := by
  obtain ⟨hR, hW, hY, hKX, hKY, hH, hS⟩ := hI
  have hq : okR _ e I (fX11_soft (xs (i + 1)).toInt (xs (i + 2)).toInt I) (fX12_soft (xs (i + 1)).toInt (xs (i + 2)).toInt J) := Q_soft hR (i32x _) (i32x _)
  obtain ⟨r, m', hf, hg, hR'⟩ := hq
  subst h1 h2
  refine lw_ald 1 C0 hl dL_law_1289 rfl ?_
  refine lw_arg (i := i) 1 C0 hS hl hL rfl (by omega) dL_law_1290 dL_law_1291 dL_law_1292 dL_law_1293 dL_law_1294 ?_
  refine lw_arg (i := i) 2 C0 hS hl hL rfl (by omega) dL_law_1295 dL_law_1296 dL_law_1297 dL_law_1298 dL_law_1299 ?_
  refine lw_call (q := (0, 0, 0)) (As := [vi (xs (i + 1)).toInt, vi (xs (i + 2)).toInt]) (T' := (some (vi r), I)) C0 hKX hH hS hl ⟨by omega, by omega⟩ (kX11_soft hW.2.1 hW.o hW.e1 hf) mvl_145 hW.d rfl rfl rfl rfl rfl dL_law_1300 (fun H1 locs1 hH1 hS1 => ?_)
  refine lw_ald 2 C0 hl dL_law_1303 rfl ?_
  refine lw_arg (i := i) 1 C0 hS1 hl hL rfl (by omega) dL_law_1304 dL_law_1305 dL_law_1306 dL_law_1307 dL_law_1308 ?_
  refine lw_arg (i := i) 2 C0 hS1 hl hL rfl (by omega) dL_law_1309 dL_law_1310 dL_law_1311 dL_law_1312 dL_law_1313 ?_
  refine lw_call (q := (50, 0, 0)) (As := [vi (xs (i + 1)).toInt, vi (xs (i + 2)).toInt]) (T' := (some (vi r), m')) C0 hKY hH1.sy hS1 hl ⟨by omega, by omega⟩ (kX12_soft hY.1 zok9 hg) mvl_148 (hY.1.1 _ zok9) rfl rfl rfl rfl rfl dL_law_1314 (fun H2 locs2 hH2 hS2 => ?_)
  refine lw_eq C0 dL_law_1317 rfl ?_
  exact W.widen (by omega) (by omega) (hk e X Y I m' H2 locs2 ⟨lw_n hR', hW, hY, hKX, hKY, hH2.sy, hS2⟩ rfl rfl)
theorem lw_c34 (C0 : lw_At p s g meth co b L xs) (hL : L ≤ 3072) (hi : i + 6 ≤ L) (hn : n ≤ 512) (hcs : cs + 43 ≤ room_1.cells ∧ ss + 1059 ≤ room_1.slots) (hl : lv_has ls 4 [(0, .ref b), (1, .ref x1), (2, .ref x2), (3, vi (i : Int))]) (hI : lwI s n e X Y I J H locs) (h1 : zad X (0, 0, 0) = x1) (h2 : zad Y (50, 0, 0) = x2) (hk : lwN p l v s g B meth co b (n + 1) (cs + 43) (ss + 1059) x1 x2 ls) : W p l v room_1 s g #[Value.ref b] B meth co H locs cs ss (lw_Z B #[Value.ref b] s) (F0 g 1378 ls []) := by
  obtain ⟨hR, hW, hY, hKX, hKY, hH, hS⟩ := hI
  have hq : okR _ e I (fX11_sum (xs (i + 1)).toInt (xs (i + 2)).toInt I) (fX12_sum (xs (i + 1)).toInt (xs (i + 2)).toInt J) := Q_sum hR (i32x _) (i32x _)
  obtain ⟨r, m', hf, hg, hR'⟩ := hq
  subst h1 h2
  refine lw_ald 1 C0 hl dL_law_1378 rfl ?_
  refine lw_arg (i := i) 1 C0 hS hl hL rfl (by omega) dL_law_1379 dL_law_1380 dL_law_1381 dL_law_1382 dL_law_1383 ?_
  refine lw_arg (i := i) 2 C0 hS hl hL rfl (by omega) dL_law_1384 dL_law_1385 dL_law_1386 dL_law_1387 dL_law_1388 ?_
  refine lw_call (q := (0, 0, 0)) (As := [vi (xs (i + 1)).toInt, vi (xs (i + 2)).toInt]) (T' := (some (vi r), I)) C0 hKX hH hS hl ⟨by omega, by omega⟩ (kX11_sum hW.2.1 hW.o hW.e1 hf) mvl_157 hW.d rfl rfl rfl rfl rfl dL_law_1389 (fun H1 locs1 hH1 hS1 => ?_)
  refine lw_ald 2 C0 hl dL_law_1392 rfl ?_
  refine lw_arg (i := i) 1 C0 hS1 hl hL rfl (by omega) dL_law_1393 dL_law_1394 dL_law_1395 dL_law_1396 dL_law_1397 ?_
  refine lw_arg (i := i) 2 C0 hS1 hl hL rfl (by omega) dL_law_1398 dL_law_1399 dL_law_1400 dL_law_1401 dL_law_1402 ?_
  refine lw_call (q := (50, 0, 0)) (As := [vi (xs (i + 1)).toInt, vi (xs (i + 2)).toInt]) (T' := (some (vi r), m')) C0 hKY hH1.sy hS1 hl ⟨by omega, by omega⟩ (kX12_sum hY.1 zok9 hg) mvl_160 (hY.1.1 _ zok9) rfl rfl rfl rfl rfl dL_law_1403 (fun H2 locs2 hH2 hS2 => ?_)
  refine lw_eq C0 dL_law_1406 rfl ?_
  exact W.widen (by omega) (by omega) (hk e X Y I m' H2 locs2 ⟨lw_n hR', hW, hY, hKX, hKY, hH2.sy, hS2⟩ rfl rfl)
theorem lw_c37 (C0 : lw_At p s g meth co b L xs) (hL : L ≤ 3072) (hi : i + 6 ≤ L) (hn : n ≤ 512) (hcs : cs + 43 ≤ room_1.cells ∧ ss + 1059 ≤ room_1.slots) (hl : lv_has ls 4 [(0, .ref b), (1, .ref x1), (2, .ref x2), (3, vi (i : Int))]) (hI : lwI s n e X Y I J H locs) (h1 : zad X (0, 0, 0) = x1) (h2 : zad Y (50, 0, 0) = x2) (hk : lwN p l v s g B meth co b (n + 1) (cs + 43) (ss + 1059) x1 x2 ls) : W p l v room_1 s g #[Value.ref b] B meth co H locs cs ss (lw_Z B #[Value.ref b] s) (F0 g 1457 ls []) := by
  obtain ⟨hR, hW, hY, hKX, hKY, hH, hS⟩ := hI
  have hq : okC _ e (fX11_lean (xs (i + 1)).toInt (xs (i + 2)).toInt I) (fX12_lean (xs (i + 1)).toInt (xs (i + 2)).toInt J) := Q_lean hR (i32x _) (i32x _)
  obtain ⟨r, c', m', hf, hg, hR'⟩ := hq
  subst h1 h2
  refine lw_ald 1 C0 hl dL_law_1457 rfl ?_
  refine lw_arg (i := i) 1 C0 hS hl hL rfl (by omega) dL_law_1458 dL_law_1459 dL_law_1460 dL_law_1461 dL_law_1462 ?_
  refine lw_arg (i := i) 2 C0 hS hl hL rfl (by omega) dL_law_1463 dL_law_1464 dL_law_1465 dL_law_1466 dL_law_1467 ?_
  refine lw_call (q := (0, 0, 0)) (As := [vi (xs (i + 1)).toInt, vi (xs (i + 2)).toInt]) (T' := (some (vi r), c')) C0 hKX hH hS hl ⟨by omega, by omega⟩ (kX11_lean hW.2.1 hW.o hW.e1 hf) mvl_169 hW.d rfl rfl rfl rfl rfl dL_law_1468 (fun H1 locs1 hH1 hS1 => ?_)
  refine lw_ald 2 C0 hl dL_law_1471 rfl ?_
  refine lw_arg (i := i) 1 C0 hS1 hl hL rfl (by omega) dL_law_1472 dL_law_1473 dL_law_1474 dL_law_1475 dL_law_1476 ?_
  refine lw_arg (i := i) 2 C0 hS1 hl hL rfl (by omega) dL_law_1477 dL_law_1478 dL_law_1479 dL_law_1480 dL_law_1481 ?_
  refine lw_call (q := (50, 0, 0)) (As := [vi (xs (i + 1)).toInt, vi (xs (i + 2)).toInt]) (T' := (some (vi r), m')) C0 hKY hH1.sy hS1 hl ⟨by omega, by omega⟩ (kX12_lean hY.1 zok9 hg) mvl_172 (hY.1.1 _ zok9) rfl rfl rfl rfl rfl dL_law_1482 (fun H2 locs2 hH2 hS2 => ?_)
  refine lw_eq C0 dL_law_1485 rfl ?_
  exact W.widen (by omega) (by omega) (hk e X Y c' m' H2 locs2 ⟨lw_n hR', hW, hY, hKX, hKY, hH2.sy, hS2⟩ rfl rfl)
theorem lw_c40 (C0 : lw_At p s g meth co b L xs) (hL : L ≤ 3072) (hi : i + 6 ≤ L) (hn : n ≤ 512) (hcs : cs + 43 ≤ room_1.cells ∧ ss + 1059 ≤ room_1.slots) (hl : lv_has ls 4 [(0, .ref b), (1, .ref x1), (2, .ref x2), (3, vi (i : Int))]) (hI : lwI s n e X Y I J H locs) (h1 : zad X (0, 0, 0) = x1) (h2 : zad Y (50, 0, 0) = x2) (hk : lwN p l v s g B meth co b (n + 1) (cs + 43) (ss + 1059) x1 x2 ls) : W p l v room_1 s g #[Value.ref b] B meth co H locs cs ss (lw_Z B #[Value.ref b] s) (F0 g 1556 ls []) := by
  obtain ⟨hR, hW, hY, hKX, hKY, hH, hS⟩ := hI
  have hq : okC _ e (fX11_listed (xs (i + 1)).toInt (xs (i + 2)).toInt I) (fX12_listed (xs (i + 1)).toInt (xs (i + 2)).toInt J) := Q_listed hR (i32x _) (i32x _)
  obtain ⟨r, c', m', hf, hg, hR'⟩ := hq
  subst h1 h2
  refine lw_ald 1 C0 hl dL_law_1556 rfl ?_
  refine lw_arg (i := i) 1 C0 hS hl hL rfl (by omega) dL_law_1557 dL_law_1558 dL_law_1559 dL_law_1560 dL_law_1561 ?_
  refine lw_arg (i := i) 2 C0 hS hl hL rfl (by omega) dL_law_1562 dL_law_1563 dL_law_1564 dL_law_1565 dL_law_1566 ?_
  refine lw_call (q := (0, 0, 0)) (As := [vi (xs (i + 1)).toInt, vi (xs (i + 2)).toInt]) (T' := (some (vi r), c')) C0 hKX hH hS hl ⟨by omega, by omega⟩ (kX11_listed hW.2.1 hW.o hW.e1 hf) mvl_181 hW.d rfl rfl rfl rfl rfl dL_law_1567 (fun H1 locs1 hH1 hS1 => ?_)
  refine lw_ald 2 C0 hl dL_law_1570 rfl ?_
  refine lw_arg (i := i) 1 C0 hS1 hl hL rfl (by omega) dL_law_1571 dL_law_1572 dL_law_1573 dL_law_1574 dL_law_1575 ?_
  refine lw_arg (i := i) 2 C0 hS1 hl hL rfl (by omega) dL_law_1576 dL_law_1577 dL_law_1578 dL_law_1579 dL_law_1580 ?_
  refine lw_call (q := (50, 0, 0)) (As := [vi (xs (i + 1)).toInt, vi (xs (i + 2)).toInt]) (T' := (some (vi r), m')) C0 hKY hH1.sy hS1 hl ⟨by omega, by omega⟩ (kX12_listed hY.1 zok9 hg) mvl_184 (hY.1.1 _ zok9) rfl rfl rfl rfl rfl dL_law_1581 (fun H2 locs2 hH2 hS2 => ?_)
  refine lw_eq C0 dL_law_1584 rfl ?_
  exact W.widen (by omega) (by omega) (hk e X Y c' m' H2 locs2 ⟨lw_n hR', hW, hY, hKX, hKY, hH2.sy, hS2⟩ rfl rfl)
theorem lw_c43 (C0 : lw_At p s g meth co b L xs) (hL : L ≤ 3072) (hi : i + 6 ≤ L) (hn : n ≤ 512) (hcs : cs + 43 ≤ room_1.cells ∧ ss + 1059 ≤ room_1.slots) (hl : lv_has ls 4 [(0, .ref b), (1, .ref x1), (2, .ref x2), (3, vi (i : Int))]) (hI : lwI s n e X Y I J H locs) (h1 : zad X (0, 0, 0) = x1) (h2 : zad Y (50, 0, 0) = x2) (hk : lwN p l v s g B meth co b (n + 1) (cs + 43) (ss + 1059) x1 x2 ls) : W p l v room_1 s g #[Value.ref b] B meth co H locs cs ss (lw_Z B #[Value.ref b] s) (F0 g 1655 ls []) := by
  obtain ⟨hR, hW, hY, hKX, hKY, hH, hS⟩ := hI
  have hq : okC _ e (fX11_wrong (xs (i + 1)).toInt I) (fX12_wrong (xs (i + 1)).toInt J) := Q_wrong hR (i32x _)
  obtain ⟨r, c', m', hf, hg, hR'⟩ := hq
  subst h1 h2
  refine lw_ald 1 C0 hl dL_law_1655 rfl ?_
  refine lw_arg (i := i) 1 C0 hS hl hL rfl (by omega) dL_law_1656 dL_law_1657 dL_law_1658 dL_law_1659 dL_law_1660 ?_
  refine lw_call (q := (0, 0, 0)) (As := [vi (xs (i + 1)).toInt]) (T' := (some (vi r), c')) C0 hKX hH hS hl ⟨by omega, by omega⟩ (kX11_wrong hW.2.1 hW.o hW.e1 hf) mvl_193 hW.d rfl rfl rfl rfl rfl dL_law_1661 (fun H1 locs1 hH1 hS1 => ?_)
  refine lw_ald 2 C0 hl dL_law_1664 rfl ?_
  refine lw_arg (i := i) 1 C0 hS1 hl hL rfl (by omega) dL_law_1665 dL_law_1666 dL_law_1667 dL_law_1668 dL_law_1669 ?_
  refine lw_call (q := (50, 0, 0)) (As := [vi (xs (i + 1)).toInt]) (T' := (some (vi r), m')) C0 hKY hH1.sy hS1 hl ⟨by omega, by omega⟩ (kX12_wrong hY.1 zok9 hg) mvl_196 (hY.1.1 _ zok9) rfl rfl rfl rfl rfl dL_law_1670 (fun H2 locs2 hH2 hS2 => ?_)
  refine lw_eq C0 dL_law_1673 rfl ?_
  exact W.widen (by omega) (by omega) (hk e X Y c' m' H2 locs2 ⟨lw_n hR', hW, hY, hKX, hKY, hH2.sy, hS2⟩ rfl rfl)
theorem lw_c46 (C0 : lw_At p s g meth co b L xs) (hL : L ≤ 3072) (hi : i + 6 ≤ L) (hn : n ≤ 512) (hcs : cs + 43 ≤ room_1.cells ∧ ss + 1059 ≤ room_1.slots) (hl : lv_has ls 4 [(0, .ref b), (1, .ref x1), (2, .ref x2), (3, vi (i : Int))]) (hI : lwI s n e X Y I J H locs) (h1 : zad X (0, 0, 0) = x1) (h2 : zad Y (50, 0, 0) = x2) (hk : lwN p l v s g B meth co b (n + 1) (cs + 43) (ss + 1059) x1 x2 ls) : W p l v room_1 s g #[Value.ref b] B meth co H locs cs ss (lw_Z B #[Value.ref b] s) (F0 g 1724 ls []) := by
  obtain ⟨hR, hW, hY, hKX, hKY, hH, hS⟩ := hI
  have hq : okR _ e I (fX11_given (xs (i + 1)).toInt I) (fX12_given (xs (i + 1)).toInt J) := Q_given hR (by omega) (i32x _)
  obtain ⟨r, m', hf, hg, hR'⟩ := hq
  subst h1 h2
  refine lw_ald 1 C0 hl dL_law_1724 rfl ?_
  refine lw_arg (i := i) 1 C0 hS hl hL rfl (by omega) dL_law_1725 dL_law_1726 dL_law_1727 dL_law_1728 dL_law_1729 ?_
  refine lw_call (q := (0, 0, 0)) (As := [vi (xs (i + 1)).toInt]) (T' := (some (vi r), I)) C0 hKX hH hS hl ⟨by omega, by omega⟩ (kX11_given hW.2.1 hW.o hW.e1 hf) mvl_205 hW.d rfl rfl rfl rfl rfl dL_law_1730 (fun H1 locs1 hH1 hS1 => ?_)
  refine lw_ald 2 C0 hl dL_law_1733 rfl ?_
  refine lw_arg (i := i) 1 C0 hS1 hl hL rfl (by omega) dL_law_1734 dL_law_1735 dL_law_1736 dL_law_1737 dL_law_1738 ?_
  refine lw_call (q := (50, 0, 0)) (As := [vi (xs (i + 1)).toInt]) (T' := (some (vi r), m')) C0 hKY hH1.sy hS1 hl ⟨by omega, by omega⟩ (kX12_given hY.1 zok9 hg) mvl_208 (hY.1.1 _ zok9) rfl rfl rfl rfl rfl dL_law_1739 (fun H2 locs2 hH2 hS2 => ?_)
  refine lw_eq C0 dL_law_1742 rfl ?_
  exact W.widen (by omega) (by omega) (hk e X Y I m' H2 locs2 ⟨lw_n hR', hW, hY, hKX, hKY, hH2.sy, hS2⟩ rfl rfl)
theorem lw_c49 (C0 : lw_At p s g meth co b L xs) (hL : L ≤ 3072) (hi : i + 6 ≤ L) (hn : n ≤ 512) (hcs : cs + 43 ≤ room_1.cells ∧ ss + 1059 ≤ room_1.slots) (hl : lv_has ls 4 [(0, .ref b), (1, .ref x1), (2, .ref x2), (3, vi (i : Int))]) (hI : lwI s n e X Y I J H locs) (h1 : zad X (0, 0, 0) = x1) (h2 : zad Y (50, 0, 0) = x2) (hk : lwN p l v s g B meth co b (n + 1) (cs + 43) (ss + 1059) x1 x2 ls) : W p l v room_1 s g #[Value.ref b] B meth co H locs cs ss (lw_Z B #[Value.ref b] s) (F0 g 1813 ls []) := by
  obtain ⟨hR, hW, hY, hKX, hKY, hH, hS⟩ := hI
  have hq : okC _ e (fX11_write (xs (i + 1)).toInt (xs (i + 2)).toInt (xs (i + 3)).toInt I) (fX12_write (xs (i + 1)).toInt (xs (i + 2)).toInt (xs (i + 3)).toInt J) := Q_write hR (i32x _) (i32x _)
  obtain ⟨r, c', m', hf, hg, hR'⟩ := hq
  subst h1 h2
  refine lw_ald 1 C0 hl dL_law_1813 rfl ?_
  refine lw_arg (i := i) 1 C0 hS hl hL rfl (by omega) dL_law_1814 dL_law_1815 dL_law_1816 dL_law_1817 dL_law_1818 ?_
  refine lw_arg (i := i) 2 C0 hS hl hL rfl (by omega) dL_law_1819 dL_law_1820 dL_law_1821 dL_law_1822 dL_law_1823 ?_
  refine lw_arg (i := i) 3 C0 hS hl hL rfl (by omega) dL_law_1824 dL_law_1825 dL_law_1826 dL_law_1827 dL_law_1828 ?_
  refine lw_call (q := (0, 0, 0)) (As := [vi (xs (i + 1)).toInt, vi (xs (i + 2)).toInt, vi (xs (i + 3)).toInt]) (T' := (some (vi r), c')) C0 hKX hH hS hl ⟨by omega, by omega⟩ (kX11_write hW.2.1 hW.o hW.e1 hf) mvl_217 hW.d rfl rfl rfl rfl rfl dL_law_1829 (fun H1 locs1 hH1 hS1 => ?_)
  refine lw_ald 2 C0 hl dL_law_1832 rfl ?_
  refine lw_arg (i := i) 1 C0 hS1 hl hL rfl (by omega) dL_law_1833 dL_law_1834 dL_law_1835 dL_law_1836 dL_law_1837 ?_
  refine lw_arg (i := i) 2 C0 hS1 hl hL rfl (by omega) dL_law_1838 dL_law_1839 dL_law_1840 dL_law_1841 dL_law_1842 ?_
  refine lw_arg (i := i) 3 C0 hS1 hl hL rfl (by omega) dL_law_1843 dL_law_1844 dL_law_1845 dL_law_1846 dL_law_1847 ?_
  refine lw_call (q := (50, 0, 0)) (As := [vi (xs (i + 1)).toInt, vi (xs (i + 2)).toInt, vi (xs (i + 3)).toInt]) (T' := (some (vi r), m')) C0 hKY hH1.sy hS1 hl ⟨by omega, by omega⟩ (kX12_write hY.1 zok9 hg) mvl_220 (hY.1.1 _ zok9) rfl rfl rfl rfl rfl dL_law_1848 (fun H2 locs2 hH2 hS2 => ?_)
  refine lw_eq C0 dL_law_1851 rfl ?_
  exact W.widen (by omega) (by omega) (hk e X Y c' m' H2 locs2 ⟨lw_n hR', hW, hY, hKX, hKY, hH2.sy, hS2⟩ rfl rfl)
end
