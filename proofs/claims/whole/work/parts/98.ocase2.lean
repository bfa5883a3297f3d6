section
variable {p : Program} {l : Launch} {v : Env} {s : State} {g : MethodId} {B : List Frame} {meth : Method} {co : Code} {b L : Nat} {xs : Nat → Int32} {H : Heap} {locs : List Loc} {ls : Array Slot} {cs ss n i x1 x2 : Nat} {e : Nat → Prop} {X Y : zX} {I J : zMem}
theorem lw_c2 (C0 : lw_At p s g meth co b L xs) (hL : L ≤ 3072) (hi : i + 6 ≤ L) (hn : n ≤ 512) (hcs : cs + 43 ≤ room_1.cells ∧ ss + 1059 ≤ room_1.slots) (hl : lv_has ls 4 [(0, .ref b), (1, .ref x1), (2, .ref x2), (3, vi (i : Int))]) (hI : lwI s n e X Y I J H locs) (h1 : zad X (0, 0, 0) = x1) (h2 : zad Y (50, 0, 0) = x2) (hk : lwN p l v s g B meth co b (n + 1) (cs + 43) (ss + 1059) x1 x2 ls) : W p l v room_1 s g #[Value.ref b] B meth co H locs cs ss (lw_Z B #[Value.ref b] s) (F0 g 320 ls []) := by
  obtain ⟨hR, hW, hY, hKX, hKY, hH, hS⟩ := hI
  have hq : okR _ e I (fX11_bits (xs (i + 1)).toInt I) (fX12_bits (xs (i + 1)).toInt J) := Q_bits hR (i32x _)
  obtain ⟨r, m', hf, hg, hR'⟩ := hq
  subst h1 h2
  refine lw_ald 1 C0 hl dL_law_320 rfl ?_
  refine lw_arg (i := i) 1 C0 hS hl hL rfl (by omega) dL_law_321 dL_law_322 dL_law_323 dL_law_324 dL_law_325 ?_
  refine lw_call (q := (0, 0, 0)) (As := [vi (xs (i + 1)).toInt]) (T' := (some (vl r), I)) C0 hKX hH hS hl ⟨by omega, by omega⟩ (kX11_bits hW.2.1 hW.o hW.e1 hf) mvl_23 hW.d rfl rfl rfl rfl rfl dL_law_326 (fun H1 locs1 hH1 hS1 => ?_)
  refine lw_ald 2 C0 hl dL_law_329 rfl ?_
  refine lw_arg (i := i) 1 C0 hS1 hl hL rfl (by omega) dL_law_330 dL_law_331 dL_law_332 dL_law_333 dL_law_334 ?_
  refine lw_call (q := (50, 0, 0)) (As := [vi (xs (i + 1)).toInt]) (T' := (some (vl r), m')) C0 hKY hH1.sy hS1 hl ⟨by omega, by omega⟩ (kX12_bits hY.1 zok9 hg) mvl_27 (hY.1.1 _ zok9) rfl rfl rfl rfl rfl dL_law_335 (fun H2 locs2 hH2 hS2 => ?_)
  refine lw_eql C0 dL_law_338 dL_law_339 rfl ?_
  exact W.widen (by omega) (by omega) (hk e X Y I m' H2 locs2 ⟨lw_n hR', hW, hY, hKX, hKY, hH2.sy, hS2⟩ rfl rfl)
theorem lw_c5 (C0 : lw_At p s g meth co b L xs) (hL : L ≤ 3072) (hi : i + 6 ≤ L) (hn : n ≤ 512) (hcs : cs + 43 ≤ room_1.cells ∧ ss + 1059 ≤ room_1.slots) (hl : lv_has ls 4 [(0, .ref b), (1, .ref x1), (2, .ref x2), (3, vi (i : Int))]) (hI : lwI s n e X Y I J H locs) (h1 : zad X (0, 0, 0) = x1) (h2 : zad Y (50, 0, 0) = x2) (hk : lwN p l v s g B meth co b (n + 1) (cs + 43) (ss + 1059) x1 x2 ls) : W p l v room_1 s g #[Value.ref b] B meth co H locs cs ss (lw_Z B #[Value.ref b] s) (F0 g 410 ls []) := by
  obtain ⟨hR, hW, hY, hKX, hKY, hH, hS⟩ := hI
  have hq : okC _ e (fX11_covers (xs (i + 1)).toInt (xs (i + 2)).toInt I) (fX12_covers (xs (i + 1)).toInt (xs (i + 2)).toInt J) := Q_covers hR (i32x _) (i32x _)
  obtain ⟨r, c', m', hf, hg, hR'⟩ := hq
  subst h1 h2
  refine lw_ald 1 C0 hl dL_law_410 rfl ?_
  refine lw_arg (i := i) 1 C0 hS hl hL rfl (by omega) dL_law_411 dL_law_412 dL_law_413 dL_law_414 dL_law_415 ?_
  refine lw_arg (i := i) 2 C0 hS hl hL rfl (by omega) dL_law_416 dL_law_417 dL_law_418 dL_law_419 dL_law_420 ?_
  refine lw_call (q := (0, 0, 0)) (As := [vi (xs (i + 1)).toInt, vi (xs (i + 2)).toInt]) (T' := (some (vi r), c')) C0 hKX hH hS hl ⟨by omega, by omega⟩ (kX11_covers hW.2.1 hW.o hW.e1 hf) mvl_37 hW.d rfl rfl rfl rfl rfl dL_law_421 (fun H1 locs1 hH1 hS1 => ?_)
  refine lw_ald 2 C0 hl dL_law_424 rfl ?_
  refine lw_arg (i := i) 1 C0 hS1 hl hL rfl (by omega) dL_law_425 dL_law_426 dL_law_427 dL_law_428 dL_law_429 ?_
  refine lw_arg (i := i) 2 C0 hS1 hl hL rfl (by omega) dL_law_430 dL_law_431 dL_law_432 dL_law_433 dL_law_434 ?_
  refine lw_call (q := (50, 0, 0)) (As := [vi (xs (i + 1)).toInt, vi (xs (i + 2)).toInt]) (T' := (some (vi r), m')) C0 hKY hH1.sy hS1 hl ⟨by omega, by omega⟩ (kX12_covers hY.1 zok9 hg) mvl_40 (hY.1.1 _ zok9) rfl rfl rfl rfl rfl dL_law_435 (fun H2 locs2 hH2 hS2 => ?_)
  refine lw_eq C0 dL_law_438 rfl ?_
  exact W.widen (by omega) (by omega) (hk e X Y c' m' H2 locs2 ⟨lw_n hR', hW, hY, hKX, hKY, hH2.sy, hS2⟩ rfl rfl)
theorem lw_c8 (C0 : lw_At p s g meth co b L xs) (hL : L ≤ 3072) (hi : i + 6 ≤ L) (hn : n ≤ 512) (hcs : cs + 43 ≤ room_1.cells ∧ ss + 1059 ≤ room_1.slots) (hl : lv_has ls 4 [(0, .ref b), (1, .ref x1), (2, .ref x2), (3, vi (i : Int))]) (hI : lwI s n e X Y I J H locs) (h1 : zad X (0, 0, 0) = x1) (h2 : zad Y (50, 0, 0) = x2) (hk : lwN p l v s g B meth co b (n + 1) (cs + 43) (ss + 1059) x1 x2 ls) : W p l v room_1 s g #[Value.ref b] B meth co H locs cs ss (lw_Z B #[Value.ref b] s) (F0 g 530 ls []) := by
  obtain ⟨hR, hW, hY, hKX, hKY, hH, hS⟩ := hI
  have hq : okC _ e (fX11_distance (xs (i + 1)).toInt (xs (i + 2)).toInt (xs (i + 3)).toInt I) (fX12_distance (xs (i + 1)).toInt (xs (i + 2)).toInt (xs (i + 3)).toInt J) := Q_distance hR (i32x _) (i32x _) (i32x _)
  obtain ⟨r, c', m', hf, hg, hR'⟩ := hq
  subst h1 h2
  refine lw_ald 1 C0 hl dL_law_530 rfl ?_
  refine lw_arg (i := i) 1 C0 hS hl hL rfl (by omega) dL_law_531 dL_law_532 dL_law_533 dL_law_534 dL_law_535 ?_
  refine lw_arg (i := i) 2 C0 hS hl hL rfl (by omega) dL_law_536 dL_law_537 dL_law_538 dL_law_539 dL_law_540 ?_
  refine lw_arg (i := i) 3 C0 hS hl hL rfl (by omega) dL_law_541 dL_law_542 dL_law_543 dL_law_544 dL_law_545 ?_
  refine lw_call (q := (0, 0, 0)) (As := [vi (xs (i + 1)).toInt, vi (xs (i + 2)).toInt, vi (xs (i + 3)).toInt]) (T' := (some (vi r), c')) C0 hKX hH hS hl ⟨by omega, by omega⟩ (kX11_distance hW.2.1 hW.o hW.e1 hf) mvl_51 hW.d rfl rfl rfl rfl rfl dL_law_546 (fun H1 locs1 hH1 hS1 => ?_)
  refine lw_ald 2 C0 hl dL_law_549 rfl ?_
  refine lw_arg (i := i) 1 C0 hS1 hl hL rfl (by omega) dL_law_550 dL_law_551 dL_law_552 dL_law_553 dL_law_554 ?_
  refine lw_arg (i := i) 2 C0 hS1 hl hL rfl (by omega) dL_law_555 dL_law_556 dL_law_557 dL_law_558 dL_law_559 ?_
  refine lw_arg (i := i) 3 C0 hS1 hl hL rfl (by omega) dL_law_560 dL_law_561 dL_law_562 dL_law_563 dL_law_564 ?_
  refine lw_call (q := (50, 0, 0)) (As := [vi (xs (i + 1)).toInt, vi (xs (i + 2)).toInt, vi (xs (i + 3)).toInt]) (T' := (some (vi r), m')) C0 hKY hH1.sy hS1 hl ⟨by omega, by omega⟩ (kX12_distance hY.1 zok9 hg) mvl_54 (hY.1.1 _ zok9) rfl rfl rfl rfl rfl dL_law_565 (fun H2 locs2 hH2 hS2 => ?_)
  refine lw_eq C0 dL_law_568 rfl ?_
  exact W.widen (by omega) (by omega) (hk e X Y c' m' H2 locs2 ⟨lw_n hR', hW, hY, hKX, hKY, hH2.sy, hS2⟩ rfl rfl)
theorem lw_c11 (C0 : lw_At p s g meth co b L xs) (hL : L ≤ 3072) (hi : i + 6 ≤ L) (hn : n ≤ 512) (hcs : cs + 43 ≤ room_1.cells ∧ ss + 1059 ≤ room_1.slots) (hl : lv_has ls 4 [(0, .ref b), (1, .ref x1), (2, .ref x2), (3, vi (i : Int))]) (hI : lwI s n e X Y I J H locs) (h1 : zad X (0, 0, 0) = x1) (h2 : zad Y (50, 0, 0) = x2) (hk : lwN p l v s g B meth co b (n + 1) (cs + 43) (ss + 1059) x1 x2 ls) : W p l v room_1 s g #[Value.ref b] B meth co H locs cs ss (lw_Z B #[Value.ref b] s) (F0 g 639 ls []) := by
  obtain ⟨hR, hW, hY, hKX, hKY, hH, hS⟩ := hI
  have hq : okC _ e (fX11_weak (xs (i + 1)).toInt (xs (i + 2)).toInt (xs (i + 3)).toInt I) (fX12_weak (xs (i + 1)).toInt (xs (i + 2)).toInt (xs (i + 3)).toInt J) := Q_weak hR (i32x _) (i32x _) (i32x _)
  obtain ⟨r, c', m', hf, hg, hR'⟩ := hq
  subst h1 h2
  refine lw_ald 1 C0 hl dL_law_639 rfl ?_
  refine lw_arg (i := i) 1 C0 hS hl hL rfl (by omega) dL_law_640 dL_law_641 dL_law_642 dL_law_643 dL_law_644 ?_
  refine lw_arg (i := i) 2 C0 hS hl hL rfl (by omega) dL_law_645 dL_law_646 dL_law_647 dL_law_648 dL_law_649 ?_
  refine lw_arg (i := i) 3 C0 hS hl hL rfl (by omega) dL_law_650 dL_law_651 dL_law_652 dL_law_653 dL_law_654 ?_
  refine lw_call (q := (0, 0, 0)) (As := [vi (xs (i + 1)).toInt, vi (xs (i + 2)).toInt, vi (xs (i + 3)).toInt]) (T' := (some (vi r), c')) C0 hKX hH hS hl ⟨by omega, by omega⟩ (kX11_weak hW.2.1 hW.o hW.e1 hf) mvl_63 hW.d rfl rfl rfl rfl rfl dL_law_655 (fun H1 locs1 hH1 hS1 => ?_)
  refine lw_ald 2 C0 hl dL_law_658 rfl ?_
  refine lw_arg (i := i) 1 C0 hS1 hl hL rfl (by omega) dL_law_659 dL_law_660 dL_law_661 dL_law_662 dL_law_663 ?_
  refine lw_arg (i := i) 2 C0 hS1 hl hL rfl (by omega) dL_law_664 dL_law_665 dL_law_666 dL_law_667 dL_law_668 ?_
  refine lw_arg (i := i) 3 C0 hS1 hl hL rfl (by omega) dL_law_669 dL_law_670 dL_law_671 dL_law_672 dL_law_673 ?_
  refine lw_call (q := (50, 0, 0)) (As := [vi (xs (i + 1)).toInt, vi (xs (i + 2)).toInt, vi (xs (i + 3)).toInt]) (T' := (some (vi r), m')) C0 hKY hH1.sy hS1 hl ⟨by omega, by omega⟩ (kX12_weak hY.1 zok9 hg) mvl_66 (hY.1.1 _ zok9) rfl rfl rfl rfl rfl dL_law_674 (fun H2 locs2 hH2 hS2 => ?_)
  refine lw_eq C0 dL_law_677 rfl ?_
  exact W.widen (by omega) (by omega) (hk e X Y c' m' H2 locs2 ⟨lw_n hR', hW, hY, hKX, hKY, hH2.sy, hS2⟩ rfl rfl)
theorem lw_c14 (C0 : lw_At p s g meth co b L xs) (hL : L ≤ 3072) (hi : i + 6 ≤ L) (hn : n ≤ 512) (hcs : cs + 43 ≤ room_1.cells ∧ ss + 1059 ≤ room_1.slots) (hl : lv_has ls 4 [(0, .ref b), (1, .ref x1), (2, .ref x2), (3, vi (i : Int))]) (hI : lwI s n e X Y I J H locs) (h1 : zad X (0, 0, 0) = x1) (h2 : zad Y (50, 0, 0) = x2) (hk : lwN p l v s g B meth co b (n + 1) (cs + 43) (ss + 1059) x1 x2 ls) : W p l v room_1 s g #[Value.ref b] B meth co H locs cs ss (lw_Z B #[Value.ref b] s) (F0 g 768 ls []) := by
  obtain ⟨hR, hW, hY, hKX, hKY, hH, hS⟩ := hI
  have hq : okC _ e (fX11_fade (xs (i + 1)).toInt I) (fX12_fade (xs (i + 1)).toInt J) := Q_fade hR (i32x _)
  obtain ⟨r, c', m', hf, hg, hR'⟩ := hq
  subst h1 h2
  refine lw_ald 1 C0 hl dL_law_768 rfl ?_
  refine lw_arg (i := i) 1 C0 hS hl hL rfl (by omega) dL_law_769 dL_law_770 dL_law_771 dL_law_772 dL_law_773 ?_
  refine lw_call (q := (0, 0, 0)) (As := [vi (xs (i + 1)).toInt]) (T' := (some (vi r), c')) C0 hKX hH hS hl ⟨by omega, by omega⟩ (kX11_fade hW.2.1 hW.o hW.e1 hf) mvl_76 hW.d rfl rfl rfl rfl rfl dL_law_774 (fun H1 locs1 hH1 hS1 => ?_)
  refine lw_ald 2 C0 hl dL_law_777 rfl ?_
  refine lw_arg (i := i) 1 C0 hS1 hl hL rfl (by omega) dL_law_778 dL_law_779 dL_law_780 dL_law_781 dL_law_782 ?_
  refine lw_call (q := (50, 0, 0)) (As := [vi (xs (i + 1)).toInt]) (T' := (some (vi r), m')) C0 hKY hH1.sy hS1 hl ⟨by omega, by omega⟩ (kX12_fade hY.1 zok9 hg) mvl_79 (hY.1.1 _ zok9) rfl rfl rfl rfl rfl dL_law_783 (fun H2 locs2 hH2 hS2 => ?_)
  refine lw_eq C0 dL_law_786 rfl ?_
  exact W.widen (by omega) (by omega) (hk e X Y c' m' H2 locs2 ⟨lw_n hR', hW, hY, hKX, hKY, hH2.sy, hS2⟩ rfl rfl)
theorem lw_c17 (C0 : lw_At p s g meth co b L xs) (hL : L ≤ 3072) (hi : i + 6 ≤ L) (hn : n ≤ 512) (hcs : cs + 43 ≤ room_1.cells ∧ ss + 1059 ≤ room_1.slots) (hl : lv_has ls 4 [(0, .ref b), (1, .ref x1), (2, .ref x2), (3, vi (i : Int))]) (hI : lwI s n e X Y I J H locs) (h1 : zad X (0, 0, 0) = x1) (h2 : zad Y (50, 0, 0) = x2) (hk : lwN p l v s g B meth co b (n + 1) (cs + 43) (ss + 1059) x1 x2 ls) : W p l v room_1 s g #[Value.ref b] B meth co H locs cs ss (lw_Z B #[Value.ref b] s) (F0 g 857 ls []) := by
  obtain ⟨hR, hW, hY, hKX, hKY, hH, hS⟩ := hI
  have hq : okC _ e (fX11_answer (xs (i + 1)).toInt (xs (i + 2)).toInt I) (fX12_answer (xs (i + 1)).toInt (xs (i + 2)).toInt J) := Q_answer hR (i32x _) (i32x _)
  obtain ⟨r, c', m', hf, hg, hR'⟩ := hq
  subst h1 h2
  refine lw_ald 1 C0 hl dL_law_857 rfl ?_
  refine lw_arg (i := i) 1 C0 hS hl hL rfl (by omega) dL_law_858 dL_law_859 dL_law_860 dL_law_861 dL_law_862 ?_
  refine lw_arg (i := i) 2 C0 hS hl hL rfl (by omega) dL_law_863 dL_law_864 dL_law_865 dL_law_866 dL_law_867 ?_
  refine lw_call (q := (0, 0, 0)) (As := [vi (xs (i + 1)).toInt, vi (xs (i + 2)).toInt]) (T' := (some (vi r), c')) C0 hKX hH hS hl ⟨by omega, by omega⟩ (kX11_answer hW.2.1 hW.o hW.e1 hf) mvl_88 hW.d rfl rfl rfl rfl rfl dL_law_868 (fun H1 locs1 hH1 hS1 => ?_)
  refine lw_ald 2 C0 hl dL_law_871 rfl ?_
  refine lw_arg (i := i) 1 C0 hS1 hl hL rfl (by omega) dL_law_872 dL_law_873 dL_law_874 dL_law_875 dL_law_876 ?_
  refine lw_arg (i := i) 2 C0 hS1 hl hL rfl (by omega) dL_law_877 dL_law_878 dL_law_879 dL_law_880 dL_law_881 ?_
  refine lw_call (q := (50, 0, 0)) (As := [vi (xs (i + 1)).toInt, vi (xs (i + 2)).toInt]) (T' := (some (vi r), m')) C0 hKY hH1.sy hS1 hl ⟨by omega, by omega⟩ (kX12_answer hY.1 zok9 hg) mvl_91 (hY.1.1 _ zok9) rfl rfl rfl rfl rfl dL_law_882 (fun H2 locs2 hH2 hS2 => ?_)
  refine lw_eq C0 dL_law_885 rfl ?_
  exact W.widen (by omega) (by omega) (hk e X Y c' m' H2 locs2 ⟨lw_n hR', hW, hY, hKX, hKY, hH2.sy, hS2⟩ rfl rfl)
theorem lw_c20 (C0 : lw_At p s g meth co b L xs) (hL : L ≤ 3072) (hi : i + 6 ≤ L) (hn : n ≤ 512) (hcs : cs + 43 ≤ room_1.cells ∧ ss + 1059 ≤ room_1.slots) (hl : lv_has ls 4 [(0, .ref b), (1, .ref x1), (2, .ref x2), (3, vi (i : Int))]) (hI : lwI s n e X Y I J H locs) (h1 : zad X (0, 0, 0) = x1) (h2 : zad Y (50, 0, 0) = x2) (hk : lwN p l v s g B meth co b (n + 1) (cs + 43) (ss + 1059) x1 x2 ls) : W p l v room_1 s g #[Value.ref b] B meth co H locs cs ss (lw_Z B #[Value.ref b] s) (F0 g 966 ls []) := by
  obtain ⟨hR, hW, hY, hKX, hKY, hH, hS⟩ := hI
  have hq : okC _ e (fX11_report  I) (fX12_report  J) := Q_report hR
  obtain ⟨r, c', m', hf, hg, hR'⟩ := hq
  subst h1 h2
  refine lw_ald 1 C0 hl dL_law_966 rfl ?_
  refine lw_call (q := (0, 0, 0)) (As := []) (T' := (some (vi r), c')) C0 hKX hH hS hl ⟨by omega, by omega⟩ (kX11_report hW.2.1 hW.o hW.e1 hf) mvl_100 hW.d rfl rfl rfl rfl rfl dL_law_967 (fun H1 locs1 hH1 hS1 => ?_)
  refine lw_ald 2 C0 hl dL_law_970 rfl ?_
  refine lw_call (q := (50, 0, 0)) (As := []) (T' := (some (vi r), m')) C0 hKY hH1.sy hS1 hl ⟨by omega, by omega⟩ (kX12_report hY.1 zok9 hg) mvl_104 (hY.1.1 _ zok9) rfl rfl rfl rfl rfl dL_law_971 (fun H2 locs2 hH2 hS2 => ?_)
  refine lw_eq C0 dL_law_974 rfl ?_
  exact W.widen (by omega) (by omega) (hk e X Y c' m' H2 locs2 ⟨lw_n hR', hW, hY, hKX, hKY, hH2.sy, hS2⟩ rfl rfl)
theorem lw_c23 (C0 : lw_At p s g meth co b L xs) (hL : L ≤ 3072) (hi : i + 6 ≤ L) (hn : n ≤ 512) (hcs : cs + 43 ≤ room_1.cells ∧ ss + 1059 ≤ room_1.slots) (hl : lv_has ls 4 [(0, .ref b), (1, .ref x1), (2, .ref x2), (3, vi (i : Int))]) (hI : lwI s n e X Y I J H locs) (h1 : zad X (0, 0, 0) = x1) (h2 : zad Y (50, 0, 0) = x2) (hk : lwN p l v s g B meth co b (n + 1) (cs + 43) (ss + 1059) x1 x2 ls) : W p l v room_1 s g #[Value.ref b] B meth co H locs cs ss (lw_Z B #[Value.ref b] s) (F0 g 1045 ls []) := by
  obtain ⟨hR, hW, hY, hKX, hKY, hH, hS⟩ := hI
  have hq : okC _ e (fX11_drained (xs (i + 1)).toInt I) (fX12_drained (xs (i + 1)).toInt J) := Q_drained hR (by omega) (i32x _)
  obtain ⟨r, c', m', hf, hg, hR'⟩ := hq
  subst h1 h2
  refine lw_ald 1 C0 hl dL_law_1045 rfl ?_
  refine lw_arg (i := i) 1 C0 hS hl hL rfl (by omega) dL_law_1046 dL_law_1047 dL_law_1048 dL_law_1049 dL_law_1050 ?_
  refine lw_call (q := (0, 0, 0)) (As := [vi (xs (i + 1)).toInt]) (T' := (some (vi r), c')) C0 hKX hH hS hl ⟨by omega, by omega⟩ (kX11_drained hW.2.1 hW.o hW.e1 hf) mvl_113 hW.d rfl rfl rfl rfl rfl dL_law_1051 (fun H1 locs1 hH1 hS1 => ?_)
  refine lw_ald 2 C0 hl dL_law_1054 rfl ?_
  refine lw_arg (i := i) 1 C0 hS1 hl hL rfl (by omega) dL_law_1055 dL_law_1056 dL_law_1057 dL_law_1058 dL_law_1059 ?_
  refine lw_call (q := (50, 0, 0)) (As := [vi (xs (i + 1)).toInt]) (T' := (some (vi r), m')) C0 hKY hH1.sy hS1 hl ⟨by omega, by omega⟩ (kX12_drained hY.1 zok9 hg) mvl_116 (hY.1.1 _ zok9) rfl rfl rfl rfl rfl dL_law_1060 (fun H2 locs2 hH2 hS2 => ?_)
  refine lw_eq C0 dL_law_1063 rfl ?_
  exact W.widen (by omega) (by omega) (hk e X Y c' m' H2 locs2 ⟨lw_n hR', hW, hY, hKX, hKY, hH2.sy, hS2⟩ rfl rfl)
theorem lw_c26 (C0 : lw_At p s g meth co b L xs) (hL : L ≤ 3072) (hi : i + 6 ≤ L) (hn : n ≤ 512) (hcs : cs + 43 ≤ room_1.cells ∧ ss + 1059 ≤ room_1.slots) (hl : lv_has ls 4 [(0, .ref b), (1, .ref x1), (2, .ref x2), (3, vi (i : Int))]) (hI : lwI s n e X Y I J H locs) (h1 : zad X (0, 0, 0) = x1) (h2 : zad Y (50, 0, 0) = x2) (hk : lwN p l v s g B meth co b (n + 1) (cs + 43) (ss + 1059) x1 x2 ls) : W p l v room_1 s g #[Value.ref b] B meth co H locs cs ss (lw_Z B #[Value.ref b] s) (F0 g 1134 ls []) := by
  obtain ⟨hR, hW, hY, hKX, hKY, hH, hS⟩ := hI
  have hq : okR _ e I (fX11_kept (xs (i + 1)).toInt (xs (i + 2)).toInt I) (fX12_kept (xs (i + 1)).toInt (xs (i + 2)).toInt J) := Q_kept hR (i32x _) (i32x _)
  obtain ⟨r, m', hf, hg, hR'⟩ := hq
  subst h1 h2
  refine lw_ald 1 C0 hl dL_law_1134 rfl ?_
  refine lw_arg (i := i) 1 C0 hS hl hL rfl (by omega) dL_law_1135 dL_law_1136 dL_law_1137 dL_law_1138 dL_law_1139 ?_
  refine lw_arg (i := i) 2 C0 hS hl hL rfl (by omega) dL_law_1140 dL_law_1141 dL_law_1142 dL_law_1143 dL_law_1144 ?_
  refine lw_call (q := (0, 0, 0)) (As := [vi (xs (i + 1)).toInt, vi (xs (i + 2)).toInt]) (T' := (some (vi r), I)) C0 hKX hH hS hl ⟨by omega, by omega⟩ (kX11_kept hW.2.1 hW.o hW.e1 hf) mvl_125 hW.d rfl rfl rfl rfl rfl dL_law_1145 (fun H1 locs1 hH1 hS1 => ?_)
  refine lw_ald 2 C0 hl dL_law_1148 rfl ?_
  refine lw_arg (i := i) 1 C0 hS1 hl hL rfl (by omega) dL_law_1149 dL_law_1150 dL_law_1151 dL_law_1152 dL_law_1153 ?_
  refine lw_arg (i := i) 2 C0 hS1 hl hL rfl (by omega) dL_law_1154 dL_law_1155 dL_law_1156 dL_law_1157 dL_law_1158 ?_
  refine lw_call (q := (50, 0, 0)) (As := [vi (xs (i + 1)).toInt, vi (xs (i + 2)).toInt]) (T' := (some (vi r), m')) C0 hKY hH1.sy hS1 hl ⟨by omega, by omega⟩ (kX12_kept hY.1 zok9 hg) mvl_128 (hY.1.1 _ zok9) rfl rfl rfl rfl rfl dL_law_1159 (fun H2 locs2 hH2 hS2 => ?_)
  refine lw_eq C0 dL_law_1162 rfl ?_
  exact W.widen (by omega) (by omega) (hk e X Y I m' H2 locs2 ⟨lw_n hR', hW, hY, hKX, hKY, hH2.sy, hS2⟩ rfl rfl)
theorem lw_c29 (C0 : lw_At p s g meth co b L xs) (hL : L ≤ 3072) (hi : i + 6 ≤ L) (hn : n ≤ 512) (hcs : cs + 43 ≤ room_1.cells ∧ ss + 1059 ≤ room_1.slots) (hl : lv_has ls 4 [(0, .ref b), (1, .ref x1), (2, .ref x2), (3, vi (i : Int))]) (hI : lwI s n e X Y I J H locs) (h1 : zad X (0, 0, 0) = x1) (h2 : zad Y (50, 0, 0) = x2) (hk : lwN p l v s g B meth co b (n + 1) (cs + 43) (ss + 1059) x1 x2 ls) : W p l v room_1 s g #[Value.ref b] B meth co H locs cs ss (lw_Z B #[Value.ref b] s) (F0 g 1213 ls []) := by
  obtain ⟨hR, hW, hY, hKX, hKY, hH, hS⟩ := hI
  have hq : okC _ e (fX11_next (xs (i + 1)).toInt (xs (i + 2)).toInt I) (fX12_next (xs (i + 1)).toInt (xs (i + 2)).toInt J) := Q_next hR (i32x _) (i32x _)
  obtain ⟨r, c', m', hf, hg, hR'⟩ := hq
  subst h1 h2
  refine lw_ald 1 C0 hl dL_law_1213 rfl ?_
  refine lw_arg (i := i) 1 C0 hS hl hL rfl (by omega) dL_law_1214 dL_law_1215 dL_law_1216 dL_law_1217 dL_law_1218 ?_
  refine lw_arg (i := i) 2 C0 hS hl hL rfl (by omega) dL_law_1219 dL_law_1220 dL_law_1221 dL_law_1222 dL_law_1223 ?_
  refine lw_call (q := (0, 0, 0)) (As := [vi (xs (i + 1)).toInt, vi (xs (i + 2)).toInt]) (T' := (some (vi r), c')) C0 hKX hH hS hl ⟨by omega, by omega⟩ (kX11_next hW.2.1 hW.o hW.e1 hf) mvl_137 hW.d rfl rfl rfl rfl rfl dL_law_1224 (fun H1 locs1 hH1 hS1 => ?_)
  refine lw_ald 2 C0 hl dL_law_1227 rfl ?_
  refine lw_arg (i := i) 1 C0 hS1 hl hL rfl (by omega) dL_law_1228 dL_law_1229 dL_law_1230 dL_law_1231 dL_law_1232 ?_
  refine lw_arg (i := i) 2 C0 hS1 hl hL rfl (by omega) dL_law_1233 dL_law_1234 dL_law_1235 dL_law_1236 dL_law_1237 ?_
  refine lw_call (q := (50, 0, 0)) (As := [vi (xs (i + 1)).toInt, vi (xs (i + 2)).toInt]) (T' := (some (vi r), m')) C0 hKY hH1.sy hS1 hl ⟨by omega, by omega⟩ (kX12_next hY.1 zok9 hg) mvl_140 (hY.1.1 _ zok9) rfl rfl rfl rfl rfl dL_law_1238 (fun H2 locs2 hH2 hS2 => ?_)
  refine lw_eq C0 dL_law_1241 rfl ?_
  exact W.widen (by omega) (by omega) (hk e X Y c' m' H2 locs2 ⟨lw_n hR', hW, hY, hKX, hKY, hH2.sy, hS2⟩ rfl rfl)
theorem lw_c32 (C0 : lw_At p s g meth co b L xs) (hL : L ≤ 3072) (hi : i + 6 ≤ L) (hn : n ≤ 512) (hcs : cs + 43 ≤ room_1.cells ∧ ss + 1059 ≤ room_1.slots) (hl : lv_has ls 4 [(0, .ref b), (1, .ref x1), (2, .ref x2), (3, vi (i : Int))]) (hI : lwI s n e X Y I J H locs) (h1 : zad X (0, 0, 0) = x1) (h2 : zad Y (50, 0, 0) = x2) (hk : lwN p l v s g B meth co b (n + 1) (cs + 43) (ss + 1059) x1 x2 ls) : W p l v room_1 s g #[Value.ref b] B meth co H locs cs ss (lw_Z B #[Value.ref b] s) (F0 g 1322 ls []) := by
  obtain ⟨hR, hW, hY, hKX, hKY, hH, hS⟩ := hI
  have hq : okR _ e I (fX11_heard (xs (i + 1)).toInt (xs (i + 2)).toInt I) (fX12_heard (xs (i + 1)).toInt (xs (i + 2)).toInt J) := Q_heard hR (i32x _) (i32x _)
  obtain ⟨r, m', hf, hg, hR'⟩ := hq
  subst h1 h2
  refine lw_ald 1 C0 hl dL_law_1322 rfl ?_
  refine lw_arg (i := i) 1 C0 hS hl hL rfl (by omega) dL_law_1323 dL_law_1324 dL_law_1325 dL_law_1326 dL_law_1327 ?_
  refine lw_arg (i := i) 2 C0 hS hl hL rfl (by omega) dL_law_1328 dL_law_1329 dL_law_1330 dL_law_1331 dL_law_1332 ?_
  refine lw_call (q := (0, 0, 0)) (As := [vi (xs (i + 1)).toInt, vi (xs (i + 2)).toInt]) (T' := (some (vi r), I)) C0 hKX hH hS hl ⟨by omega, by omega⟩ (kX11_heard hW.2.1 hW.o hW.e1 hf) mvl_149 hW.d rfl rfl rfl rfl rfl dL_law_1333 (fun H1 locs1 hH1 hS1 => ?_)
  refine lw_ald 2 C0 hl dL_law_1336 rfl ?_
  refine lw_arg (i := i) 1 C0 hS1 hl hL rfl (by omega) dL_law_1337 dL_law_1338 dL_law_1339 dL_law_1340 dL_law_1341 ?_
  refine lw_arg (i := i) 2 C0 hS1 hl hL rfl (by omega) dL_law_1342 dL_law_1343 dL_law_1344 dL_law_1345 dL_law_1346 ?_
  refine lw_call (q := (50, 0, 0)) (As := [vi (xs (i + 1)).toInt, vi (xs (i + 2)).toInt]) (T' := (some (vi r), m')) C0 hKY hH1.sy hS1 hl ⟨by omega, by omega⟩ (kX12_heard hY.1 zok9 hg) mvl_152 (hY.1.1 _ zok9) rfl rfl rfl rfl rfl dL_law_1347 (fun H2 locs2 hH2 hS2 => ?_)
  refine lw_eq C0 dL_law_1350 rfl ?_
  exact W.widen (by omega) (by omega) (hk e X Y I m' H2 locs2 ⟨lw_n hR', hW, hY, hKX, hKY, hH2.sy, hS2⟩ rfl rfl)
theorem lw_c35 (C0 : lw_At p s g meth co b L xs) (hL : L ≤ 3072) (hi : i + 6 ≤ L) (hn : n ≤ 512) (hcs : cs + 43 ≤ room_1.cells ∧ ss + 1059 ≤ room_1.slots) (hl : lv_has ls 4 [(0, .ref b), (1, .ref x1), (2, .ref x2), (3, vi (i : Int))]) (hI : lwI s n e X Y I J H locs) (h1 : zad X (0, 0, 0) = x1) (h2 : zad Y (50, 0, 0) = x2) (hk : lwN p l v s g B meth co b (n + 1) (cs + 43) (ss + 1059) x1 x2 ls) : W p l v room_1 s g #[Value.ref b] B meth co H locs cs ss (lw_Z B #[Value.ref b] s) (F0 g 1411 ls []) := by
  obtain ⟨hR, hW, hY, hKX, hKY, hH, hS⟩ := hI
  have hq : okC _ e (fX11_margin (xs (i + 1)).toInt I) (fX12_margin (xs (i + 1)).toInt J) := Q_margin hR (i32x _)
  obtain ⟨r, c', m', hf, hg, hR'⟩ := hq
  subst h1 h2
  refine lw_ald 1 C0 hl dL_law_1411 rfl ?_
  refine lw_arg (i := i) 1 C0 hS hl hL rfl (by omega) dL_law_1412 dL_law_1413 dL_law_1414 dL_law_1415 dL_law_1416 ?_
  refine lw_call (q := (0, 0, 0)) (As := [vi (xs (i + 1)).toInt]) (T' := (some (vi r), c')) C0 hKX hH hS hl ⟨by omega, by omega⟩ (kX11_margin hW.2.1 hW.o hW.e1 hf) mvl_161 hW.d rfl rfl rfl rfl rfl dL_law_1417 (fun H1 locs1 hH1 hS1 => ?_)
  refine lw_ald 2 C0 hl dL_law_1420 rfl ?_
  refine lw_arg (i := i) 1 C0 hS1 hl hL rfl (by omega) dL_law_1421 dL_law_1422 dL_law_1423 dL_law_1424 dL_law_1425 ?_
  refine lw_call (q := (50, 0, 0)) (As := [vi (xs (i + 1)).toInt]) (T' := (some (vi r), m')) C0 hKY hH1.sy hS1 hl ⟨by omega, by omega⟩ (kX12_margin hY.1 zok9 hg) mvl_164 (hY.1.1 _ zok9) rfl rfl rfl rfl rfl dL_law_1426 (fun H2 locs2 hH2 hS2 => ?_)
  refine lw_eq C0 dL_law_1429 rfl ?_
  exact W.widen (by omega) (by omega) (hk e X Y c' m' H2 locs2 ⟨lw_n hR', hW, hY, hKX, hKY, hH2.sy, hS2⟩ rfl rfl)
theorem lw_c38 (C0 : lw_At p s g meth co b L xs) (hL : L ≤ 3072) (hi : i + 6 ≤ L) (hn : n ≤ 512) (hcs : cs + 43 ≤ room_1.cells ∧ ss + 1059 ≤ room_1.slots) (hl : lv_has ls 4 [(0, .ref b), (1, .ref x1), (2, .ref x2), (3, vi (i : Int))]) (hI : lwI s n e X Y I J H locs) (h1 : zad X (0, 0, 0) = x1) (h2 : zad Y (50, 0, 0) = x2) (hk : lwN p l v s g B meth co b (n + 1) (cs + 43) (ss + 1059) x1 x2 ls) : W p l v room_1 s g #[Value.ref b] B meth co H locs cs ss (lw_Z B #[Value.ref b] s) (F0 g 1490 ls []) := by
  obtain ⟨hR, hW, hY, hKX, hKY, hH, hS⟩ := hI
  have hq : okC _ e (fX11_ties (xs (i + 1)).toInt (xs (i + 2)).toInt I) (fX12_ties (xs (i + 1)).toInt (xs (i + 2)).toInt J) := Q_ties hR (i32x _) (i32x _)
  obtain ⟨r, c', m', hf, hg, hR'⟩ := hq
  subst h1 h2
  refine lw_ald 1 C0 hl dL_law_1490 rfl ?_
  refine lw_arg (i := i) 1 C0 hS hl hL rfl (by omega) dL_law_1491 dL_law_1492 dL_law_1493 dL_law_1494 dL_law_1495 ?_
  refine lw_arg (i := i) 2 C0 hS hl hL rfl (by omega) dL_law_1496 dL_law_1497 dL_law_1498 dL_law_1499 dL_law_1500 ?_
  refine lw_call (q := (0, 0, 0)) (As := [vi (xs (i + 1)).toInt, vi (xs (i + 2)).toInt]) (T' := (some (vi r), c')) C0 hKX hH hS hl ⟨by omega, by omega⟩ (kX11_ties hW.2.1 hW.o hW.e1 hf) mvl_173 hW.d rfl rfl rfl rfl rfl dL_law_1501 (fun H1 locs1 hH1 hS1 => ?_)
  refine lw_ald 2 C0 hl dL_law_1504 rfl ?_
  refine lw_arg (i := i) 1 C0 hS1 hl hL rfl (by omega) dL_law_1505 dL_law_1506 dL_law_1507 dL_law_1508 dL_law_1509 ?_
  refine lw_arg (i := i) 2 C0 hS1 hl hL rfl (by omega) dL_law_1510 dL_law_1511 dL_law_1512 dL_law_1513 dL_law_1514 ?_
  refine lw_call (q := (50, 0, 0)) (As := [vi (xs (i + 1)).toInt, vi (xs (i + 2)).toInt]) (T' := (some (vi r), m')) C0 hKY hH1.sy hS1 hl ⟨by omega, by omega⟩ (kX12_ties hY.1 zok9 hg) mvl_176 (hY.1.1 _ zok9) rfl rfl rfl rfl rfl dL_law_1515 (fun H2 locs2 hH2 hS2 => ?_)
  refine lw_eq C0 dL_law_1518 rfl ?_
  exact W.widen (by omega) (by omega) (hk e X Y c' m' H2 locs2 ⟨lw_n hR', hW, hY, hKX, hKY, hH2.sy, hS2⟩ rfl rfl)
theorem lw_c41 (C0 : lw_At p s g meth co b L xs) (hL : L ≤ 3072) (hi : i + 6 ≤ L) (hn : n ≤ 512) (hcs : cs + 43 ≤ room_1.cells ∧ ss + 1059 ≤ room_1.slots) (hl : lv_has ls 4 [(0, .ref b), (1, .ref x1), (2, .ref x2), (3, vi (i : Int))]) (hI : lwI s n e X Y I J H locs) (h1 : zad X (0, 0, 0) = x1) (h2 : zad Y (50, 0, 0) = x2) (hk : lwN p l v s g B meth co b (n + 1) (cs + 43) (ss + 1059) x1 x2 ls) : W p l v room_1 s g #[Value.ref b] B meth co H locs cs ss (lw_Z B #[Value.ref b] s) (F0 g 1589 ls []) := by
  obtain ⟨hR, hW, hY, hKX, hKY, hH, hS⟩ := hI
  have hq : okR _ e I (fX11_against (xs (i + 1)).toInt (xs (i + 2)).toInt I) (fX12_against (xs (i + 1)).toInt (xs (i + 2)).toInt J) := Q_against hR (i32x _) (i32x _)
  obtain ⟨r, m', hf, hg, hR'⟩ := hq
  subst h1 h2
  refine lw_ald 1 C0 hl dL_law_1589 rfl ?_
  refine lw_arg (i := i) 1 C0 hS hl hL rfl (by omega) dL_law_1590 dL_law_1591 dL_law_1592 dL_law_1593 dL_law_1594 ?_
  refine lw_arg (i := i) 2 C0 hS hl hL rfl (by omega) dL_law_1595 dL_law_1596 dL_law_1597 dL_law_1598 dL_law_1599 ?_
  refine lw_call (q := (0, 0, 0)) (As := [vi (xs (i + 1)).toInt, vi (xs (i + 2)).toInt]) (T' := (some (vi r), I)) C0 hKX hH hS hl ⟨by omega, by omega⟩ (kX11_against hW.2.1 hW.o hW.e1 hf) mvl_185 hW.d rfl rfl rfl rfl rfl dL_law_1600 (fun H1 locs1 hH1 hS1 => ?_)
  refine lw_ald 2 C0 hl dL_law_1603 rfl ?_
  refine lw_arg (i := i) 1 C0 hS1 hl hL rfl (by omega) dL_law_1604 dL_law_1605 dL_law_1606 dL_law_1607 dL_law_1608 ?_
  refine lw_arg (i := i) 2 C0 hS1 hl hL rfl (by omega) dL_law_1609 dL_law_1610 dL_law_1611 dL_law_1612 dL_law_1613 ?_
  refine lw_call (q := (50, 0, 0)) (As := [vi (xs (i + 1)).toInt, vi (xs (i + 2)).toInt]) (T' := (some (vi r), m')) C0 hKY hH1.sy hS1 hl ⟨by omega, by omega⟩ (kX12_against hY.1 zok9 hg) mvl_188 (hY.1.1 _ zok9) rfl rfl rfl rfl rfl dL_law_1614 (fun H2 locs2 hH2 hS2 => ?_)
  refine lw_eq C0 dL_law_1617 rfl ?_
  exact W.widen (by omega) (by omega) (hk e X Y I m' H2 locs2 ⟨lw_n hR', hW, hY, hKX, hKY, hH2.sy, hS2⟩ rfl rfl)
theorem lw_c44 (C0 : lw_At p s g meth co b L xs) (hL : L ≤ 3072) (hi : i + 6 ≤ L) (hn : n ≤ 512) (hcs : cs + 43 ≤ room_1.cells ∧ ss + 1059 ≤ room_1.slots) (hl : lv_has ls 4 [(0, .ref b), (1, .ref x1), (2, .ref x2), (3, vi (i : Int))]) (hI : lwI s n e X Y I J H locs) (h1 : zad X (0, 0, 0) = x1) (h2 : zad Y (50, 0, 0) = x2) (hk : lwN p l v s g B meth co b (n + 1) (cs + 43) (ss + 1059) x1 x2 ls) : W p l v room_1 s g #[Value.ref b] B meth co H locs cs ss (lw_Z B #[Value.ref b] s) (F0 g 1678 ls []) := by
  obtain ⟨hR, hW, hY, hKX, hKY, hH, hS⟩ := hI
  have hq : okR _ e I (fX11_stored (xs (i + 1)).toInt I) (fX12_stored (xs (i + 1)).toInt J) := Q_stored hR (i32x _)
  obtain ⟨r, m', hf, hg, hR'⟩ := hq
  subst h1 h2
  refine lw_ald 1 C0 hl dL_law_1678 rfl ?_
  refine lw_arg (i := i) 1 C0 hS hl hL rfl (by omega) dL_law_1679 dL_law_1680 dL_law_1681 dL_law_1682 dL_law_1683 ?_
  refine lw_call (q := (0, 0, 0)) (As := [vi (xs (i + 1)).toInt]) (T' := (some (vi r), I)) C0 hKX hH hS hl ⟨by omega, by omega⟩ (kX11_stored hW.2.1 hW.o hW.e1 hf) mvl_197 hW.d rfl rfl rfl rfl rfl dL_law_1684 (fun H1 locs1 hH1 hS1 => ?_)
  refine lw_ald 2 C0 hl dL_law_1687 rfl ?_
  refine lw_arg (i := i) 1 C0 hS1 hl hL rfl (by omega) dL_law_1688 dL_law_1689 dL_law_1690 dL_law_1691 dL_law_1692 ?_
  refine lw_call (q := (50, 0, 0)) (As := [vi (xs (i + 1)).toInt]) (T' := (some (vi r), m')) C0 hKY hH1.sy hS1 hl ⟨by omega, by omega⟩ (kX12_stored hY.1 zok9 hg) mvl_200 (hY.1.1 _ zok9) rfl rfl rfl rfl rfl dL_law_1693 (fun H2 locs2 hH2 hS2 => ?_)
  refine lw_eq C0 dL_law_1696 rfl ?_
  exact W.widen (by omega) (by omega) (hk e X Y I m' H2 locs2 ⟨lw_n hR', hW, hY, hKX, hKY, hH2.sy, hS2⟩ rfl rfl)
theorem lw_c47 (C0 : lw_At p s g meth co b L xs) (hL : L ≤ 3072) (hi : i + 6 ≤ L) (hn : n ≤ 512) (hcs : cs + 43 ≤ room_1.cells ∧ ss + 1059 ≤ room_1.slots) (hl : lv_has ls 4 [(0, .ref b), (1, .ref x1), (2, .ref x2), (3, vi (i : Int))]) (hI : lwI s n e X Y I J H locs) (h1 : zad X (0, 0, 0) = x1) (h2 : zad Y (50, 0, 0) = x2) (hk : lwN p l v s g B meth co b (n + 1) (cs + 43) (ss + 1059) x1 x2 ls) : W p l v room_1 s g #[Value.ref b] B meth co H locs cs ss (lw_Z B #[Value.ref b] s) (F0 g 1747 ls []) := by
  obtain ⟨hR, hW, hY, hKX, hKY, hH, hS⟩ := hI
  have hq : okR _ e I (fX11_would (xs (i + 1)).toInt (xs (i + 2)).toInt I) (fX12_would (xs (i + 1)).toInt (xs (i + 2)).toInt J) := Q_would hR (i32x _) (i32x _)
  obtain ⟨r, m', hf, hg, hR'⟩ := hq
  subst h1 h2
  refine lw_ald 1 C0 hl dL_law_1747 rfl ?_
  refine lw_arg (i := i) 1 C0 hS hl hL rfl (by omega) dL_law_1748 dL_law_1749 dL_law_1750 dL_law_1751 dL_law_1752 ?_
  refine lw_arg (i := i) 2 C0 hS hl hL rfl (by omega) dL_law_1753 dL_law_1754 dL_law_1755 dL_law_1756 dL_law_1757 ?_
  refine lw_call (q := (0, 0, 0)) (As := [vi (xs (i + 1)).toInt, vi (xs (i + 2)).toInt]) (T' := (some (vi r), I)) C0 hKX hH hS hl ⟨by omega, by omega⟩ (kX11_would hW.2.1 hW.o hW.e1 hf) mvl_209 hW.d rfl rfl rfl rfl rfl dL_law_1758 (fun H1 locs1 hH1 hS1 => ?_)
  refine lw_ald 2 C0 hl dL_law_1761 rfl ?_
  refine lw_arg (i := i) 1 C0 hS1 hl hL rfl (by omega) dL_law_1762 dL_law_1763 dL_law_1764 dL_law_1765 dL_law_1766 ?_
  refine lw_arg (i := i) 2 C0 hS1 hl hL rfl (by omega) dL_law_1767 dL_law_1768 dL_law_1769 dL_law_1770 dL_law_1771 ?_
  refine lw_call (q := (50, 0, 0)) (As := [vi (xs (i + 1)).toInt, vi (xs (i + 2)).toInt]) (T' := (some (vi r), m')) C0 hKY hH1.sy hS1 hl ⟨by omega, by omega⟩ (kX12_would hY.1 zok9 hg) mvl_212 (hY.1.1 _ zok9) rfl rfl rfl rfl rfl dL_law_1772 (fun H2 locs2 hH2 hS2 => ?_)
  refine lw_eq C0 dL_law_1775 rfl ?_
  exact W.widen (by omega) (by omega) (hk e X Y I m' H2 locs2 ⟨lw_n hR', hW, hY, hKX, hKY, hH2.sy, hS2⟩ rfl rfl)
theorem lw_c50 (C0 : lw_At p s g meth co b L xs) (hL : L ≤ 3072) (hi : i + 6 ≤ L) (hn : n ≤ 512) (hcs : cs + 43 ≤ room_1.cells ∧ ss + 1059 ≤ room_1.slots) (hl : lv_has ls 4 [(0, .ref b), (1, .ref x1), (2, .ref x2), (3, vi (i : Int))]) (hI : lwI s n e X Y I J H locs) (h1 : zad X (0, 0, 0) = x1) (h2 : zad Y (50, 0, 0) = x2) (hk : lwN p l v s g B meth co b (n + 1) (cs + 43) (ss + 1059) x1 x2 ls) : W p l v room_1 s g #[Value.ref b] B meth co H locs cs ss (lw_Z B #[Value.ref b] s) (F0 g 1856 ls []) := by
  obtain ⟨hR, hW, hY, hKX, hKY, hH, hS⟩ := hI
  have hq : okC _ e (fX11_lists (xs (i + 1)).toInt (xs (i + 2)).toInt I) (fX12_lists (xs (i + 1)).toInt (xs (i + 2)).toInt J) := Q_lists hR (i32x _) (i32x _)
  obtain ⟨r, c', m', hf, hg, hR'⟩ := hq
  subst h1 h2
  refine lw_ald 1 C0 hl dL_law_1856 rfl ?_
  refine lw_arg (i := i) 1 C0 hS hl hL rfl (by omega) dL_law_1857 dL_law_1858 dL_law_1859 dL_law_1860 dL_law_1861 ?_
  refine lw_arg (i := i) 2 C0 hS hl hL rfl (by omega) dL_law_1862 dL_law_1863 dL_law_1864 dL_law_1865 dL_law_1866 ?_
  refine lw_call (q := (0, 0, 0)) (As := [vi (xs (i + 1)).toInt, vi (xs (i + 2)).toInt]) (T' := (some (vi r), c')) C0 hKX hH hS hl ⟨by omega, by omega⟩ (kX11_lists hW.2.1 hW.o hW.e1 hf) mvl_221 hW.d rfl rfl rfl rfl rfl dL_law_1867 (fun H1 locs1 hH1 hS1 => ?_)
  refine lw_ald 2 C0 hl dL_law_1870 rfl ?_
  refine lw_arg (i := i) 1 C0 hS1 hl hL rfl (by omega) dL_law_1871 dL_law_1872 dL_law_1873 dL_law_1874 dL_law_1875 ?_
  refine lw_arg (i := i) 2 C0 hS1 hl hL rfl (by omega) dL_law_1876 dL_law_1877 dL_law_1878 dL_law_1879 dL_law_1880 ?_
  refine lw_call (q := (50, 0, 0)) (As := [vi (xs (i + 1)).toInt, vi (xs (i + 2)).toInt]) (T' := (some (vi r), m')) C0 hKY hH1.sy hS1 hl ⟨by omega, by omega⟩ (kX12_lists hY.1 zok9 hg) mvl_224 (hY.1.1 _ zok9) rfl rfl rfl rfl rfl dL_law_1881 (fun H2 locs2 hH2 hS2 => ?_)
  refine lw_eq C0 dL_law_1884 rfl ?_
  exact W.widen (by omega) (by omega) (hk e X Y c' m' H2 locs2 ⟨lw_n hR', hW, hY, hKX, hKY, hH2.sy, hS2⟩ rfl rfl)
end
