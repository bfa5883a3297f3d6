section
variable {p : Program} {l : Launch} {v : Env} {s : State} {g : MethodId} {B : List Frame} {meth : Method} {co : Code} {b L : Nat} {xs : Nat → Int32} {H : Heap} {locs : List Loc} {ls : Array Slot} {cs ss n i x1 x2 : Nat} {e : Nat → Prop} {X Y : zX} {I J : zMem}
theorem lw_c0 (C0 : lw_At p s g meth co b L xs) (hL : L ≤ 3072) (hi : i + 6 ≤ L) (hn : n ≤ 512) (hcs : cs + 43 ≤ room_1.cells ∧ ss + 1059 ≤ room_1.slots) (hl : lv_has ls 4 [(0, .ref b), (1, .ref x1), (2, .ref x2), (3, vi (i : Int))]) (hI : lwI s n e X Y I J H locs) (h1 : zad X (0, 0, 0) = x1) (h2 : zad Y (50, 0, 0) = x2) (hk : lwN p l v s g B meth co b (n + 1) (cs + 43) (ss + 1059) x1 x2 ls) : W p l v room_1 s g #[Value.ref b] B meth co H locs cs ss (lw_Z B #[Value.ref b] s) (F0 g 264 ls []) := by
  obtain ⟨hR, hW, hY, hKX, hKY, hH, hS⟩ := hI
  have hq : okR _ e I (fX11_word (xs (i + 1)).toInt (xs (i + 2)).toInt) (fX12_word (xs (i + 1)).toInt (xs (i + 2)).toInt J) := Q_word hR (i32x _) (i32x _)
  obtain ⟨r, m', hf, hg, hR'⟩ := hq
  subst h1 h2
  refine lw_ald 1 C0 hl dL_law_264 rfl ?_
  refine lw_arg (i := i) 1 C0 hS hl hL rfl (by omega) dL_law_265 dL_law_266 dL_law_267 dL_law_268 dL_law_269 ?_
  refine lw_arg (i := i) 2 C0 hS hl hL rfl (by omega) dL_law_270 dL_law_271 dL_law_272 dL_law_273 dL_law_274 ?_
  refine lw_call (q := (0, 0, 0)) (As := [vi (xs (i + 1)).toInt, vi (xs (i + 2)).toInt]) (T' := (some (vi r), I)) C0 hKX hH hS hl ⟨by omega, by omega⟩ (kX11_word hW.2.1 hW.o hW.e1 hf) mvl_13 hW.d rfl rfl rfl rfl rfl dL_law_275 (fun H1 locs1 hH1 hS1 => ?_)
  refine lw_ald 2 C0 hl dL_law_278 rfl ?_
  refine lw_arg (i := i) 1 C0 hS1 hl hL rfl (by omega) dL_law_279 dL_law_280 dL_law_281 dL_law_282 dL_law_283 ?_
  refine lw_arg (i := i) 2 C0 hS1 hl hL rfl (by omega) dL_law_284 dL_law_285 dL_law_286 dL_law_287 dL_law_288 ?_
  refine lw_call (q := (50, 0, 0)) (As := [vi (xs (i + 1)).toInt, vi (xs (i + 2)).toInt]) (T' := (some (vi r), m')) C0 hKY hH1.sy hS1 hl ⟨by omega, by omega⟩ (kX12_word hY.1 zok9 hg) mvl_17 (hY.1.1 _ zok9) rfl rfl rfl rfl rfl dL_law_289 (fun H2 locs2 hH2 hS2 => ?_)
  refine lw_eq C0 dL_law_292 rfl ?_
  exact W.widen (by omega) (by omega) (hk e X Y I m' H2 locs2 ⟨lw_n hR', hW, hY, hKX, hKY, hH2.sy, hS2⟩ rfl rfl)
theorem lw_c3 (C0 : lw_At p s g meth co b L xs) (hL : L ≤ 3072) (hi : i + 6 ≤ L) (hn : n ≤ 512) (hcs : cs + 43 ≤ room_1.cells ∧ ss + 1059 ≤ room_1.slots) (hl : lv_has ls 4 [(0, .ref b), (1, .ref x1), (2, .ref x2), (3, vi (i : Int))]) (hI : lwI s n e X Y I J H locs) (h1 : zad X (0, 0, 0) = x1) (h2 : zad Y (50, 0, 0) = x2) (hk : lwN p l v s g B meth co b (n + 1) (cs + 43) (ss + 1059) x1 x2 ls) : W p l v room_1 s g #[Value.ref b] B meth co H locs cs ss (lw_Z B #[Value.ref b] s) (F0 g 344 ls []) := by
  obtain ⟨hR, hW, hY, hKX, hKY, hH, hS⟩ := hI
  have hq : okR _ e I (fX11_place (xs (i + 1)).toInt I) (fX12_place (xs (i + 1)).toInt J) := Q_place hR (i32x _)
  obtain ⟨r, m', hf, hg, hR'⟩ := hq
  subst h1 h2
  refine lw_ald 1 C0 hl dL_law_344 rfl ?_
  refine lw_arg (i := i) 1 C0 hS hl hL rfl (by omega) dL_law_345 dL_law_346 dL_law_347 dL_law_348 dL_law_349 ?_
  refine lw_call (q := (0, 0, 0)) (As := [vi (xs (i + 1)).toInt]) (T' := (some (vi r), I)) C0 hKX hH hS hl ⟨by omega, by omega⟩ (kX11_place hW.2.1 hW.o hW.e1 hf) mvl_28 hW.d rfl rfl rfl rfl rfl dL_law_350 (fun H1 locs1 hH1 hS1 => ?_)
  refine lw_ald 2 C0 hl dL_law_353 rfl ?_
  refine lw_arg (i := i) 1 C0 hS1 hl hL rfl (by omega) dL_law_354 dL_law_355 dL_law_356 dL_law_357 dL_law_358 ?_
  refine lw_call (q := (50, 0, 0)) (As := [vi (xs (i + 1)).toInt]) (T' := (some (vi r), m')) C0 hKY hH1.sy hS1 hl ⟨by omega, by omega⟩ (kX12_place hY.1 zok9 hg) mvl_31 (hY.1.1 _ zok9) rfl rfl rfl rfl rfl dL_law_359 (fun H2 locs2 hH2 hS2 => ?_)
  refine lw_eq C0 dL_law_362 rfl ?_
  exact W.widen (by omega) (by omega) (hk e X Y I m' H2 locs2 ⟨lw_n hR', hW, hY, hKX, hKY, hH2.sy, hS2⟩ rfl rfl)
theorem lw_c6 (C0 : lw_At p s g meth co b L xs) (hL : L ≤ 3072) (hi : i + 6 ≤ L) (hn : n ≤ 512) (hcs : cs + 43 ≤ room_1.cells ∧ ss + 1059 ≤ room_1.slots) (hl : lv_has ls 4 [(0, .ref b), (1, .ref x1), (2, .ref x2), (3, vi (i : Int))]) (hI : lwI s n e X Y I J H locs) (h1 : zad X (0, 0, 0) = x1) (h2 : zad Y (50, 0, 0) = x2) (hk : lwN p l v s g B meth co b (n + 1) (cs + 43) (ss + 1059) x1 x2 ls) : W p l v room_1 s g #[Value.ref b] B meth co H locs cs ss (lw_Z B #[Value.ref b] s) (F0 g 443 ls []) := by
  obtain ⟨hR, hW, hY, hKX, hKY, hH, hS⟩ := hI
  have hq : okC _ e (fX11_lacks (xs (i + 1)).toInt (xs (i + 2)).toInt I) (fX12_lacks (xs (i + 1)).toInt (xs (i + 2)).toInt J) := Q_lacks hR (i32x _) (i32x _)
  obtain ⟨r, c', m', hf, hg, hR'⟩ := hq
  subst h1 h2
  refine lw_ald 1 C0 hl dL_law_443 rfl ?_
  refine lw_arg (i := i) 1 C0 hS hl hL rfl (by omega) dL_law_444 dL_law_445 dL_law_446 dL_law_447 dL_law_448 ?_
  refine lw_arg (i := i) 2 C0 hS hl hL rfl (by omega) dL_law_449 dL_law_450 dL_law_451 dL_law_452 dL_law_453 ?_
  refine lw_call (q := (0, 0, 0)) (As := [vi (xs (i + 1)).toInt, vi (xs (i + 2)).toInt]) (T' := (some (vl r), c')) C0 hKX hH hS hl ⟨by omega, by omega⟩ (kX11_lacks hW.2.1 hW.o hW.e1 hf) mvl_41 hW.d rfl rfl rfl rfl rfl dL_law_454 (fun H1 locs1 hH1 hS1 => ?_)
  refine lw_ald 2 C0 hl dL_law_457 rfl ?_
  refine lw_arg (i := i) 1 C0 hS1 hl hL rfl (by omega) dL_law_458 dL_law_459 dL_law_460 dL_law_461 dL_law_462 ?_
  refine lw_arg (i := i) 2 C0 hS1 hl hL rfl (by omega) dL_law_463 dL_law_464 dL_law_465 dL_law_466 dL_law_467 ?_
  refine lw_call (q := (50, 0, 0)) (As := [vi (xs (i + 1)).toInt, vi (xs (i + 2)).toInt]) (T' := (some (vl r), m')) C0 hKY hH1.sy hS1 hl ⟨by omega, by omega⟩ (kX12_lacks hY.1 zok9 hg) mvl_45 (hY.1.1 _ zok9) rfl rfl rfl rfl rfl dL_law_468 (fun H2 locs2 hH2 hS2 => ?_)
  refine lw_eql C0 dL_law_471 dL_law_472 rfl ?_
  exact W.widen (by omega) (by omega) (hk e X Y c' m' H2 locs2 ⟨lw_n hR', hW, hY, hKX, hKY, hH2.sy, hS2⟩ rfl rfl)
theorem lw_c9 (C0 : lw_At p s g meth co b L xs) (hL : L ≤ 3072) (hi : i + 6 ≤ L) (hn : n ≤ 512) (hcs : cs + 43 ≤ room_1.cells ∧ ss + 1059 ≤ room_1.slots) (hl : lv_has ls 4 [(0, .ref b), (1, .ref x1), (2, .ref x2), (3, vi (i : Int))]) (hI : lwI s n e X Y I J H locs) (h1 : zad X (0, 0, 0) = x1) (h2 : zad Y (50, 0, 0) = x2) (hk : lwN p l v s g B meth co b (n + 1) (cs + 43) (ss + 1059) x1 x2 ls) : W p l v room_1 s g #[Value.ref b] B meth co H locs cs ss (lw_Z B #[Value.ref b] s) (F0 g 573 ls []) := by
  obtain ⟨hR, hW, hY, hKX, hKY, hH, hS⟩ := hI
  have hq : okC _ e (fX11_shortest (xs (i + 1)).toInt (xs (i + 2)).toInt I) (fX12_shortest (xs (i + 1)).toInt (xs (i + 2)).toInt J) := Q_shortest hR (i32x _) (i32x _)
  obtain ⟨r, c', m', hf, hg, hR'⟩ := hq
  subst h1 h2
  refine lw_ald 1 C0 hl dL_law_573 rfl ?_
  refine lw_arg (i := i) 1 C0 hS hl hL rfl (by omega) dL_law_574 dL_law_575 dL_law_576 dL_law_577 dL_law_578 ?_
  refine lw_arg (i := i) 2 C0 hS hl hL rfl (by omega) dL_law_579 dL_law_580 dL_law_581 dL_law_582 dL_law_583 ?_
  refine lw_call (q := (0, 0, 0)) (As := [vi (xs (i + 1)).toInt, vi (xs (i + 2)).toInt]) (T' := (some (vi r), c')) C0 hKX hH hS hl ⟨by omega, by omega⟩ (kX11_shortest hW.2.1 hW.o hW.e1 hf) mvl_55 hW.d rfl rfl rfl rfl rfl dL_law_584 (fun H1 locs1 hH1 hS1 => ?_)
  refine lw_ald 2 C0 hl dL_law_587 rfl ?_
  refine lw_arg (i := i) 1 C0 hS1 hl hL rfl (by omega) dL_law_588 dL_law_589 dL_law_590 dL_law_591 dL_law_592 ?_
  refine lw_arg (i := i) 2 C0 hS1 hl hL rfl (by omega) dL_law_593 dL_law_594 dL_law_595 dL_law_596 dL_law_597 ?_
  refine lw_call (q := (50, 0, 0)) (As := [vi (xs (i + 1)).toInt, vi (xs (i + 2)).toInt]) (T' := (some (vi r), m')) C0 hKY hH1.sy hS1 hl ⟨by omega, by omega⟩ (kX12_shortest hY.1 zok9 hg) mvl_58 (hY.1.1 _ zok9) rfl rfl rfl rfl rfl dL_law_598 (fun H2 locs2 hH2 hS2 => ?_)
  refine lw_eq C0 dL_law_601 rfl ?_
  exact W.widen (by omega) (by omega) (hk e X Y c' m' H2 locs2 ⟨lw_n hR', hW, hY, hKX, hKY, hH2.sy, hS2⟩ rfl rfl)
theorem lw_c12 (C0 : lw_At p s g meth co b L xs) (hL : L ≤ 3072) (hi : i + 6 ≤ L) (hn : n ≤ 512) (hcs : cs + 43 ≤ room_1.cells ∧ ss + 1059 ≤ room_1.slots) (hl : lv_has ls 4 [(0, .ref b), (1, .ref x1), (2, .ref x2), (3, vi (i : Int))]) (hI : lwI s n e X Y I J H locs) (h1 : zad X (0, 0, 0) = x1) (h2 : zad Y (50, 0, 0) = x2) (hk : lwN p l v s g B meth co b (n + 1) (cs + 43) (ss + 1059) x1 x2 ls) : W p l v room_1 s g #[Value.ref b] B meth co H locs cs ss (lw_Z B #[Value.ref b] s) (F0 g 682 ls []) := by
  obtain ⟨hR, hW, hY, hKX, hKY, hH, hS⟩ := hI
  have hq : okC _ e (fX11_link (xs (i + 1)).toInt (xs (i + 2)).toInt (xs (i + 3)).toInt (xs (i + 4)).toInt (xs (i + 5)).toInt I) (fX12_link (xs (i + 1)).toInt (xs (i + 2)).toInt (xs (i + 3)).toInt (xs (i + 4)).toInt (xs (i + 5)).toInt J) := Q_link hR (by omega) (i32x _) (i32x _) (i32x _) (i32x _) (i32x _)
  obtain ⟨r, c', m', hf, hg, hR'⟩ := hq
  subst h1 h2
  refine lw_ald 1 C0 hl dL_law_682 rfl ?_
  refine lw_arg (i := i) 1 C0 hS hl hL rfl (by omega) dL_law_683 dL_law_684 dL_law_685 dL_law_686 dL_law_687 ?_
  refine lw_arg (i := i) 2 C0 hS hl hL rfl (by omega) dL_law_688 dL_law_689 dL_law_690 dL_law_691 dL_law_692 ?_
  refine lw_arg (i := i) 3 C0 hS hl hL rfl (by omega) dL_law_693 dL_law_694 dL_law_695 dL_law_696 dL_law_697 ?_
  refine lw_arg (i := i) 4 C0 hS hl hL rfl (by omega) dL_law_698 dL_law_699 dL_law_700 dL_law_701 dL_law_702 ?_
  refine lw_arg (i := i) 5 C0 hS hl hL rfl (by omega) dL_law_703 dL_law_704 dL_law_705 dL_law_706 dL_law_707 ?_
  refine lw_call (q := (0, 0, 0)) (As := [vi (xs (i + 1)).toInt, vi (xs (i + 2)).toInt, vi (xs (i + 3)).toInt, vi (xs (i + 4)).toInt, vi (xs (i + 5)).toInt]) (T' := (some (vi r), c')) C0 hKX hH hS hl ⟨by omega, by omega⟩ (kX11_link hW.2.1 hW.o hW.e1 hf) mvl_67 hW.d rfl rfl rfl rfl rfl dL_law_708 (fun H1 locs1 hH1 hS1 => ?_)
  refine lw_ald 2 C0 hl dL_law_711 rfl ?_
  refine lw_arg (i := i) 1 C0 hS1 hl hL rfl (by omega) dL_law_712 dL_law_713 dL_law_714 dL_law_715 dL_law_716 ?_
  refine lw_arg (i := i) 2 C0 hS1 hl hL rfl (by omega) dL_law_717 dL_law_718 dL_law_719 dL_law_720 dL_law_721 ?_
  refine lw_arg (i := i) 3 C0 hS1 hl hL rfl (by omega) dL_law_722 dL_law_723 dL_law_724 dL_law_725 dL_law_726 ?_
  refine lw_arg (i := i) 4 C0 hS1 hl hL rfl (by omega) dL_law_727 dL_law_728 dL_law_729 dL_law_730 dL_law_731 ?_
  refine lw_arg (i := i) 5 C0 hS1 hl hL rfl (by omega) dL_law_732 dL_law_733 dL_law_734 dL_law_735 dL_law_736 ?_
  refine lw_call (q := (50, 0, 0)) (As := [vi (xs (i + 1)).toInt, vi (xs (i + 2)).toInt, vi (xs (i + 3)).toInt, vi (xs (i + 4)).toInt, vi (xs (i + 5)).toInt]) (T' := (some (vi r), m')) C0 hKY hH1.sy hS1 hl ⟨by omega, by omega⟩ (kX12_link hY.1 zok9 hg) mvl_71 (hY.1.1 _ zok9) rfl rfl rfl rfl rfl dL_law_737 (fun H2 locs2 hH2 hS2 => ?_)
  refine lw_eq C0 dL_law_740 rfl ?_
  exact W.widen (by omega) (by omega) (hk e X Y c' m' H2 locs2 ⟨lw_n hR', hW, hY, hKX, hKY, hH2.sy, hS2⟩ rfl rfl)
theorem lw_c15 (C0 : lw_At p s g meth co b L xs) (hL : L ≤ 3072) (hi : i + 6 ≤ L) (hn : n ≤ 512) (hcs : cs + 43 ≤ room_1.cells ∧ ss + 1059 ≤ room_1.slots) (hl : lv_has ls 4 [(0, .ref b), (1, .ref x1), (2, .ref x2), (3, vi (i : Int))]) (hI : lwI s n e X Y I J H locs) (h1 : zad X (0, 0, 0) = x1) (h2 : zad Y (50, 0, 0) = x2) (hk : lwN p l v s g B meth co b (n + 1) (cs + 43) (ss + 1059) x1 x2 ls) : W p l v room_1 s g #[Value.ref b] B meth co H locs cs ss (lw_Z B #[Value.ref b] s) (F0 g 791 ls []) := by
  obtain ⟨hR, hW, hY, hKX, hKY, hH, hS⟩ := hI
  have hq : okC _ e (fX11_offer (xs (i + 1)).toInt I) (fX12_offer (xs (i + 1)).toInt J) := Q_offer hR (i32x _)
  obtain ⟨r, c', m', hf, hg, hR'⟩ := hq
  subst h1 h2
  refine lw_ald 1 C0 hl dL_law_791 rfl ?_
  refine lw_arg (i := i) 1 C0 hS hl hL rfl (by omega) dL_law_792 dL_law_793 dL_law_794 dL_law_795 dL_law_796 ?_
  refine lw_call (q := (0, 0, 0)) (As := [vi (xs (i + 1)).toInt]) (T' := (some (vi r), c')) C0 hKX hH hS hl ⟨by omega, by omega⟩ (kX11_offer hW.2.1 hW.o hW.e1 hf) mvl_80 hW.d rfl rfl rfl rfl rfl dL_law_797 (fun H1 locs1 hH1 hS1 => ?_)
  refine lw_ald 2 C0 hl dL_law_800 rfl ?_
  refine lw_arg (i := i) 1 C0 hS1 hl hL rfl (by omega) dL_law_801 dL_law_802 dL_law_803 dL_law_804 dL_law_805 ?_
  refine lw_call (q := (50, 0, 0)) (As := [vi (xs (i + 1)).toInt]) (T' := (some (vi r), m')) C0 hKY hH1.sy hS1 hl ⟨by omega, by omega⟩ (kX12_offer hY.1 zok9 hg) mvl_83 (hY.1.1 _ zok9) rfl rfl rfl rfl rfl dL_law_806 (fun H2 locs2 hH2 hS2 => ?_)
  refine lw_eq C0 dL_law_809 rfl ?_
  exact W.widen (by omega) (by omega) (hk e X Y c' m' H2 locs2 ⟨lw_n hR', hW, hY, hKX, hKY, hH2.sy, hS2⟩ rfl rfl)
theorem lw_c18 (C0 : lw_At p s g meth co b L xs) (hL : L ≤ 3072) (hi : i + 6 ≤ L) (hn : n ≤ 512) (hcs : cs + 43 ≤ room_1.cells ∧ ss + 1059 ≤ room_1.slots) (hl : lv_has ls 4 [(0, .ref b), (1, .ref x1), (2, .ref x2), (3, vi (i : Int))]) (hI : lwI s n e X Y I J H locs) (h1 : zad X (0, 0, 0) = x1) (h2 : zad Y (50, 0, 0) = x2) (hk : lwN p l v s g B meth co b (n + 1) (cs + 43) (ss + 1059) x1 x2 ls) : W p l v room_1 s g #[Value.ref b] B meth co H locs cs ss (lw_Z B #[Value.ref b] s) (F0 g 890 ls []) := by
  obtain ⟨hR, hW, hY, hKX, hKY, hH, hS⟩ := hI
  have hq : okC _ e (fX11_burst (xs (i + 1)).toInt (xs (i + 2)).toInt (xs (i + 3)).toInt (xs (i + 4)).toInt I) (fX12_burst (xs (i + 1)).toInt (xs (i + 2)).toInt (xs (i + 3)).toInt (xs (i + 4)).toInt J) := Q_burst hR (by omega) (i32x _) (i32x _) (i32x _) (i32x _)
  obtain ⟨r, c', m', hf, hg, hR'⟩ := hq
  subst h1 h2
  refine lw_ald 1 C0 hl dL_law_890 rfl ?_
  refine lw_arg (i := i) 1 C0 hS hl hL rfl (by omega) dL_law_891 dL_law_892 dL_law_893 dL_law_894 dL_law_895 ?_
  refine lw_arg (i := i) 2 C0 hS hl hL rfl (by omega) dL_law_896 dL_law_897 dL_law_898 dL_law_899 dL_law_900 ?_
  refine lw_arg (i := i) 3 C0 hS hl hL rfl (by omega) dL_law_901 dL_law_902 dL_law_903 dL_law_904 dL_law_905 ?_
  refine lw_arg (i := i) 4 C0 hS hl hL rfl (by omega) dL_law_906 dL_law_907 dL_law_908 dL_law_909 dL_law_910 ?_
  refine lw_call (q := (0, 0, 0)) (As := [vi (xs (i + 1)).toInt, vi (xs (i + 2)).toInt, vi (xs (i + 3)).toInt, vi (xs (i + 4)).toInt]) (T' := (some (vi r), c')) C0 hKX hH hS hl ⟨by omega, by omega⟩ (kX11_burst hW.2.1 hW.o hW.e1 hf) mvl_92 hW.d rfl rfl rfl rfl rfl dL_law_911 (fun H1 locs1 hH1 hS1 => ?_)
  refine lw_ald 2 C0 hl dL_law_914 rfl ?_
  refine lw_arg (i := i) 1 C0 hS1 hl hL rfl (by omega) dL_law_915 dL_law_916 dL_law_917 dL_law_918 dL_law_919 ?_
  refine lw_arg (i := i) 2 C0 hS1 hl hL rfl (by omega) dL_law_920 dL_law_921 dL_law_922 dL_law_923 dL_law_924 ?_
  refine lw_arg (i := i) 3 C0 hS1 hl hL rfl (by omega) dL_law_925 dL_law_926 dL_law_927 dL_law_928 dL_law_929 ?_
  refine lw_arg (i := i) 4 C0 hS1 hl hL rfl (by omega) dL_law_930 dL_law_931 dL_law_932 dL_law_933 dL_law_934 ?_
  refine lw_call (q := (50, 0, 0)) (As := [vi (xs (i + 1)).toInt, vi (xs (i + 2)).toInt, vi (xs (i + 3)).toInt, vi (xs (i + 4)).toInt]) (T' := (some (vi r), m')) C0 hKY hH1.sy hS1 hl ⟨by omega, by omega⟩ (kX12_burst hY.1 zok9 hg) mvl_95 (hY.1.1 _ zok9) rfl rfl rfl rfl rfl dL_law_935 (fun H2 locs2 hH2 hS2 => ?_)
  refine lw_eq C0 dL_law_938 rfl ?_
  exact W.widen (by omega) (by omega) (hk e X Y c' m' H2 locs2 ⟨lw_n hR', hW, hY, hKX, hKY, hH2.sy, hS2⟩ rfl rfl)
theorem lw_c21 (C0 : lw_At p s g meth co b L xs) (hL : L ≤ 3072) (hi : i + 6 ≤ L) (hn : n ≤ 512) (hcs : cs + 43 ≤ room_1.cells ∧ ss + 1059 ≤ room_1.slots) (hl : lv_has ls 4 [(0, .ref b), (1, .ref x1), (2, .ref x2), (3, vi (i : Int))]) (hI : lwI s n e X Y I J H locs) (h1 : zad X (0, 0, 0) = x1) (h2 : zad Y (50, 0, 0) = x2) (hk : lwN p l v s g B meth co b (n + 1) (cs + 43) (ss + 1059) x1 x2 ls) : W p l v room_1 s g #[Value.ref b] B meth co H locs cs ss (lw_Z B #[Value.ref b] s) (F0 g 979 ls []) := by
  obtain ⟨hR, hW, hY, hKX, hKY, hH, hS⟩ := hI
  have hq : okC _ e (fX11_run (xs (i + 1)).toInt (xs (i + 2)).toInt (xs (i + 3)).toInt (xs (i + 4)).toInt I) (fX12_run (xs (i + 1)).toInt (xs (i + 2)).toInt (xs (i + 3)).toInt (xs (i + 4)).toInt J) := Q_run hR (by omega) (i32x _) (i32x _) (i32x _)
  obtain ⟨r, c', m', hf, hg, hR'⟩ := hq
  subst h1 h2
  refine lw_ald 1 C0 hl dL_law_979 rfl ?_
  refine lw_arg (i := i) 1 C0 hS hl hL rfl (by omega) dL_law_980 dL_law_981 dL_law_982 dL_law_983 dL_law_984 ?_
  refine lw_arg (i := i) 2 C0 hS hl hL rfl (by omega) dL_law_985 dL_law_986 dL_law_987 dL_law_988 dL_law_989 ?_
  refine lw_arg (i := i) 3 C0 hS hl hL rfl (by omega) dL_law_990 dL_law_991 dL_law_992 dL_law_993 dL_law_994 ?_
  refine lw_arg (i := i) 4 C0 hS hl hL rfl (by omega) dL_law_995 dL_law_996 dL_law_997 dL_law_998 dL_law_999 ?_
  refine lw_call (q := (0, 0, 0)) (As := [vi (xs (i + 1)).toInt, vi (xs (i + 2)).toInt, vi (xs (i + 3)).toInt, vi (xs (i + 4)).toInt]) (T' := (some (vi r), c')) C0 hKX hH hS hl ⟨by omega, by omega⟩ (kX11_run hW.2.1 hW.o hW.e1 hf) mvl_105 hW.d rfl rfl rfl rfl rfl dL_law_1000 (fun H1 locs1 hH1 hS1 => ?_)
  refine lw_ald 2 C0 hl dL_law_1003 rfl ?_
  refine lw_arg (i := i) 1 C0 hS1 hl hL rfl (by omega) dL_law_1004 dL_law_1005 dL_law_1006 dL_law_1007 dL_law_1008 ?_
  refine lw_arg (i := i) 2 C0 hS1 hl hL rfl (by omega) dL_law_1009 dL_law_1010 dL_law_1011 dL_law_1012 dL_law_1013 ?_
  refine lw_arg (i := i) 3 C0 hS1 hl hL rfl (by omega) dL_law_1014 dL_law_1015 dL_law_1016 dL_law_1017 dL_law_1018 ?_
  refine lw_arg (i := i) 4 C0 hS1 hl hL rfl (by omega) dL_law_1019 dL_law_1020 dL_law_1021 dL_law_1022 dL_law_1023 ?_
  refine lw_call (q := (50, 0, 0)) (As := [vi (xs (i + 1)).toInt, vi (xs (i + 2)).toInt, vi (xs (i + 3)).toInt, vi (xs (i + 4)).toInt]) (T' := (some (vi r), m')) C0 hKY hH1.sy hS1 hl ⟨by omega, by omega⟩ (kX12_run hY.1 zok9 hg) mvl_108 (hY.1.1 _ zok9) rfl rfl rfl rfl rfl dL_law_1024 (fun H2 locs2 hH2 hS2 => ?_)
  refine lw_eq C0 dL_law_1027 rfl ?_
  exact W.widen (by omega) (by omega) (hk e X Y c' m' H2 locs2 ⟨lw_n hR', hW, hY, hKX, hKY, hH2.sy, hS2⟩ rfl rfl)
theorem lw_c24 (C0 : lw_At p s g meth co b L xs) (hL : L ≤ 3072) (hi : i + 6 ≤ L) (hn : n ≤ 512) (hcs : cs + 43 ≤ room_1.cells ∧ ss + 1059 ≤ room_1.slots) (hl : lv_has ls 4 [(0, .ref b), (1, .ref x1), (2, .ref x2), (3, vi (i : Int))]) (hI : lwI s n e X Y I J H locs) (h1 : zad X (0, 0, 0) = x1) (h2 : zad Y (50, 0, 0) = x2) (hk : lwN p l v s g B meth co b (n + 1) (cs + 43) (ss + 1059) x1 x2 ls) : W p l v room_1 s g #[Value.ref b] B meth co H locs cs ss (lw_Z B #[Value.ref b] s) (F0 g 1068 ls []) := by
  obtain ⟨hR, hW, hY, hKX, hKY, hH, hS⟩ := hI
  have hq : okC _ e (fX11_worst (xs (i + 1)).toInt (xs (i + 2)).toInt I) (fX12_worst (xs (i + 1)).toInt (xs (i + 2)).toInt J) := Q_worst hR (by omega) (i32x _) (i32x _)
  obtain ⟨r, c', m', hf, hg, hR'⟩ := hq
  subst h1 h2
  refine lw_ald 1 C0 hl dL_law_1068 rfl ?_
  refine lw_arg (i := i) 1 C0 hS hl hL rfl (by omega) dL_law_1069 dL_law_1070 dL_law_1071 dL_law_1072 dL_law_1073 ?_
  refine lw_arg (i := i) 2 C0 hS hl hL rfl (by omega) dL_law_1074 dL_law_1075 dL_law_1076 dL_law_1077 dL_law_1078 ?_
  refine lw_call (q := (0, 0, 0)) (As := [vi (xs (i + 1)).toInt, vi (xs (i + 2)).toInt]) (T' := (some (vi r), c')) C0 hKX hH hS hl ⟨by omega, by omega⟩ (kX11_worst hW.2.1 hW.o hW.e1 hf) mvl_117 hW.d rfl rfl rfl rfl rfl dL_law_1079 (fun H1 locs1 hH1 hS1 => ?_)
  refine lw_ald 2 C0 hl dL_law_1082 rfl ?_
  refine lw_arg (i := i) 1 C0 hS1 hl hL rfl (by omega) dL_law_1083 dL_law_1084 dL_law_1085 dL_law_1086 dL_law_1087 ?_
  refine lw_arg (i := i) 2 C0 hS1 hl hL rfl (by omega) dL_law_1088 dL_law_1089 dL_law_1090 dL_law_1091 dL_law_1092 ?_
  refine lw_call (q := (50, 0, 0)) (As := [vi (xs (i + 1)).toInt, vi (xs (i + 2)).toInt]) (T' := (some (vi r), m')) C0 hKY hH1.sy hS1 hl ⟨by omega, by omega⟩ (kX12_worst hY.1 zok9 hg) mvl_120 (hY.1.1 _ zok9) rfl rfl rfl rfl rfl dL_law_1093 (fun H2 locs2 hH2 hS2 => ?_)
  refine lw_eq C0 dL_law_1096 rfl ?_
  exact W.widen (by omega) (by omega) (hk e X Y c' m' H2 locs2 ⟨lw_n hR', hW, hY, hKX, hKY, hH2.sy, hS2⟩ rfl rfl)
theorem lw_c27 (C0 : lw_At p s g meth co b L xs) (hL : L ≤ 3072) (hi : i + 6 ≤ L) (hn : n ≤ 512) (hcs : cs + 43 ≤ room_1.cells ∧ ss + 1059 ≤ room_1.slots) (hl : lv_has ls 4 [(0, .ref b), (1, .ref x1), (2, .ref x2), (3, vi (i : Int))]) (hI : lwI s n e X Y I J H locs) (h1 : zad X (0, 0, 0) = x1) (h2 : zad Y (50, 0, 0) = x2) (hk : lwN p l v s g B meth co b (n + 1) (cs + 43) (ss + 1059) x1 x2 ls) : W p l v room_1 s g #[Value.ref b] B meth co H locs cs ss (lw_Z B #[Value.ref b] s) (F0 g 1167 ls []) := by
  obtain ⟨hR, hW, hY, hKX, hKY, hH, hS⟩ := hI
  have hq : okR _ e I (fX11_again (xs (i + 1)).toInt I) (fX12_again (xs (i + 1)).toInt J) := Q_again hR (i32x _)
  obtain ⟨r, m', hf, hg, hR'⟩ := hq
  subst h1 h2
  refine lw_ald 1 C0 hl dL_law_1167 rfl ?_
  refine lw_arg (i := i) 1 C0 hS hl hL rfl (by omega) dL_law_1168 dL_law_1169 dL_law_1170 dL_law_1171 dL_law_1172 ?_
  refine lw_call (q := (0, 0, 0)) (As := [vi (xs (i + 1)).toInt]) (T' := (some (vi r), I)) C0 hKX hH hS hl ⟨by omega, by omega⟩ (kX11_again hW.2.1 hW.o hW.e1 hf) mvl_129 hW.d rfl rfl rfl rfl rfl dL_law_1173 (fun H1 locs1 hH1 hS1 => ?_)
  refine lw_ald 2 C0 hl dL_law_1176 rfl ?_
  refine lw_arg (i := i) 1 C0 hS1 hl hL rfl (by omega) dL_law_1177 dL_law_1178 dL_law_1179 dL_law_1180 dL_law_1181 ?_
  refine lw_call (q := (50, 0, 0)) (As := [vi (xs (i + 1)).toInt]) (T' := (some (vi r), m')) C0 hKY hH1.sy hS1 hl ⟨by omega, by omega⟩ (kX12_again hY.1 zok9 hg) mvl_132 (hY.1.1 _ zok9) rfl rfl rfl rfl rfl dL_law_1182 (fun H2 locs2 hH2 hS2 => ?_)
  refine lw_eq C0 dL_law_1185 rfl ?_
  exact W.widen (by omega) (by omega) (hk e X Y I m' H2 locs2 ⟨lw_n hR', hW, hY, hKX, hKY, hH2.sy, hS2⟩ rfl rfl)
theorem lw_c30 (C0 : lw_At p s g meth co b L xs) (hL : L ≤ 3072) (hi : i + 6 ≤ L) (hn : n ≤ 512) (hcs : cs + 43 ≤ room_1.cells ∧ ss + 1059 ≤ room_1.slots) (hl : lv_has ls 4 [(0, .ref b), (1, .ref x1), (2, .ref x2), (3, vi (i : Int))]) (hI : lwI s n e X Y I J H locs) (h1 : zad X (0, 0, 0) = x1) (h2 : zad Y (50, 0, 0) = x2) (hk : lwN p l v s g B meth co b (n + 1) (cs + 43) (ss + 1059) x1 x2 ls) : W p l v room_1 s g #[Value.ref b] B meth co H locs cs ss (lw_Z B #[Value.ref b] s) (F0 g 1246 ls []) := by
  obtain ⟨hR, hW, hY, hKX, hKY, hH, hS⟩ := hI
  have hq : okC _ e (fX11_enough (xs (i + 1)).toInt (xs (i + 2)).toInt (xs (i + 3)).toInt I) (fX12_enough (xs (i + 1)).toInt (xs (i + 2)).toInt (xs (i + 3)).toInt J) := Q_enough hR (i32x _) (i32x _) (i32x _)
  obtain ⟨r, c', m', hf, hg, hR'⟩ := hq
  subst h1 h2
  refine lw_ald 1 C0 hl dL_law_1246 rfl ?_
  refine lw_arg (i := i) 1 C0 hS hl hL rfl (by omega) dL_law_1247 dL_law_1248 dL_law_1249 dL_law_1250 dL_law_1251 ?_
  refine lw_arg (i := i) 2 C0 hS hl hL rfl (by omega) dL_law_1252 dL_law_1253 dL_law_1254 dL_law_1255 dL_law_1256 ?_
  refine lw_arg (i := i) 3 C0 hS hl hL rfl (by omega) dL_law_1257 dL_law_1258 dL_law_1259 dL_law_1260 dL_law_1261 ?_
  refine lw_call (q := (0, 0, 0)) (As := [vi (xs (i + 1)).toInt, vi (xs (i + 2)).toInt, vi (xs (i + 3)).toInt]) (T' := (some (vi r), c')) C0 hKX hH hS hl ⟨by omega, by omega⟩ (kX11_enough hW.2.1 hW.o hW.e1 hf) mvl_141 hW.d rfl rfl rfl rfl rfl dL_law_1262 (fun H1 locs1 hH1 hS1 => ?_)
  refine lw_ald 2 C0 hl dL_law_1265 rfl ?_
  refine lw_arg (i := i) 1 C0 hS1 hl hL rfl (by omega) dL_law_1266 dL_law_1267 dL_law_1268 dL_law_1269 dL_law_1270 ?_
  refine lw_arg (i := i) 2 C0 hS1 hl hL rfl (by omega) dL_law_1271 dL_law_1272 dL_law_1273 dL_law_1274 dL_law_1275 ?_
  refine lw_arg (i := i) 3 C0 hS1 hl hL rfl (by omega) dL_law_1276 dL_law_1277 dL_law_1278 dL_law_1279 dL_law_1280 ?_
  refine lw_call (q := (50, 0, 0)) (As := [vi (xs (i + 1)).toInt, vi (xs (i + 2)).toInt, vi (xs (i + 3)).toInt]) (T' := (some (vi r), m')) C0 hKY hH1.sy hS1 hl ⟨by omega, by omega⟩ (kX12_enough hY.1 zok9 hg) mvl_144 (hY.1.1 _ zok9) rfl rfl rfl rfl rfl dL_law_1281 (fun H2 locs2 hH2 hS2 => ?_)
  refine lw_eq C0 dL_law_1284 rfl ?_
  exact W.widen (by omega) (by omega) (hk e X Y c' m' H2 locs2 ⟨lw_n hR', hW, hY, hKX, hKY, hH2.sy, hS2⟩ rfl rfl)
theorem lw_c33 (C0 : lw_At p s g meth co b L xs) (hL : L ≤ 3072) (hi : i + 6 ≤ L) (hn : n ≤ 512) (hcs : cs + 43 ≤ room_1.cells ∧ ss + 1059 ≤ room_1.slots) (hl : lv_has ls 4 [(0, .ref b), (1, .ref x1), (2, .ref x2), (3, vi (i : Int))]) (hI : lwI s n e X Y I J H locs) (h1 : zad X (0, 0, 0) = x1) (h2 : zad Y (50, 0, 0) = x2) (hk : lwN p l v s g B meth co b (n + 1) (cs + 43) (ss + 1059) x1 x2 ls) : W p l v room_1 s g #[Value.ref b] B meth co H locs cs ss (lw_Z B #[Value.ref b] s) (F0 g 1355 ls []) := by
  obtain ⟨hR, hW, hY, hKX, hKY, hH, hS⟩ := hI
  have hq : okC _ e (fX11_best (xs (i + 1)).toInt I) (fX12_best (xs (i + 1)).toInt J) := Q_best hR (i32x _)
  obtain ⟨r, c', m', hf, hg, hR'⟩ := hq
  subst h1 h2
  refine lw_ald 1 C0 hl dL_law_1355 rfl ?_
  refine lw_arg (i := i) 1 C0 hS hl hL rfl (by omega) dL_law_1356 dL_law_1357 dL_law_1358 dL_law_1359 dL_law_1360 ?_
  refine lw_call (q := (0, 0, 0)) (As := [vi (xs (i + 1)).toInt]) (T' := (some (vi r), c')) C0 hKX hH hS hl ⟨by omega, by omega⟩ (kX11_best hW.2.1 hW.o hW.e1 hf) mvl_153 hW.d rfl rfl rfl rfl rfl dL_law_1361 (fun H1 locs1 hH1 hS1 => ?_)
  refine lw_ald 2 C0 hl dL_law_1364 rfl ?_
  refine lw_arg (i := i) 1 C0 hS1 hl hL rfl (by omega) dL_law_1365 dL_law_1366 dL_law_1367 dL_law_1368 dL_law_1369 ?_
  refine lw_call (q := (50, 0, 0)) (As := [vi (xs (i + 1)).toInt]) (T' := (some (vi r), m')) C0 hKY hH1.sy hS1 hl ⟨by omega, by omega⟩ (kX12_best hY.1 zok9 hg) mvl_156 (hY.1.1 _ zok9) rfl rfl rfl rfl rfl dL_law_1370 (fun H2 locs2 hH2 hS2 => ?_)
  refine lw_eq C0 dL_law_1373 rfl ?_
  exact W.widen (by omega) (by omega) (hk e X Y c' m' H2 locs2 ⟨lw_n hR', hW, hY, hKX, hKY, hH2.sy, hS2⟩ rfl rfl)
theorem lw_c36 (C0 : lw_At p s g meth co b L xs) (hL : L ≤ 3072) (hi : i + 6 ≤ L) (hn : n ≤ 512) (hcs : cs + 43 ≤ room_1.cells ∧ ss + 1059 ≤ room_1.slots) (hl : lv_has ls 4 [(0, .ref b), (1, .ref x1), (2, .ref x2), (3, vi (i : Int))]) (hI : lwI s n e X Y I J H locs) (h1 : zad X (0, 0, 0) = x1) (h2 : zad Y (50, 0, 0) = x2) (hk : lwN p l v s g B meth co b (n + 1) (cs + 43) (ss + 1059) x1 x2 ls) : W p l v room_1 s g #[Value.ref b] B meth co H locs cs ss (lw_Z B #[Value.ref b] s) (F0 g 1434 ls []) := by
  obtain ⟨hR, hW, hY, hKX, hKY, hH, hS⟩ := hI
  have hq : okC _ e (fX11_second (xs (i + 1)).toInt I) (fX12_second (xs (i + 1)).toInt J) := Q_second hR (i32x _)
  obtain ⟨r, c', m', hf, hg, hR'⟩ := hq
  subst h1 h2
  refine lw_ald 1 C0 hl dL_law_1434 rfl ?_
  refine lw_arg (i := i) 1 C0 hS hl hL rfl (by omega) dL_law_1435 dL_law_1436 dL_law_1437 dL_law_1438 dL_law_1439 ?_
  refine lw_call (q := (0, 0, 0)) (As := [vi (xs (i + 1)).toInt]) (T' := (some (vi r), c')) C0 hKX hH hS hl ⟨by omega, by omega⟩ (kX11_second hW.2.1 hW.o hW.e1 hf) mvl_165 hW.d rfl rfl rfl rfl rfl dL_law_1440 (fun H1 locs1 hH1 hS1 => ?_)
  refine lw_ald 2 C0 hl dL_law_1443 rfl ?_
  refine lw_arg (i := i) 1 C0 hS1 hl hL rfl (by omega) dL_law_1444 dL_law_1445 dL_law_1446 dL_law_1447 dL_law_1448 ?_
  refine lw_call (q := (50, 0, 0)) (As := [vi (xs (i + 1)).toInt]) (T' := (some (vi r), m')) C0 hKY hH1.sy hS1 hl ⟨by omega, by omega⟩ (kX12_second hY.1 zok9 hg) mvl_168 (hY.1.1 _ zok9) rfl rfl rfl rfl rfl dL_law_1449 (fun H2 locs2 hH2 hS2 => ?_)
  refine lw_eq C0 dL_law_1452 rfl ?_
  exact W.widen (by omega) (by omega) (hk e X Y c' m' H2 locs2 ⟨lw_n hR', hW, hY, hKX, hKY, hH2.sy, hS2⟩ rfl rfl)
theorem lw_c39 (C0 : lw_At p s g meth co b L xs) (hL : L ≤ 3072) (hi : i + 6 ≤ L) (hn : n ≤ 512) (hcs : cs + 43 ≤ room_1.cells ∧ ss + 1059 ≤ room_1.slots) (hl : lv_has ls 4 [(0, .ref b), (1, .ref x1), (2, .ref x2), (3, vi (i : Int))]) (hI : lwI s n e X Y I J H locs) (h1 : zad X (0, 0, 0) = x1) (h2 : zad Y (50, 0, 0) = x2) (hk : lwN p l v s g B meth co b (n + 1) (cs + 43) (ss + 1059) x1 x2 ls) : W p l v room_1 s g #[Value.ref b] B meth co H locs cs ss (lw_Z B #[Value.ref b] s) (F0 g 1523 ls []) := by
  obtain ⟨hR, hW, hY, hKX, hKY, hH, hS⟩ := hI
  have hq : okC _ e (fX11_rank (xs (i + 1)).toInt (xs (i + 2)).toInt I) (fX12_rank (xs (i + 1)).toInt (xs (i + 2)).toInt J) := Q_rank hR (i32x _) (i32x _)
  obtain ⟨r, c', m', hf, hg, hR'⟩ := hq
  subst h1 h2
  refine lw_ald 1 C0 hl dL_law_1523 rfl ?_
  refine lw_arg (i := i) 1 C0 hS hl hL rfl (by omega) dL_law_1524 dL_law_1525 dL_law_1526 dL_law_1527 dL_law_1528 ?_
  refine lw_arg (i := i) 2 C0 hS hl hL rfl (by omega) dL_law_1529 dL_law_1530 dL_law_1531 dL_law_1532 dL_law_1533 ?_
  refine lw_call (q := (0, 0, 0)) (As := [vi (xs (i + 1)).toInt, vi (xs (i + 2)).toInt]) (T' := (some (vi r), c')) C0 hKX hH hS hl ⟨by omega, by omega⟩ (kX11_rank hW.2.1 hW.o hW.e1 hf) mvl_177 hW.d rfl rfl rfl rfl rfl dL_law_1534 (fun H1 locs1 hH1 hS1 => ?_)
  refine lw_ald 2 C0 hl dL_law_1537 rfl ?_
  refine lw_arg (i := i) 1 C0 hS1 hl hL rfl (by omega) dL_law_1538 dL_law_1539 dL_law_1540 dL_law_1541 dL_law_1542 ?_
  refine lw_arg (i := i) 2 C0 hS1 hl hL rfl (by omega) dL_law_1543 dL_law_1544 dL_law_1545 dL_law_1546 dL_law_1547 ?_
  refine lw_call (q := (50, 0, 0)) (As := [vi (xs (i + 1)).toInt, vi (xs (i + 2)).toInt]) (T' := (some (vi r), m')) C0 hKY hH1.sy hS1 hl ⟨by omega, by omega⟩ (kX12_rank hY.1 zok9 hg) mvl_180 (hY.1.1 _ zok9) rfl rfl rfl rfl rfl dL_law_1548 (fun H2 locs2 hH2 hS2 => ?_)
  refine lw_eq C0 dL_law_1551 rfl ?_
  exact W.widen (by omega) (by omega) (hk e X Y c' m' H2 locs2 ⟨lw_n hR', hW, hY, hKX, hKY, hH2.sy, hS2⟩ rfl rfl)
theorem lw_c42 (C0 : lw_At p s g meth co b L xs) (hL : L ≤ 3072) (hi : i + 6 ≤ L) (hn : n ≤ 512) (hcs : cs + 43 ≤ room_1.cells ∧ ss + 1059 ≤ room_1.slots) (hl : lv_has ls 4 [(0, .ref b), (1, .ref x1), (2, .ref x2), (3, vi (i : Int))]) (hI : lwI s n e X Y I J H locs) (h1 : zad X (0, 0, 0) = x1) (h2 : zad Y (50, 0, 0) = x2) (hk : lwN p l v s g B meth co b (n + 1) (cs + 43) (ss + 1059) x1 x2 ls) : W p l v room_1 s g #[Value.ref b] B meth co H locs cs ss (lw_Z B #[Value.ref b] s) (F0 g 1622 ls []) := by
  obtain ⟨hR, hW, hY, hKX, hKY, hH, hS⟩ := hI
  have hq : okC _ e (fX11_known (xs (i + 1)).toInt (xs (i + 2)).toInt I) (fX12_known (xs (i + 1)).toInt (xs (i + 2)).toInt J) := Q_known hR (i32x _) (i32x _)
  obtain ⟨r, c', m', hf, hg, hR'⟩ := hq
  subst h1 h2
  refine lw_ald 1 C0 hl dL_law_1622 rfl ?_
  refine lw_arg (i := i) 1 C0 hS hl hL rfl (by omega) dL_law_1623 dL_law_1624 dL_law_1625 dL_law_1626 dL_law_1627 ?_
  refine lw_arg (i := i) 2 C0 hS hl hL rfl (by omega) dL_law_1628 dL_law_1629 dL_law_1630 dL_law_1631 dL_law_1632 ?_
  refine lw_call (q := (0, 0, 0)) (As := [vi (xs (i + 1)).toInt, vi (xs (i + 2)).toInt]) (T' := (some (vi r), c')) C0 hKX hH hS hl ⟨by omega, by omega⟩ (kX11_known hW.2.1 hW.o hW.e1 hf) mvl_189 hW.d rfl rfl rfl rfl rfl dL_law_1633 (fun H1 locs1 hH1 hS1 => ?_)
  refine lw_ald 2 C0 hl dL_law_1636 rfl ?_
  refine lw_arg (i := i) 1 C0 hS1 hl hL rfl (by omega) dL_law_1637 dL_law_1638 dL_law_1639 dL_law_1640 dL_law_1641 ?_
  refine lw_arg (i := i) 2 C0 hS1 hl hL rfl (by omega) dL_law_1642 dL_law_1643 dL_law_1644 dL_law_1645 dL_law_1646 ?_
  refine lw_call (q := (50, 0, 0)) (As := [vi (xs (i + 1)).toInt, vi (xs (i + 2)).toInt]) (T' := (some (vi r), m')) C0 hKY hH1.sy hS1 hl ⟨by omega, by omega⟩ (kX12_known hY.1 zok9 hg) mvl_192 (hY.1.1 _ zok9) rfl rfl rfl rfl rfl dL_law_1647 (fun H2 locs2 hH2 hS2 => ?_)
  refine lw_eq C0 dL_law_1650 rfl ?_
  exact W.widen (by omega) (by omega) (hk e X Y c' m' H2 locs2 ⟨lw_n hR', hW, hY, hKX, hKY, hH2.sy, hS2⟩ rfl rfl)
theorem lw_c45 (C0 : lw_At p s g meth co b L xs) (hL : L ≤ 3072) (hi : i + 6 ≤ L) (hn : n ≤ 512) (hcs : cs + 43 ≤ room_1.cells ∧ ss + 1059 ≤ room_1.slots) (hl : lv_has ls 4 [(0, .ref b), (1, .ref x1), (2, .ref x2), (3, vi (i : Int))]) (hI : lwI s n e X Y I J H locs) (h1 : zad X (0, 0, 0) = x1) (h2 : zad Y (50, 0, 0) = x2) (hk : lwN p l v s g B meth co b (n + 1) (cs + 43) (ss + 1059) x1 x2 ls) : W p l v room_1 s g #[Value.ref b] B meth co H locs cs ss (lw_Z B #[Value.ref b] s) (F0 g 1701 ls []) := by
  obtain ⟨hR, hW, hY, hKX, hKY, hH, hS⟩ := hI
  have hq : okR _ e I (fX11_gaps (xs (i + 1)).toInt I) (fX12_gaps (xs (i + 1)).toInt J) := Q_gaps hR (i32x _)
  obtain ⟨r, m', hf, hg, hR'⟩ := hq
  subst h1 h2
  refine lw_ald 1 C0 hl dL_law_1701 rfl ?_
  refine lw_arg (i := i) 1 C0 hS hl hL rfl (by omega) dL_law_1702 dL_law_1703 dL_law_1704 dL_law_1705 dL_law_1706 ?_
  refine lw_call (q := (0, 0, 0)) (As := [vi (xs (i + 1)).toInt]) (T' := (some (vi r), I)) C0 hKX hH hS hl ⟨by omega, by omega⟩ (kX11_gaps hW.2.1 hW.o hW.e1 hf) mvl_201 hW.d rfl rfl rfl rfl rfl dL_law_1707 (fun H1 locs1 hH1 hS1 => ?_)
  refine lw_ald 2 C0 hl dL_law_1710 rfl ?_
  refine lw_arg (i := i) 1 C0 hS1 hl hL rfl (by omega) dL_law_1711 dL_law_1712 dL_law_1713 dL_law_1714 dL_law_1715 ?_
  refine lw_call (q := (50, 0, 0)) (As := [vi (xs (i + 1)).toInt]) (T' := (some (vi r), m')) C0 hKY hH1.sy hS1 hl ⟨by omega, by omega⟩ (kX12_gaps hY.1 zok9 hg) mvl_204 (hY.1.1 _ zok9) rfl rfl rfl rfl rfl dL_law_1716 (fun H2 locs2 hH2 hS2 => ?_)
  refine lw_eq C0 dL_law_1719 rfl ?_
  exact W.widen (by omega) (by omega) (hk e X Y I m' H2 locs2 ⟨lw_n hR', hW, hY, hKX, hKY, hH2.sy, hS2⟩ rfl rfl)
theorem lw_c48 (C0 : lw_At p s g meth co b L xs) (hL : L ≤ 3072) (hi : i + 6 ≤ L) (hn : n ≤ 512) (hcs : cs + 43 ≤ room_1.cells ∧ ss + 1059 ≤ room_1.slots) (hl : lv_has ls 4 [(0, .ref b), (1, .ref x1), (2, .ref x2), (3, vi (i : Int))]) (hI : lwI s n e X Y I J H locs) (h1 : zad X (0, 0, 0) = x1) (h2 : zad Y (50, 0, 0) = x2) (hk : lwN p l v s g B meth co b (n + 1) (cs + 43) (ss + 1059) x1 x2 ls) : W p l v room_1 s g #[Value.ref b] B meth co H locs cs ss (lw_Z B #[Value.ref b] s) (F0 g 1780 ls []) := by
  obtain ⟨hR, hW, hY, hKX, hKY, hH, hS⟩ := hI
  have hq : okC _ e (fX11_tray (xs (i + 1)).toInt (xs (i + 2)).toInt I) (fX12_tray (xs (i + 1)).toInt (xs (i + 2)).toInt J) := Q_tray hR (i32x _) (i32x _)
  obtain ⟨r, c', m', hf, hg, hR'⟩ := hq
  subst h1 h2
  refine lw_ald 1 C0 hl dL_law_1780 rfl ?_
  refine lw_arg (i := i) 1 C0 hS hl hL rfl (by omega) dL_law_1781 dL_law_1782 dL_law_1783 dL_law_1784 dL_law_1785 ?_
  refine lw_arg (i := i) 2 C0 hS hl hL rfl (by omega) dL_law_1786 dL_law_1787 dL_law_1788 dL_law_1789 dL_law_1790 ?_
  refine lw_call (q := (0, 0, 0)) (As := [vi (xs (i + 1)).toInt, vi (xs (i + 2)).toInt]) (T' := (some (vi r), c')) C0 hKX hH hS hl ⟨by omega, by omega⟩ (kX11_tray hW.2.1 hW.o hW.e1 hf) mvl_213 hW.d rfl rfl rfl rfl rfl dL_law_1791 (fun H1 locs1 hH1 hS1 => ?_)
  refine lw_ald 2 C0 hl dL_law_1794 rfl ?_
  refine lw_arg (i := i) 1 C0 hS1 hl hL rfl (by omega) dL_law_1795 dL_law_1796 dL_law_1797 dL_law_1798 dL_law_1799 ?_
  refine lw_arg (i := i) 2 C0 hS1 hl hL rfl (by omega) dL_law_1800 dL_law_1801 dL_law_1802 dL_law_1803 dL_law_1804 ?_
  refine lw_call (q := (50, 0, 0)) (As := [vi (xs (i + 1)).toInt, vi (xs (i + 2)).toInt]) (T' := (some (vi r), m')) C0 hKY hH1.sy hS1 hl ⟨by omega, by omega⟩ (kX12_tray hY.1 zok9 hg) mvl_216 (hY.1.1 _ zok9) rfl rfl rfl rfl rfl dL_law_1805 (fun H2 locs2 hH2 hS2 => ?_)
  refine lw_eq C0 dL_law_1808 rfl ?_
  exact W.widen (by omega) (by omega) (hk e X Y c' m' H2 locs2 ⟨lw_n hR', hW, hY, hKX, hKY, hH2.sy, hS2⟩ rfl rfl)
theorem lw_c53 (C0 : lw_At p s g meth co b L xs) (hL : L ≤ 3072) (hi : i + 6 ≤ L) (hn : n ≤ 512) (hcs : cs + 43 ≤ room_1.cells ∧ ss + 1059 ≤ room_1.slots) (hl : lv_has ls 4 [(0, .ref b), (1, .ref x1), (2, .ref x2), (3, vi (i : Int))]) (hI : lwI s n e X Y I J H locs) (h1 : zad X (0, 0, 0) = x1) (h2 : zad Y (50, 0, 0) = x2) (hk : lwN p l v s g B meth co b (n + 1) (cs + 43) (ss + 1059) x1 x2 ls) : W p l v room_1 s g #[Value.ref b] B meth co H locs cs ss (lw_Z B #[Value.ref b] s) (F0 g 1935 ls []) := by
  obtain ⟨hR, hW, hY, hKX, hKY, hH, hS⟩ := hI
  have hq : okR _ e I (fX11_count (xs (i + 1)).toInt I) (fX12_count (xs (i + 1)).toInt J) := Q_count hR (i32x _)
  obtain ⟨r, m', hf, hg, hR'⟩ := hq
  subst h1 h2
  refine lw_ald 1 C0 hl dL_law_1935 rfl ?_
  refine lw_arg (i := i) 1 C0 hS hl hL rfl (by omega) dL_law_1936 dL_law_1937 dL_law_1938 dL_law_1939 dL_law_1940 ?_
  refine lw_call (q := (0, 0, 0)) (As := [vi (xs (i + 1)).toInt]) (T' := (some (vi r), I)) C0 hKX hH hS hl ⟨by omega, by omega⟩ (kX11_count hW.2.1 hW.o hW.e1 hf) mvl_233 hW.d rfl rfl rfl rfl rfl dL_law_1941 (fun H1 locs1 hH1 hS1 => ?_)
  refine lw_ald 2 C0 hl dL_law_1944 rfl ?_
  refine lw_arg (i := i) 1 C0 hS1 hl hL rfl (by omega) dL_law_1945 dL_law_1946 dL_law_1947 dL_law_1948 dL_law_1949 ?_
  refine lw_call (q := (50, 0, 0)) (As := [vi (xs (i + 1)).toInt]) (T' := (some (vi r), m')) C0 hKY hH1.sy hS1 hl ⟨by omega, by omega⟩ (kX12_count hY.1 zok9 hg) mvl_236 (hY.1.1 _ zok9) rfl rfl rfl rfl rfl dL_law_1950 (fun H2 locs2 hH2 hS2 => ?_)
  refine lw_eq C0 dL_law_1953 rfl ?_
  exact W.widen (by omega) (by omega) (hk e X Y I m' H2 locs2 ⟨lw_n hR', hW, hY, hKX, hKY, hH2.sy, hS2⟩ rfl rfl)
end
