set_option maxRecDepth 100000 in
theorem tX11_refuseEarAnd_0 {X : zX} {e : Nat → Prop} (hw : zWf X e) {v1 : Int} {v2 : Int} (o : zOk e (0, 0, 0)) (h1 : e 1) {I : zMem} {u : Int} (hf : fX11_refuseEarAnd v1 v2 I = some u) : zW X (some (vi u), I) mX11_refuseEarAnd 0 [(0, .ref (zad X (0, 0, 0))), (1, vi v1), (2, vi v2)] [] I := by
  unfold fX11_refuseEarAnd at hf
  refine zW_aload_n 0 dX11_refuseEarAnd_0 rfl ?_
  refine zW_iload_n 1 dX11_refuseEarAnd_1 rfl ?_
  refine zC_Vri (As := [vi v1]) (fun x hx => kX11_isProcess hw (v1 := v1) o h1 hx) mv_RX11_200 (hw.1 _ o) rfl rfl rfl rfl rfl dX11_refuseEarAnd_2 hf (fun r1 hf => ?_)
  refine zF_if_ne 11 dX11_refuseEarAnd_5 rfl rfl hf (fun c hf => ?_) (fun c hf => ?_)
  · refine zW_bipush dX11_refuseEarAnd_8 rfl ?_
    exact zS_i hw rfl dX11_refuseEarAnd_10 hf
  · refine zW_iload_n 2 dX11_refuseEarAnd_11 rfl ?_
    refine zF_if_ne 18 dX11_refuseEarAnd_12 rfl rfl hf (fun c hf => ?_) (fun c hf => ?_)
    · refine zW_bipush dX11_refuseEarAnd_15 rfl ?_
      exact zS_i hw rfl dX11_refuseEarAnd_17 hf
    · refine zW_aload_n 0 dX11_refuseEarAnd_18 rfl ?_
      refine zW_getR (q' := (7, 1, 0)) lk_RX11_56 (hw.1 _ o) rfl rfl (hw.2.1 _ _ _ o rfl) dX11_refuseEarAnd_19 ?_
      refine zW_getR (q' := (9, 1, 0)) lk_RX11_246 (hw.1 _ (zok1 (r' := 7) h1 rfl)) rfl rfl (hw.2.1 _ _ _ (zok1 (r' := 7) h1 rfl) rfl) dX11_refuseEarAnd_22 ?_
      refine zW_getR (q' := (38, 1, 0)) lk_RX11_324 (hw.1 _ (zokB (r' := 9) (zok1 (r' := 7) h1 rfl) rfl rfl)) rfl rfl (hw.2.1 _ _ _ (zokB (r' := 9) (zok1 (r' := 7) h1 rfl) rfl rfl) rfl) dX11_refuseEarAnd_25 ?_
      refine zW_iload_n 1 dX11_refuseEarAnd_28 rfl ?_
      obtain ⟨c2, hf⟩ := zgd hf
      refine zW_aald (q' := (11, 1, ix v1)) 4 rfl rfl (hw.1 _ (zokB (r' := 38) (zokB (r' := 9) (zok1 (r' := 7) h1 rfl) rfl rfl) rfl rfl)) rfl rfl c2 (hw.2.1 _ _ _ (zokB (r' := 38) (zokB (r' := 9) (zok1 (r' := 7) h1 rfl) rfl rfl) rfl rfl) rfl) dX11_refuseEarAnd_29 ?_
      refine zW_getI lk_RX11_328 (hw.1 _ (zokE (r' := 11) (zokB (r' := 38) (zokB (r' := 9) (zok1 (r' := 7) h1 rfl) rfl rfl) rfl rfl) rfl rfl c2)) rfl rfl dX11_refuseEarAnd_30 ?_
      refine zW_iconst dX11_refuseEarAnd_33 ?_
      refine zF_icmp_ne 42 dX11_refuseEarAnd_34 rfl rfl (w32_lit _ rfl) hf (fun c hf => ?_) (fun c hf => ?_)
      · refine zW_bipush dX11_refuseEarAnd_37 rfl ?_
        refine zW_goto 43 dX11_refuseEarAnd_39 rfl ?_
        exact zS_i hw rfl dX11_refuseEarAnd_43 hf
      · refine zW_iconst dX11_refuseEarAnd_42 ?_
        exact zS_i hw rfl dX11_refuseEarAnd_43 hf
theorem kX11_refuseEarAnd {X : zX} {e : Nat → Prop} (hw : zWf X e) {v1 : Int} {v2 : Int} (o : zOk e (0, 0, 0)) (h1 : e 1) {I : zMem} {u : Int} (hf : fX11_refuseEarAnd v1 v2 I = some u) : zCn X mX11_refuseEarAnd yX11_refuseEarAnd [.ref (zad X (0, 0, 0)), vi v1, vi v2] I (some (vi u), I) := zCn_of (by decide +kernel) rfl rfl ⟨rfl, rfl⟩ (tX11_refuseEarAnd_0 hw.N o h1 hf)
set_option maxRecDepth 100000 in
theorem tX11_refuseEar_0 {X : zX} {e : Nat → Prop} (hw : zWf X e) {v1 : Int} (o : zOk e (0, 0, 0)) (h1 : e 1) {I : zMem} {u : Int} (hf : fX11_refuseEar v1 I = some u) : zW X (some (vi u), I) mX11_refuseEar 0 [(0, .ref (zad X (0, 0, 0))), (1, vi v1)] [] I := by
  unfold fX11_refuseEar at hf
  refine zW_aload_n 0 dX11_refuseEar_0 rfl ?_
  refine zW_iload_n 1 dX11_refuseEar_1 rfl ?_
  refine zW_iconst dX11_refuseEar_2 ?_
  refine zC_Vri (As := [vi v1, vi 1]) (fun x hx => kX11_refuseEarAnd hw (v1 := v1) (v2 := 1) o h1 hx) mv_RX11_364 (hw.1 _ o) rfl rfl rfl rfl rfl dX11_refuseEar_3 hf (fun r1 hf => ?_)
  exact zS_i hw rfl dX11_refuseEar_6 hf
theorem kX11_refuseEar {X : zX} {e : Nat → Prop} (hw : zWf X e) {v1 : Int} (o : zOk e (0, 0, 0)) (h1 : e 1) {I : zMem} {u : Int} (hf : fX11_refuseEar v1 I = some u) : zCn X mX11_refuseEar yX11_refuseEar [.ref (zad X (0, 0, 0)), vi v1] I (some (vi u), I) := zCn_of (by decide +kernel) rfl rfl ⟨rfl, rfl⟩ (tX11_refuseEar_0 hw.N o h1 hf)
set_option maxRecDepth 100000 in
theorem tX11_soft_0 {X : zX} {e : Nat → Prop} (hw : zWf X e) {v1 : Int} {v2 : Int} (o : zOk e (0, 0, 0)) (h1 : e 1) {I : zMem} {u : Int} (hf : fX11_soft v1 v2 I = some u) : zW X (some (vi u), I) mX11_soft 0 [(0, .ref (zad X (0, 0, 0))), (1, vi v1), (2, vi v2)] [] I := by
  unfold fX11_soft at hf
  refine zW_aload_n 0 dX11_soft_0 rfl ?_
  refine zW_iload_n 1 dX11_soft_1 rfl ?_
  refine zC_Vri (As := [vi v1]) (fun x hx => kX11_refuseEar hw (v1 := v1) o h1 hx) mv_RX11_353 (hw.1 _ o) rfl rfl rfl rfl rfl dX11_soft_2 hf (fun r1 hf => ?_)
  refine zW_istore_n (lv' := [(3, vi r1), (0, .ref (zad X (0, 0, 0))), (1, vi v1), (2, vi v2)]) dX11_soft_5 rfl rfl ?_
  refine zW_iload_n 0 dX11_soft_6 rfl ?_
  refine zF_if_eq 16 dX11_soft_7 rfl rfl hf (fun c hf => ?_) (fun c hf => ?_)
  · refine zW_iload_n 3 dX11_soft_16 rfl ?_
    refine zF_if_lt 26 dX11_soft_17 rfl rfl hf (fun c hf => ?_) (fun c hf => ?_)
    · refine zW_ldcw dX11_soft_26 wc_RX11_357 ?_
      exact zS_i hw rfl dX11_soft_29 hf
    · refine zW_iload_n 3 dX11_soft_20 rfl ?_
      refine zW_bipush dX11_soft_21 rfl ?_
      refine zF_icmp_lt 30 dX11_soft_23 rfl rfl (w32_lit _ rfl) hf (fun c hf => ?_) (fun c hf => ?_)
      · refine zW_aload_n 1 dX11_soft_30 rfl ?_
        refine zW_getR (q' := (7, 1, 0)) lk_RX11_56 (hw.1 _ o) rfl rfl (hw.2.1 _ _ _ o rfl) dX11_soft_31 ?_
        refine zW_getR (q' := (9, 1, 0)) lk_RX11_246 (hw.1 _ (zok1 (r' := 7) h1 rfl)) rfl rfl (hw.2.1 _ _ _ (zok1 (r' := 7) h1 rfl) rfl) dX11_soft_34 ?_
        refine zW_getR (q' := (38, 1, 0)) lk_RX11_324 (hw.1 _ (zokB (r' := 9) (zok1 (r' := 7) h1 rfl) rfl rfl)) rfl rfl (hw.2.1 _ _ _ (zokB (r' := 9) (zok1 (r' := 7) h1 rfl) rfl rfl) rfl) dX11_soft_37 ?_
        refine zW_iload_n 2 dX11_soft_40 rfl ?_
        obtain ⟨c2, hf⟩ := zgd hf
        refine zW_aald (q' := (11, 1, ix v1)) 4 rfl rfl (hw.1 _ (zokB (r' := 38) (zokB (r' := 9) (zok1 (r' := 7) h1 rfl) rfl rfl) rfl rfl)) rfl rfl c2 (hw.2.1 _ _ _ (zokB (r' := 38) (zokB (r' := 9) (zok1 (r' := 7) h1 rfl) rfl rfl) rfl rfl) rfl) dX11_soft_41 ?_
        refine zW_getR (q' := (41, 1, ix v1)) lk_RX11_333 (hw.1 _ (zokE (r' := 11) (zokB (r' := 38) (zokB (r' := 9) (zok1 (r' := 7) h1 rfl) rfl rfl) rfl rfl) rfl rfl c2)) rfl rfl (hw.2.1 _ _ _ (zokE (r' := 11) (zokB (r' := 38) (zokB (r' := 9) (zok1 (r' := 7) h1 rfl) rfl rfl) rfl rfl) rfl rfl c2) rfl) dX11_soft_42 ?_
        refine zW_iload_n 3 dX11_soft_45 rfl ?_
        obtain ⟨c3, hf⟩ := zgd hf
        refine zF_iald (hw.1 _ (zokC (r' := 41) (zokE (r' := 11) (zokB (r' := 38) (zokB (r' := 9) (zok1 (r' := 7) h1 rfl) rfl rfl) rfl rfl) rfl rfl c2) rfl rfl)) rfl c3 rfl dX11_soft_46 ?_
        exact zS_i hw rfl dX11_soft_47 hf
      · refine zW_ldcw dX11_soft_26 wc_RX11_357 ?_
        exact zS_i hw rfl dX11_soft_29 hf
  · refine zW_ldcw dX11_soft_10 wc_RX11_356 ?_
    refine zW_iload_n 0 dX11_soft_13 rfl ?_
    refine zW_iadd dX11_soft_14 ?_
    exact zS_i hw rfl dX11_soft_15 hf
theorem kX11_soft {X : zX} {e : Nat → Prop} (hw : zWf X e) {v1 : Int} {v2 : Int} (o : zOk e (0, 0, 0)) (h1 : e 1) {I : zMem} {u : Int} (hf : fX11_soft v1 v2 I = some u) : zCn X mX11_soft yX11_soft [.ref (zad X (0, 0, 0)), vi v1, vi v2] I (some (vi u), I) := zCn_of (by decide +kernel) rfl rfl ⟨rfl, rfl⟩ (tX11_soft_0 hw.N o h1 hf)
set_option maxRecDepth 100000 in
theorem tX11_heard_0 {X : zX} {e : Nat → Prop} (hw : zWf X e) {v1 : Int} {v2 : Int} (o : zOk e (0, 0, 0)) (h1 : e 1) {I : zMem} {u : Int} (hf : fX11_heard v1 v2 I = some u) : zW X (some (vi u), I) mX11_heard 0 [(0, .ref (zad X (0, 0, 0))), (1, vi v1), (2, vi v2)] [] I := by
  unfold fX11_heard at hf
  refine zW_aload_n 0 dX11_heard_0 rfl ?_
  refine zW_iload_n 1 dX11_heard_1 rfl ?_
  refine zC_Vri (As := [vi v1]) (fun x hx => kX11_isProcess hw (v1 := v1) o h1 hx) mv_RX11_200 (hw.1 _ o) rfl rfl rfl rfl rfl dX11_heard_2 hf (fun r1 hf => ?_)
  refine zF_if_ne 11 dX11_heard_5 rfl rfl hf (fun c hf => ?_) (fun c hf => ?_)
  · refine zW_bipush dX11_heard_8 rfl ?_
    exact zS_i hw rfl dX11_heard_10 hf
  · refine zW_aload_n 0 dX11_heard_11 rfl ?_
    refine zW_getR (q' := (7, 1, 0)) lk_RX11_56 (hw.1 _ o) rfl rfl (hw.2.1 _ _ _ o rfl) dX11_heard_12 ?_
    refine zW_getR (q' := (9, 1, 0)) lk_RX11_246 (hw.1 _ (zok1 (r' := 7) h1 rfl)) rfl rfl (hw.2.1 _ _ _ (zok1 (r' := 7) h1 rfl) rfl) dX11_heard_15 ?_
    refine zW_getR (q' := (38, 1, 0)) lk_RX11_324 (hw.1 _ (zokB (r' := 9) (zok1 (r' := 7) h1 rfl) rfl rfl)) rfl rfl (hw.2.1 _ _ _ (zokB (r' := 9) (zok1 (r' := 7) h1 rfl) rfl rfl) rfl) dX11_heard_18 ?_
    refine zW_iload_n 1 dX11_heard_21 rfl ?_
    obtain ⟨c2, hf⟩ := zgd hf
    refine zW_aald (q' := (11, 1, ix v1)) 4 rfl rfl (hw.1 _ (zokB (r' := 38) (zokB (r' := 9) (zok1 (r' := 7) h1 rfl) rfl rfl) rfl rfl)) rfl rfl c2 (hw.2.1 _ _ _ (zokB (r' := 38) (zokB (r' := 9) (zok1 (r' := 7) h1 rfl) rfl rfl) rfl rfl) rfl) dX11_heard_22 ?_
    refine zW_astore_n (lv' := [(3, .ref (zad X (11, 1, ix v1))), (0, .ref (zad X (0, 0, 0))), (1, vi v1), (2, vi v2)]) dX11_heard_23 rfl rfl ?_
    refine zW_iload_n 3 dX11_heard_24 rfl ?_
    rcases zif hf with ⟨ts0, hf⟩ | ⟨ts0, hf⟩
    · refine zW_tab 0 52 dX11_heard_25 (by rw [ts0]; rfl) rfl rfl rfl ?_
      refine zW_aload_n 0 dX11_heard_52 rfl ?_
      refine zW_getI lk_RX11_328 (hw.1 _ (zokE (r' := 11) (zokB (r' := 38) (zokB (r' := 9) (zok1 (r' := 7) h1 rfl) rfl rfl) rfl rfl) rfl rfl c2)) rfl rfl dX11_heard_53 ?_
      exact zS_i hw rfl dX11_heard_56 hf
    · rcases zif hf with ⟨ts1, hf⟩ | ⟨ts1, hf⟩
      · refine zW_tab 1 57 dX11_heard_25 (by rw [ts1]; rfl) rfl rfl rfl ?_
        refine zW_aload_n 0 dX11_heard_57 rfl ?_
        refine zW_getI lk_RX11_358 (hw.1 _ (zokE (r' := 11) (zokB (r' := 38) (zokB (r' := 9) (zok1 (r' := 7) h1 rfl) rfl rfl) rfl rfl) rfl rfl c2)) rfl rfl dX11_heard_58 ?_
        exact zS_i hw rfl dX11_heard_61 hf
      · rcases zif hf with ⟨ts2, hf⟩ | ⟨ts2, hf⟩
        · refine zW_tab 2 62 dX11_heard_25 (by rw [ts2]; rfl) rfl rfl rfl ?_
          refine zW_aload_n 0 dX11_heard_62 rfl ?_
          refine zW_getI lk_RX11_361 (hw.1 _ (zokE (r' := 11) (zokB (r' := 38) (zokB (r' := 9) (zok1 (r' := 7) h1 rfl) rfl rfl) rfl rfl) rfl rfl c2)) rfl rfl dX11_heard_63 ?_
          refine zF_if_eq 73 dX11_heard_66 rfl rfl hf (fun c hf => ?_) (fun c hf => ?_)
          · refine zW_iconst dX11_heard_73 ?_
            exact zS_i hw rfl dX11_heard_74 hf
          · refine zW_iconst dX11_heard_69 ?_
            refine zW_goto 74 dX11_heard_70 rfl ?_
            exact zS_i hw rfl dX11_heard_74 hf
        · refine zW_tabd 75 dX11_heard_25 (by omega) rfl ?_
          refine zW_bipush dX11_heard_75 rfl ?_
          exact zS_i hw rfl dX11_heard_77 hf
theorem kX11_heard {X : zX} {e : Nat → Prop} (hw : zWf X e) {v1 : Int} {v2 : Int} (o : zOk e (0, 0, 0)) (h1 : e 1) {I : zMem} {u : Int} (hf : fX11_heard v1 v2 I = some u) : zCn X mX11_heard yX11_heard [.ref (zad X (0, 0, 0)), vi v1, vi v2] I (some (vi u), I) := zCn_of (by decide +kernel) rfl rfl ⟨rfl, rfl⟩ (tX11_heard_0 hw.N o h1 hf)
set_option maxRecDepth 100000 in
theorem tX11_best_0 {X : zX} {e : Nat → Prop} (hw : zWf X e) {v1 : Int} (o : zOk e (0, 0, 0)) (h1 : e 1) {I : zMem} {u : (Int × zMem)} (hf : fX11_best v1 I = some u) : zW X (some (vi u.1), u.2) mX11_best 0 [(0, .ref (zad X (0, 0, 0))), (1, vi v1)] [] I := by
  unfold fX11_best at hf
  refine zW_aload_n 0 dX11_best_0 rfl ?_
  refine zW_iload_n 1 dX11_best_1 rfl ?_
  refine zC_Vri (As := [vi v1]) (fun x hx => kX11_refuseEar hw (v1 := v1) o h1 hx) mv_RX11_353 (hw.1 _ o) rfl rfl rfl rfl rfl dX11_best_2 hf (fun r1 hf => ?_)
  refine zW_istore_n (lv' := [(2, vi r1), (0, .ref (zad X (0, 0, 0))), (1, vi v1)]) dX11_best_5 rfl rfl ?_
  refine zW_iload_n 0 dX11_best_6 rfl ?_
  refine zF_if_eq 14 dX11_best_7 rfl rfl hf (fun c hf => ?_) (fun c hf => ?_)
  · refine zW_aload_n 1 dX11_best_14 rfl ?_
    refine zW_getR (q' := (4, 0, 0)) lk_RX11_33 (hw.1 _ o) rfl rfl (hw.2.1 _ _ _ o rfl) dX11_best_15 ?_
    refine zW_aload_n 1 dX11_best_18 rfl ?_
    refine zW_getR (q' := (7, 1, 0)) lk_RX11_56 (hw.1 _ o) rfl rfl (hw.2.1 _ _ _ o rfl) dX11_best_19 ?_
    refine zW_getR (q' := (9, 1, 0)) lk_RX11_246 (hw.1 _ (zok1 (r' := 7) h1 rfl)) rfl rfl (hw.2.1 _ _ _ (zok1 (r' := 7) h1 rfl) rfl) dX11_best_22 ?_
    refine zW_getR (q' := (38, 1, 0)) lk_RX11_324 (hw.1 _ (zokB (r' := 9) (zok1 (r' := 7) h1 rfl) rfl rfl)) rfl rfl (hw.2.1 _ _ _ (zokB (r' := 9) (zok1 (r' := 7) h1 rfl) rfl rfl) rfl) dX11_best_25 ?_
    refine zW_iload_n 2 dX11_best_28 rfl ?_
    obtain ⟨c2, hf⟩ := zgd hf
    refine zW_aald (q' := (11, 1, ix v1)) 4 rfl rfl (hw.1 _ (zokB (r' := 38) (zokB (r' := 9) (zok1 (r' := 7) h1 rfl) rfl rfl) rfl rfl)) rfl rfl c2 (hw.2.1 _ _ _ (zokB (r' := 38) (zokB (r' := 9) (zok1 (r' := 7) h1 rfl) rfl rfl) rfl rfl) rfl) dX11_best_29 ?_
    refine zW_getR (q' := (41, 1, ix v1)) lk_RX11_333 (hw.1 _ (zokE (r' := 11) (zokB (r' := 38) (zokB (r' := 9) (zok1 (r' := 7) h1 rfl) rfl rfl) rfl rfl) rfl rfl c2)) rfl rfl (hw.2.1 _ _ _ (zokE (r' := 11) (zokB (r' := 38) (zokB (r' := 9) (zok1 (r' := 7) h1 rfl) rfl rfl) rfl rfl) rfl rfl c2) rfl) dX11_best_30 ?_
    refine zC_Vwi (As := [.ref (zad X (41, 1, ix v1))]) (fun x hx => kX2_bestWord hw (q1 := (41, 1, ix v1)) (zokA (r' := 4) o rfl rfl) (hw.1 _ (zokC (r' := 41) (zokE (r' := 11) (zokB (r' := 38) (zokB (r' := 9) (zok1 (r' := 7) h1 rfl) rfl rfl) rfl rfl) rfl rfl c2) rfl rfl)) rfl hx) mv_RX11_349 (hw.1 _ (zokA (r' := 4) o rfl rfl)) rfl rfl rfl rfl rfl dX11_best_33 hf (fun r3 hf => ?_)
    exact zR_i hw rfl dX11_best_36 hf
  · refine zW_iload_n 0 dX11_best_10 rfl ?_
    refine zW_goto 36 dX11_best_11 rfl ?_
    exact zR_i hw rfl dX11_best_36 hf
theorem kX11_best {X : zX} {e : Nat → Prop} (hw : zWf X e) {v1 : Int} (o : zOk e (0, 0, 0)) (h1 : e 1) {I : zMem} {u : (Int × zMem)} (hf : fX11_best v1 I = some u) : zCn X mX11_best yX11_best [.ref (zad X (0, 0, 0)), vi v1] I (some (vi u.1), u.2) := zCn_of (by decide +kernel) rfl rfl ⟨rfl, rfl⟩ (tX11_best_0 hw.N o h1 hf)
set_option maxRecDepth 100000 in
theorem tX11_sum_b43_83 {X : zX} {e : Nat → Prop} (hw : zWf X e) {T : zT} {v1 : Int} {v2 : Int} {I : zMem} {wp4 : Nat} {w6 : Int} {k0 : Int} {k1 : Int} (o : zOk e (0, 0, 0)) (h1 : e 1) (wo4 : zOk e (41, 1, wp4)) {u : ((Int × Int) ⊕ (Int × Int))} (hf : fX11_sum_b43_83 v1 v2 I wp4 w6 k0 k1 = some u) (hk : ∀ s', u = .inl s' → zW X T mX11_sum 43 [(0, .ref (zad X (0, 0, 0))), (2, vi v2), (4, .ref (zad X (41, 1, wp4))), (5, vi s'.1), (6, vi s'.2)] [] I) (hx : ∀ x, u = .inr x → zW X T mX11_sum 92 [(5, vi x.1)] [] I) : zW X T mX11_sum 83 [(0, .ref (zad X (0, 0, 0))), (2, vi v2), (4, .ref (zad X (41, 1, wp4))), (6, vi w6)] [vi k0, vi k1] I := by
  unfold fX11_sum_b43_83 at hf
  refine zW_iadd dX11_sum_83 ?_
  refine zF_istore (lv' := fun a7 => [(5, vi a7), (0, .ref (zad X (0, 0, 0))), (2, vi v2), (4, .ref (zad X (41, 1, wp4))), (6, vi w6)]) dX11_sum_84 hf (fun _ => rfl) rfl (fun a7 hf => ?_)
  refine zW_iinc 4 (lv' := [(6, vi (w6 + 1)), (5, vi a7), (0, .ref (zad X (0, 0, 0))), (2, vi v2), (4, .ref (zad X (41, 1, wp4)))]) dX11_sum_86 rfl rfl rfl ?_
  refine zW_goto 43 dX11_sum_89 rfl ?_
  refine zW_sub [2, 3, 4, 1, 0] rfl ?_
  exact hk _ (Option.some.inj hf).symm
set_option maxRecDepth 100000 in
theorem tX11_sum_l43_y {X : zX} {e : Nat → Prop} (hw : zWf X e) {T : zT} {v1 : Int} {v2 : Int} {I : zMem} {wp4 : Nat} (o : zOk e (0, 0, 0)) (h1 : e 1) (wo4 : zOk e (41, 1, wp4)) (s : (Int × Int)) {u : ((Int × Int) ⊕ (Int × Int))} (hf : fX11_sum_l43 v1 v2 I wp4 s = some u) (hk : ∀ s', u = .inl s' → zW X T mX11_sum 43 [(0, .ref (zad X (0, 0, 0))), (2, vi v2), (4, .ref (zad X (41, 1, wp4))), (5, vi s'.1), (6, vi s'.2)] [] I) (hx : ∀ x, u = .inr x → zW X T mX11_sum 92 [(5, vi x.1)] [] I) : zW X T mX11_sum 43 [(0, .ref (zad X (0, 0, 0))), (2, vi v2), (4, .ref (zad X (41, 1, wp4))), (5, vi s.1), (6, vi s.2)] [] I := by
  unfold fX11_sum_l43 at hf
  refine zW_iload 4 dX11_sum_43 rfl ?_
  refine zW_bipush dX11_sum_45 rfl ?_
  refine zF_icmp_ge 92 dX11_sum_47 rfl rfl (w32_lit _ rfl) hf (fun c hf => ?_) (fun c hf => ?_)
  · refine zW_sub [3] rfl ?_
    exact hx _ (Option.some.inj hf).symm
  · refine zW_iload 3 dX11_sum_50 rfl ?_
    refine zW_aload_n 0 dX11_sum_52 rfl ?_
    refine zW_getR (q' := (1, 0, 0)) lk_RX11_12 (hw.1 _ o) rfl rfl (hw.2.1 _ _ _ o rfl) dX11_sum_53 ?_
    refine zW_getR (q' := (16, 0, 0)) lk_RX11_91 (hw.1 _ (zokA (r' := 1) o rfl rfl)) rfl rfl (hw.2.1 _ _ _ (zokA (r' := 1) o rfl rfl) rfl) dX11_sum_56 ?_
    refine zW_iload_n 1 dX11_sum_59 rfl ?_
    obtain ⟨c4, hf⟩ := zgd hf
    refine zF_lald (hw.1 _ (zokA (r' := 16) (zokA (r' := 1) o rfl rfl) rfl rfl)) rfl c4 rfl dX11_sum_60 ?_
    refine zW_iload 4 dX11_sum_61 rfl ?_
    refine zC_Sri (As := [vl (I (16, 0, 0) (ix v2)), vi s.2]) (fun x hx => kX1_isOne hw (v0 := I (16, 0, 0) (ix v2)) (v2 := s.2)  hx) ms_RX11_159 rfl rfl rfl rfl dX11_sum_63 hf (fun r5 hf => ?_)
    refine zF_if_eq 77 dX11_sum_66 rfl rfl hf (fun c hf => ?_) (fun c hf => ?_)
    · refine zW_aload 2 dX11_sum_77 rfl ?_
      refine zW_iload 4 dX11_sum_79 rfl ?_
      obtain ⟨c6, hf⟩ := zgd hf
      refine zF_iald (hw.1 _ wo4) rfl c6 rfl dX11_sum_81 ?_
      refine zW_ineg dX11_sum_82 ?_
      refine zW_sub [0, 1, 2, 4] rfl ?_
      exact tX11_sum_b43_83 hw o h1 wo4 hf hk hx
    · refine zW_aload 2 dX11_sum_69 rfl ?_
      refine zW_iload 4 dX11_sum_71 rfl ?_
      obtain ⟨c8, hf⟩ := zgd hf
      refine zF_iald (hw.1 _ wo4) rfl c8 rfl dX11_sum_73 ?_
      refine zW_goto 83 dX11_sum_74 rfl ?_
      refine zW_sub [0, 1, 2, 4] rfl ?_
      exact tX11_sum_b43_83 hw o h1 wo4 hf hk hx
theorem tX11_sum_l43 {X : zX} {e : Nat → Prop} (hw : zWf X e) {T : zT} {v1 : Int} {v2 : Int} {I : zMem} {wp4 : Nat} (o : zOk e (0, 0, 0)) (h1 : e 1) (wo4 : zOk e (41, 1, wp4)) {s0 : (Int × Int)} {α : Type} {F : (Int × Int) → Option α} {u : α} (hf : zb (zlp (fX11_sum_l43 v1 v2 I wp4) 5000 s0) F = some u) (kx : ∀ x, F x = some u → zW X T mX11_sum 92 [(5, vi x.1)] [] I) : zW X T mX11_sum 43 [(0, .ref (zad X (0, 0, 0))), (2, vi v2), (4, .ref (zad X (41, 1, wp4))), (5, vi s0.1), (6, vi s0.2)] [] I := by
  obtain ⟨x, h, hf⟩ := zb_inv hf
  exact zlp_W (P := fun s => zW X T mX11_sum 43 [(0, .ref (zad X (0, 0, 0))), (2, vi v2), (4, .ref (zad X (41, 1, wp4))), (5, vi s.1), (6, vi s.2)] [] I) (E := fun x => zW X T mX11_sum 92 [(5, vi x.1)] [] I) (fun s u h hk hx => tX11_sum_l43_y hw o h1 wo4 s h hk hx) _ s0 x h (kx x hf)
set_option maxRecDepth 100000 in
theorem tX11_sum_0 {X : zX} {e : Nat → Prop} (hw : zWf X e) {v1 : Int} {v2 : Int} (o : zOk e (0, 0, 0)) (h1 : e 1) {I : zMem} {u : Int} (hf : fX11_sum v1 v2 I = some u) : zW X (some (vi u), I) mX11_sum 0 [(0, .ref (zad X (0, 0, 0))), (1, vi v1), (2, vi v2)] [] I := by
  unfold fX11_sum at hf
  refine zW_aload_n 0 dX11_sum_0 rfl ?_
  refine zW_iload_n 1 dX11_sum_1 rfl ?_
  refine zW_iload_n 2 dX11_sum_2 rfl ?_
  refine zC_Sri (As := [vi v2]) (fun x hx => kX11_isWord hw (v0 := v2)  hx) ms_RX11_83 rfl rfl rfl rfl dX11_sum_3 hf (fun r1 hf => ?_)
  refine zC_Vri (As := [vi v1, vi r1]) (fun x hx => kX11_refuseEarAnd hw (v1 := v1) (v2 := r1) o h1 hx) mv_RX11_364 (hw.1 _ o) rfl rfl rfl rfl rfl dX11_sum_6 hf (fun r2 hf => ?_)
  refine zW_istore_n (lv' := [(3, vi r2), (0, .ref (zad X (0, 0, 0))), (1, vi v1), (2, vi v2)]) dX11_sum_9 rfl rfl ?_
  refine zW_iload_n 0 dX11_sum_10 rfl ?_
  refine zF_if_eq 20 dX11_sum_11 rfl rfl hf (fun c hf => ?_) (fun c hf => ?_)
  · refine zW_aload_n 1 dX11_sum_20 rfl ?_
    refine zW_getR (q' := (7, 1, 0)) lk_RX11_56 (hw.1 _ o) rfl rfl (hw.2.1 _ _ _ o rfl) dX11_sum_21 ?_
    refine zW_getR (q' := (9, 1, 0)) lk_RX11_246 (hw.1 _ (zok1 (r' := 7) h1 rfl)) rfl rfl (hw.2.1 _ _ _ (zok1 (r' := 7) h1 rfl) rfl) dX11_sum_24 ?_
    refine zW_getR (q' := (38, 1, 0)) lk_RX11_324 (hw.1 _ (zokB (r' := 9) (zok1 (r' := 7) h1 rfl) rfl rfl)) rfl rfl (hw.2.1 _ _ _ (zokB (r' := 9) (zok1 (r' := 7) h1 rfl) rfl rfl) rfl) dX11_sum_27 ?_
    refine zW_iload_n 2 dX11_sum_30 rfl ?_
    obtain ⟨c3, hf⟩ := zgd hf
    refine zW_aald (q' := (11, 1, ix v1)) 4 rfl rfl (hw.1 _ (zokB (r' := 38) (zokB (r' := 9) (zok1 (r' := 7) h1 rfl) rfl rfl) rfl rfl)) rfl rfl c3 (hw.2.1 _ _ _ (zokB (r' := 38) (zokB (r' := 9) (zok1 (r' := 7) h1 rfl) rfl rfl) rfl rfl) rfl) dX11_sum_31 ?_
    refine zW_getR (q' := (41, 1, ix v1)) lk_RX11_333 (hw.1 _ (zokE (r' := 11) (zokB (r' := 38) (zokB (r' := 9) (zok1 (r' := 7) h1 rfl) rfl rfl) rfl rfl) rfl rfl c3)) rfl rfl (hw.2.1 _ _ _ (zokE (r' := 11) (zokB (r' := 38) (zokB (r' := 9) (zok1 (r' := 7) h1 rfl) rfl rfl) rfl rfl) rfl rfl c3) rfl) dX11_sum_32 ?_
    refine zW_astore (lv' := [(4, .ref (zad X (41, 1, ix v1))), (3, vi r2), (0, .ref (zad X (0, 0, 0))), (1, vi v1), (2, vi v2)]) dX11_sum_35 rfl rfl ?_
    refine zW_iconst dX11_sum_37 ?_
    refine zW_istore (lv' := [(5, vi 0), (4, .ref (zad X (41, 1, ix v1))), (3, vi r2), (0, .ref (zad X (0, 0, 0))), (1, vi v1), (2, vi v2)]) dX11_sum_38 rfl rfl ?_
    refine zW_iconst dX11_sum_40 ?_
    refine zW_istore (lv' := [(6, vi 0), (5, vi 0), (4, .ref (zad X (41, 1, ix v1))), (3, vi r2), (0, .ref (zad X (0, 0, 0))), (1, vi v1), (2, vi v2)]) dX11_sum_41 rfl rfl ?_
    refine zW_sub [4, 6, 2, 1, 0] rfl ?_
    refine tX11_sum_l43 hw o h1 (zokC (r' := 41) (zokE (r' := 11) (zokB (r' := 38) (zokB (r' := 9) (zok1 (r' := 7) h1 rfl) rfl rfl) rfl rfl) rfl rfl c3) rfl rfl) (s0 := (0, 0)) hf (fun x9 hf => ?_)
    refine zW_iload 0 dX11_sum_92 rfl ?_
    exact zS_i hw rfl dX11_sum_94 hf
  · refine zW_ldcw dX11_sum_14 wc_RX11_356 ?_
    refine zW_iload_n 0 dX11_sum_17 rfl ?_
    refine zW_iadd dX11_sum_18 ?_
    exact zS_i hw rfl dX11_sum_19 hf
theorem kX11_sum {X : zX} {e : Nat → Prop} (hw : zWf X e) {v1 : Int} {v2 : Int} (o : zOk e (0, 0, 0)) (h1 : e 1) {I : zMem} {u : Int} (hf : fX11_sum v1 v2 I = some u) : zCn X mX11_sum yX11_sum [.ref (zad X (0, 0, 0)), vi v1, vi v2] I (some (vi u), I) := zCn_of (by decide +kernel) rfl rfl ⟨rfl, rfl⟩ (tX11_sum_0 hw.N o h1 hf)
set_option maxRecDepth 100000 in
theorem tX11_margin_0 {X : zX} {e : Nat → Prop} (hw : zWf X e) {v1 : Int} (o : zOk e (0, 0, 0)) (h1 : e 1) {I : zMem} {u : (Int × zMem)} (hf : fX11_margin v1 I = some u) : zW X (some (vi u.1), u.2) mX11_margin 0 [(0, .ref (zad X (0, 0, 0))), (1, vi v1)] [] I := by
  unfold fX11_margin at hf
  refine zW_aload_n 0 dX11_margin_0 rfl ?_
  refine zW_iload_n 1 dX11_margin_1 rfl ?_
  refine zC_Vri (As := [vi v1]) (fun x hx => kX11_refuseEar hw (v1 := v1) o h1 hx) mv_RX11_353 (hw.1 _ o) rfl rfl rfl rfl rfl dX11_margin_2 hf (fun r1 hf => ?_)
  refine zW_istore_n (lv' := [(2, vi r1), (0, .ref (zad X (0, 0, 0))), (1, vi v1)]) dX11_margin_5 rfl rfl ?_
  refine zW_iload_n 0 dX11_margin_6 rfl ?_
  refine zF_if_eq 12 dX11_margin_7 rfl rfl hf (fun c hf => ?_) (fun c hf => ?_)
  · refine zW_aload_n 1 dX11_margin_12 rfl ?_
    refine zW_getR (q' := (4, 0, 0)) lk_RX11_33 (hw.1 _ o) rfl rfl (hw.2.1 _ _ _ o rfl) dX11_margin_13 ?_
    refine zW_aload_n 1 dX11_margin_16 rfl ?_
    refine zW_getR (q' := (7, 1, 0)) lk_RX11_56 (hw.1 _ o) rfl rfl (hw.2.1 _ _ _ o rfl) dX11_margin_17 ?_
    refine zW_getR (q' := (9, 1, 0)) lk_RX11_246 (hw.1 _ (zok1 (r' := 7) h1 rfl)) rfl rfl (hw.2.1 _ _ _ (zok1 (r' := 7) h1 rfl) rfl) dX11_margin_20 ?_
    refine zW_getR (q' := (38, 1, 0)) lk_RX11_324 (hw.1 _ (zokB (r' := 9) (zok1 (r' := 7) h1 rfl) rfl rfl)) rfl rfl (hw.2.1 _ _ _ (zokB (r' := 9) (zok1 (r' := 7) h1 rfl) rfl rfl) rfl) dX11_margin_23 ?_
    refine zW_iload_n 2 dX11_margin_26 rfl ?_
    obtain ⟨c2, hf⟩ := zgd hf
    refine zW_aald (q' := (11, 1, ix v1)) 4 rfl rfl (hw.1 _ (zokB (r' := 38) (zokB (r' := 9) (zok1 (r' := 7) h1 rfl) rfl rfl) rfl rfl)) rfl rfl c2 (hw.2.1 _ _ _ (zokB (r' := 38) (zokB (r' := 9) (zok1 (r' := 7) h1 rfl) rfl rfl) rfl rfl) rfl) dX11_margin_27 ?_
    refine zW_getR (q' := (41, 1, ix v1)) lk_RX11_333 (hw.1 _ (zokE (r' := 11) (zokB (r' := 38) (zokB (r' := 9) (zok1 (r' := 7) h1 rfl) rfl rfl) rfl rfl) rfl rfl c2)) rfl rfl (hw.2.1 _ _ _ (zokE (r' := 11) (zokB (r' := 38) (zokB (r' := 9) (zok1 (r' := 7) h1 rfl) rfl rfl) rfl rfl) rfl rfl c2) rfl) dX11_margin_28 ?_
    refine zC_Vwv (As := [.ref (zad X (41, 1, ix v1))]) (fun x hx => kX2_sumAll hw (q1 := (41, 1, ix v1)) (zokA (r' := 4) o rfl rfl) (hw.1 _ (zokC (r' := 41) (zokE (r' := 11) (zokB (r' := 38) (zokB (r' := 9) (zok1 (r' := 7) h1 rfl) rfl rfl) rfl rfl) rfl rfl c2) rfl rfl)) rfl hx) mv_RX11_368 (hw.1 _ (zokA (r' := 4) o rfl rfl)) rfl rfl rfl rfl rfl dX11_margin_31 hf (fun r3 hf => ?_)
    refine zW_aload_n 1 dX11_margin_34 rfl ?_
    refine zW_getR (q' := (4, 0, 0)) lk_RX11_33 (hw.1 _ o) rfl rfl (hw.2.1 _ _ _ o rfl) dX11_margin_35 ?_
    refine zW_iconst dX11_margin_38 ?_
    refine zC_Vri (As := [vi (-1)]) (fun x hx => kX2_greatestBut hw (v1 := (-1)) (zokA (r' := 4) o rfl rfl) hx) mv_RX11_371 (hw.1 _ (zokA (r' := 4) o rfl rfl)) rfl rfl rfl rfl rfl dX11_margin_39 hf (fun r4 hf => ?_)
    refine zW_istore_n (lv' := [(3, vi r4), (2, vi r1), (0, .ref (zad X (0, 0, 0))), (1, vi v1)]) dX11_margin_42 rfl rfl ?_
    refine zW_aload_n 2 dX11_margin_43 rfl ?_
    refine zW_getR (q' := (4, 0, 0)) lk_RX11_33 (hw.1 _ o) rfl rfl (hw.2.1 _ _ _ o rfl) dX11_margin_44 ?_
    refine zW_getR (q' := (23, 0, 0)) lk_RX11_374 (hw.1 _ (zokA (r' := 4) o rfl rfl)) rfl rfl (hw.2.1 _ _ _ (zokA (r' := 4) o rfl rfl) rfl) dX11_margin_47 ?_
    refine zW_iload_n 0 dX11_margin_50 rfl ?_
    obtain ⟨c5, hf⟩ := zgd hf
    refine zF_iald (hw.1 _ (zokA (r' := 23) (zokA (r' := 4) o rfl rfl) rfl rfl)) rfl c5 rfl dX11_margin_51 ?_
    refine zW_aload_n 2 dX11_margin_52 rfl ?_
    refine zW_getR (q' := (4, 0, 0)) lk_RX11_33 (hw.1 _ o) rfl rfl (hw.2.1 _ _ _ o rfl) dX11_margin_53 ?_
    refine zW_getR (q' := (23, 0, 0)) lk_RX11_374 (hw.1 _ (zokA (r' := 4) o rfl rfl)) rfl rfl (hw.2.1 _ _ _ (zokA (r' := 4) o rfl rfl) rfl) dX11_margin_56 ?_
    refine zW_aload_n 2 dX11_margin_59 rfl ?_
    refine zW_getR (q' := (4, 0, 0)) lk_RX11_33 (hw.1 _ o) rfl rfl (hw.2.1 _ _ _ o rfl) dX11_margin_60 ?_
    refine zW_iload_n 0 dX11_margin_63 rfl ?_
    refine zC_Vri (As := [vi r4]) (fun x hx => kX2_greatestBut hw (v1 := r4) (zokA (r' := 4) o rfl rfl) hx) mv_RX11_371 (hw.1 _ (zokA (r' := 4) o rfl rfl)) rfl rfl rfl rfl rfl dX11_margin_64 hf (fun r6 hf => ?_)
    obtain ⟨c7, hf⟩ := zgd hf
    refine zF_iald (hw.1 _ (zokA (r' := 23) (zokA (r' := 4) o rfl rfl) rfl rfl)) rfl c7 rfl dX11_margin_67 ?_
    refine zW_isub dX11_margin_68 ?_
    exact zR_i hw rfl dX11_margin_69 hf
  · refine zW_iload_n 0 dX11_margin_10 rfl ?_
    exact zR_i hw rfl dX11_margin_11 hf
theorem kX11_margin {X : zX} {e : Nat → Prop} (hw : zWf X e) {v1 : Int} (o : zOk e (0, 0, 0)) (h1 : e 1) {I : zMem} {u : (Int × zMem)} (hf : fX11_margin v1 I = some u) : zCn X mX11_margin yX11_margin [.ref (zad X (0, 0, 0)), vi v1] I (some (vi u.1), u.2) := zCn_of (by decide +kernel) rfl rfl ⟨rfl, rfl⟩ (tX11_margin_0 hw.N o h1 hf)
set_option maxRecDepth 100000 in
theorem tX11_second_0 {X : zX} {e : Nat → Prop} (hw : zWf X e) {v1 : Int} (o : zOk e (0, 0, 0)) (h1 : e 1) {I : zMem} {u : (Int × zMem)} (hf : fX11_second v1 I = some u) : zW X (some (vi u.1), u.2) mX11_second 0 [(0, .ref (zad X (0, 0, 0))), (1, vi v1)] [] I := by
  unfold fX11_second at hf
  refine zW_aload_n 0 dX11_second_0 rfl ?_
  refine zW_iload_n 1 dX11_second_1 rfl ?_
  refine zC_Vri (As := [vi v1]) (fun x hx => kX11_refuseEar hw (v1 := v1) o h1 hx) mv_RX11_353 (hw.1 _ o) rfl rfl rfl rfl rfl dX11_second_2 hf (fun r1 hf => ?_)
  refine zW_istore_n (lv' := [(2, vi r1), (0, .ref (zad X (0, 0, 0))), (1, vi v1)]) dX11_second_5 rfl rfl ?_
  refine zW_iload_n 0 dX11_second_6 rfl ?_
  refine zF_if_eq 12 dX11_second_7 rfl rfl hf (fun c hf => ?_) (fun c hf => ?_)
  · refine zW_aload_n 1 dX11_second_12 rfl ?_
    refine zW_getR (q' := (4, 0, 0)) lk_RX11_33 (hw.1 _ o) rfl rfl (hw.2.1 _ _ _ o rfl) dX11_second_13 ?_
    refine zW_aload_n 1 dX11_second_16 rfl ?_
    refine zW_getR (q' := (7, 1, 0)) lk_RX11_56 (hw.1 _ o) rfl rfl (hw.2.1 _ _ _ o rfl) dX11_second_17 ?_
    refine zW_getR (q' := (9, 1, 0)) lk_RX11_246 (hw.1 _ (zok1 (r' := 7) h1 rfl)) rfl rfl (hw.2.1 _ _ _ (zok1 (r' := 7) h1 rfl) rfl) dX11_second_20 ?_
    refine zW_getR (q' := (38, 1, 0)) lk_RX11_324 (hw.1 _ (zokB (r' := 9) (zok1 (r' := 7) h1 rfl) rfl rfl)) rfl rfl (hw.2.1 _ _ _ (zokB (r' := 9) (zok1 (r' := 7) h1 rfl) rfl rfl) rfl) dX11_second_23 ?_
    refine zW_iload_n 2 dX11_second_26 rfl ?_
    obtain ⟨c2, hf⟩ := zgd hf
    refine zW_aald (q' := (11, 1, ix v1)) 4 rfl rfl (hw.1 _ (zokB (r' := 38) (zokB (r' := 9) (zok1 (r' := 7) h1 rfl) rfl rfl) rfl rfl)) rfl rfl c2 (hw.2.1 _ _ _ (zokB (r' := 38) (zokB (r' := 9) (zok1 (r' := 7) h1 rfl) rfl rfl) rfl rfl) rfl) dX11_second_27 ?_
    refine zW_getR (q' := (41, 1, ix v1)) lk_RX11_333 (hw.1 _ (zokE (r' := 11) (zokB (r' := 38) (zokB (r' := 9) (zok1 (r' := 7) h1 rfl) rfl rfl) rfl rfl) rfl rfl c2)) rfl rfl (hw.2.1 _ _ _ (zokE (r' := 11) (zokB (r' := 38) (zokB (r' := 9) (zok1 (r' := 7) h1 rfl) rfl rfl) rfl rfl) rfl rfl c2) rfl) dX11_second_28 ?_
    refine zC_Vwv (As := [.ref (zad X (41, 1, ix v1))]) (fun x hx => kX2_sumAll hw (q1 := (41, 1, ix v1)) (zokA (r' := 4) o rfl rfl) (hw.1 _ (zokC (r' := 41) (zokE (r' := 11) (zokB (r' := 38) (zokB (r' := 9) (zok1 (r' := 7) h1 rfl) rfl rfl) rfl rfl) rfl rfl c2) rfl rfl)) rfl hx) mv_RX11_368 (hw.1 _ (zokA (r' := 4) o rfl rfl)) rfl rfl rfl rfl rfl dX11_second_31 hf (fun r3 hf => ?_)
    refine zW_aload_n 1 dX11_second_34 rfl ?_
    refine zW_getR (q' := (4, 0, 0)) lk_RX11_33 (hw.1 _ o) rfl rfl (hw.2.1 _ _ _ o rfl) dX11_second_35 ?_
    refine zW_aload_n 1 dX11_second_38 rfl ?_
    refine zW_getR (q' := (4, 0, 0)) lk_RX11_33 (hw.1 _ o) rfl rfl (hw.2.1 _ _ _ o rfl) dX11_second_39 ?_
    refine zW_iconst dX11_second_42 ?_
    refine zC_Vri (As := [vi (-1)]) (fun x hx => kX2_greatestBut hw (v1 := (-1)) (zokA (r' := 4) o rfl rfl) hx) mv_RX11_371 (hw.1 _ (zokA (r' := 4) o rfl rfl)) rfl rfl rfl rfl rfl dX11_second_43 hf (fun r4 hf => ?_)
    refine zC_Vri (As := [vi r4]) (fun x hx => kX2_greatestBut hw (v1 := r4) (zokA (r' := 4) o rfl rfl) hx) mv_RX11_371 (hw.1 _ (zokA (r' := 4) o rfl rfl)) rfl rfl rfl rfl rfl dX11_second_46 hf (fun r5 hf => ?_)
    exact zR_i hw rfl dX11_second_49 hf
  · refine zW_iload_n 0 dX11_second_10 rfl ?_
    exact zR_i hw rfl dX11_second_11 hf
theorem kX11_second {X : zX} {e : Nat → Prop} (hw : zWf X e) {v1 : Int} (o : zOk e (0, 0, 0)) (h1 : e 1) {I : zMem} {u : (Int × zMem)} (hf : fX11_second v1 I = some u) : zCn X mX11_second yX11_second [.ref (zad X (0, 0, 0)), vi v1] I (some (vi u.1), u.2) := zCn_of (by decide +kernel) rfl rfl ⟨rfl, rfl⟩ (tX11_second_0 hw.N o h1 hf)
set_option maxRecDepth 100000 in
theorem tX11_lean_b17 {X : zX} {e : Nat → Prop} (hw : zWf X e) {v1 : Int} {v2 : Int} {k0 : Int} {k1 : Int} {I : zMem} (o : zOk e (0, 0, 0)) (h1 : e 1) (ko2 : zOk e (0, 0, 0)) {u : (Int × zMem)} (hf : fX11_lean_b17 v1 v2 k0 k1 I = some u) : zW X (some (vi u.1), u.2) mX11_lean 17 [(0, .ref (zad X (0, 0, 0))), (1, vi v1), (2, vi v2)] [vi k0, vi k1, .ref (zad X (0, 0, 0))] I := by
  unfold fX11_lean_b17 at hf
  refine zC_Vri (As := [vi k1, vi k0]) (fun x hx => kX11_refuseEarAnd hw (v1 := k1) (v2 := k0) ko2 h1 hx) mv_RX11_364 (hw.1 _ ko2) rfl rfl rfl rfl rfl dX11_lean_17 hf (fun r1 hf => ?_)
  refine zW_istore_n (lv' := [(3, vi r1), (0, .ref (zad X (0, 0, 0))), (1, vi v1), (2, vi v2)]) dX11_lean_20 rfl rfl ?_
  refine zW_iload_n 0 dX11_lean_21 rfl ?_
  refine zF_if_eq 31 dX11_lean_22 rfl rfl hf (fun c hf => ?_) (fun c hf => ?_)
  · refine zW_aload_n 1 dX11_lean_31 rfl ?_
    refine zW_getR (q' := (4, 0, 0)) lk_RX11_33 (hw.1 _ o) rfl rfl (hw.2.1 _ _ _ o rfl) dX11_lean_32 ?_
    refine zW_aload_n 1 dX11_lean_35 rfl ?_
    refine zW_getR (q' := (7, 1, 0)) lk_RX11_56 (hw.1 _ o) rfl rfl (hw.2.1 _ _ _ o rfl) dX11_lean_36 ?_
    refine zW_getR (q' := (9, 1, 0)) lk_RX11_246 (hw.1 _ (zok1 (r' := 7) h1 rfl)) rfl rfl (hw.2.1 _ _ _ (zok1 (r' := 7) h1 rfl) rfl) dX11_lean_39 ?_
    refine zW_getR (q' := (38, 1, 0)) lk_RX11_324 (hw.1 _ (zokB (r' := 9) (zok1 (r' := 7) h1 rfl) rfl rfl)) rfl rfl (hw.2.1 _ _ _ (zokB (r' := 9) (zok1 (r' := 7) h1 rfl) rfl rfl) rfl) dX11_lean_42 ?_
    refine zW_iload_n 2 dX11_lean_45 rfl ?_
    obtain ⟨c2, hf⟩ := zgd hf
    refine zW_aald (q' := (11, 1, ix v1)) 4 rfl rfl (hw.1 _ (zokB (r' := 38) (zokB (r' := 9) (zok1 (r' := 7) h1 rfl) rfl rfl) rfl rfl)) rfl rfl c2 (hw.2.1 _ _ _ (zokB (r' := 38) (zokB (r' := 9) (zok1 (r' := 7) h1 rfl) rfl rfl) rfl rfl) rfl) dX11_lean_46 ?_
    refine zW_getR (q' := (41, 1, ix v1)) lk_RX11_333 (hw.1 _ (zokE (r' := 11) (zokB (r' := 38) (zokB (r' := 9) (zok1 (r' := 7) h1 rfl) rfl rfl) rfl rfl) rfl rfl c2)) rfl rfl (hw.2.1 _ _ _ (zokE (r' := 11) (zokB (r' := 38) (zokB (r' := 9) (zok1 (r' := 7) h1 rfl) rfl rfl) rfl rfl) rfl rfl c2) rfl) dX11_lean_47 ?_
    refine zC_Vwv (As := [.ref (zad X (41, 1, ix v1))]) (fun x hx => kX2_sumAll hw (q1 := (41, 1, ix v1)) (zokA (r' := 4) o rfl rfl) (hw.1 _ (zokC (r' := 41) (zokE (r' := 11) (zokB (r' := 38) (zokB (r' := 9) (zok1 (r' := 7) h1 rfl) rfl rfl) rfl rfl) rfl rfl c2) rfl rfl)) rfl hx) mv_RX11_368 (hw.1 _ (zokA (r' := 4) o rfl rfl)) rfl rfl rfl rfl rfl dX11_lean_50 hf (fun r3 hf => ?_)
    refine zW_bipush dX11_lean_53 rfl ?_
    refine zW_iload_n 3 dX11_lean_55 rfl ?_
    refine zW_isub dX11_lean_56 ?_
    refine zF_istore (lv' := fun a4 => [(4, vi a4), (3, vi r1), (0, .ref (zad X (0, 0, 0))), (1, vi v1), (2, vi v2)]) dX11_lean_57 hf (fun _ => rfl) rfl (fun a4 hf => ?_)
    refine zW_aload_n 2 dX11_lean_59 rfl ?_
    refine zW_getR (q' := (4, 0, 0)) lk_RX11_33 (hw.1 _ o) rfl rfl (hw.2.1 _ _ _ o rfl) dX11_lean_60 ?_
    refine zW_iload 0 dX11_lean_63 rfl ?_
    refine zW_iconst dX11_lean_65 ?_
    refine zC_Vri (As := [vi a4, vi 1]) (fun x hx => kX2_greatestWith hw (v1 := a4) (v2 := 1) (zokA (r' := 4) o rfl rfl) hx) mv_RX11_377 (hw.1 _ (zokA (r' := 4) o rfl rfl)) rfl rfl rfl rfl rfl dX11_lean_66 hf (fun r5 hf => ?_)
    refine zW_aload_n 2 dX11_lean_69 rfl ?_
    refine zW_getR (q' := (4, 0, 0)) lk_RX11_33 (hw.1 _ o) rfl rfl (hw.2.1 _ _ _ o rfl) dX11_lean_70 ?_
    refine zW_iload 0 dX11_lean_73 rfl ?_
    refine zW_iconst dX11_lean_75 ?_
    refine zC_Vri (As := [vi a4, vi 0]) (fun x hx => kX2_greatestWith hw (v1 := a4) (v2 := 0) (zokA (r' := 4) o rfl rfl) hx) mv_RX11_377 (hw.1 _ (zokA (r' := 4) o rfl rfl)) rfl rfl rfl rfl rfl dX11_lean_76 hf (fun r6 hf => ?_)
    refine zW_isub dX11_lean_79 ?_
    exact zR_i hw rfl dX11_lean_80 hf
  · refine zW_ldcw dX11_lean_25 wc_RX11_356 ?_
    refine zW_iload_n 0 dX11_lean_28 rfl ?_
    refine zW_iadd dX11_lean_29 ?_
    exact zR_i hw rfl dX11_lean_30 hf
set_option maxRecDepth 100000 in
theorem tX11_lean_b16 {X : zX} {e : Nat → Prop} (hw : zWf X e) {v1 : Int} {v2 : Int} {k0 : Int} {I : zMem} (o : zOk e (0, 0, 0)) (h1 : e 1) (ko1 : zOk e (0, 0, 0)) {u : (Int × zMem)} (hf : fX11_lean_b16 v1 v2 k0 I = some u) : zW X (some (vi u.1), u.2) mX11_lean 16 [(0, .ref (zad X (0, 0, 0))), (1, vi v1), (2, vi v2)] [vi k0, .ref (zad X (0, 0, 0))] I := by
  unfold fX11_lean_b16 at hf
  refine zW_iconst dX11_lean_16 ?_
  refine zW_sub [0, 1, 2] rfl ?_
  exact tX11_lean_b17 hw o h1 ko1 hf
set_option maxRecDepth 100000 in
theorem tX11_lean_0 {X : zX} {e : Nat → Prop} (hw : zWf X e) {v1 : Int} {v2 : Int} (o : zOk e (0, 0, 0)) (h1 : e 1) {I : zMem} {u : (Int × zMem)} (hf : fX11_lean v1 v2 I = some u) : zW X (some (vi u.1), u.2) mX11_lean 0 [(0, .ref (zad X (0, 0, 0))), (1, vi v1), (2, vi v2)] [] I := by
  unfold fX11_lean at hf
  refine zW_aload_n 0 dX11_lean_0 rfl ?_
  refine zW_iload_n 1 dX11_lean_1 rfl ?_
  refine zW_iload_n 2 dX11_lean_2 rfl ?_
  refine zF_if_lt 16 dX11_lean_3 rfl rfl hf (fun c hf => ?_) (fun c hf => ?_)
  · refine zW_sub [0, 1, 2] rfl ?_
    exact tX11_lean_b16 hw o h1 o hf
  · refine zW_iload_n 2 dX11_lean_6 rfl ?_
    refine zW_bipush dX11_lean_7 rfl ?_
    refine zF_icmp_ge 16 dX11_lean_9 rfl rfl (w32_lit _ rfl) hf (fun c hf => ?_) (fun c hf => ?_)
    · refine zW_sub [0, 1, 2] rfl ?_
      exact tX11_lean_b16 hw o h1 o hf
    · refine zW_iconst dX11_lean_12 ?_
      refine zW_goto 17 dX11_lean_13 rfl ?_
      refine zW_sub [0, 1, 2] rfl ?_
      exact tX11_lean_b17 hw o h1 o hf
theorem kX11_lean {X : zX} {e : Nat → Prop} (hw : zWf X e) {v1 : Int} {v2 : Int} (o : zOk e (0, 0, 0)) (h1 : e 1) {I : zMem} {u : (Int × zMem)} (hf : fX11_lean v1 v2 I = some u) : zCn X mX11_lean yX11_lean [.ref (zad X (0, 0, 0)), vi v1, vi v2] I (some (vi u.1), u.2) := zCn_of (by decide +kernel) rfl rfl ⟨rfl, rfl⟩ (tX11_lean_0 hw.N o h1 hf)
set_option maxRecDepth 100000 in
theorem tX11_ties_b70_108 {X : zX} {e : Nat → Prop} (hw : zWf X e) {T : zT} {v1 : Int} {v2 : Int} {w4 : Int} {I : zMem} {w5 : Int} {w6 : Int} (o : zOk e (0, 0, 0)) (h1 : e 1) {u : ((Int × Int) ⊕ (Int × Int))} (hf : fX11_ties_b70_108 v1 v2 w4 I w5 w6 = some u) (hk : ∀ s', u = .inl s' → zW X T mX11_ties 70 [(0, .ref (zad X (0, 0, 0))), (2, vi v2), (4, vi w4), (5, vi s'.1), (6, vi s'.2)] [] I) (hx : ∀ x, u = .inr x → zW X T mX11_ties 114 [(5, vi x.1)] [] I) : zW X T mX11_ties 108 [(0, .ref (zad X (0, 0, 0))), (2, vi v2), (4, vi w4), (5, vi w5), (6, vi w6)] [] I := by
  unfold fX11_ties_b70_108 at hf
  refine zW_iinc 4 (lv' := [(6, vi (w6 + 1)), (0, .ref (zad X (0, 0, 0))), (2, vi v2), (4, vi w4), (5, vi w5)]) dX11_ties_108 rfl rfl rfl ?_
  refine zW_goto 70 dX11_ties_111 rfl ?_
  refine zW_sub [1, 2, 3, 4, 0] rfl ?_
  exact hk _ (Option.some.inj hf).symm
set_option maxRecDepth 100000 in
theorem tX11_ties_b70_105 {X : zX} {e : Nat → Prop} (hw : zWf X e) {T : zT} {v1 : Int} {v2 : Int} {w4 : Int} {I : zMem} {w5 : Int} {w6 : Int} (o : zOk e (0, 0, 0)) (h1 : e 1) {u : ((Int × Int) ⊕ (Int × Int))} (hf : fX11_ties_b70_105 v1 v2 w4 I w5 w6 = some u) (hk : ∀ s', u = .inl s' → zW X T mX11_ties 70 [(0, .ref (zad X (0, 0, 0))), (2, vi v2), (4, vi w4), (5, vi s'.1), (6, vi s'.2)] [] I) (hx : ∀ x, u = .inr x → zW X T mX11_ties 114 [(5, vi x.1)] [] I) : zW X T mX11_ties 105 [(0, .ref (zad X (0, 0, 0))), (2, vi v2), (4, vi w4), (5, vi w5), (6, vi w6)] [] I := by
  unfold fX11_ties_b70_105 at hf
  refine zW_iinc 3 (lv' := [(5, vi (w5 + 1)), (0, .ref (zad X (0, 0, 0))), (2, vi v2), (4, vi w4), (6, vi w6)]) dX11_ties_105 rfl rfl rfl ?_
  refine zW_sub [1, 2, 3, 0, 4] rfl ?_
  exact tX11_ties_b70_108 hw o h1 hf hk hx
set_option maxRecDepth 100000 in
theorem tX11_ties_l70_y {X : zX} {e : Nat → Prop} (hw : zWf X e) {T : zT} {v1 : Int} {v2 : Int} {w4 : Int} {I : zMem} (o : zOk e (0, 0, 0)) (h1 : e 1) (s : (Int × Int)) {u : ((Int × Int) ⊕ (Int × Int))} (hf : fX11_ties_l70 v1 v2 w4 I s = some u) (hk : ∀ s', u = .inl s' → zW X T mX11_ties 70 [(0, .ref (zad X (0, 0, 0))), (2, vi v2), (4, vi w4), (5, vi s'.1), (6, vi s'.2)] [] I) (hx : ∀ x, u = .inr x → zW X T mX11_ties 114 [(5, vi x.1)] [] I) : zW X T mX11_ties 70 [(0, .ref (zad X (0, 0, 0))), (2, vi v2), (4, vi w4), (5, vi s.1), (6, vi s.2)] [] I := by
  unfold fX11_ties_l70 at hf
  refine zW_iload 4 dX11_ties_70 rfl ?_
  refine zW_sipush dX11_ties_72 rfl ?_
  refine zF_icmp_ge 114 dX11_ties_75 rfl rfl (w32_lit _ rfl) hf (fun c hf => ?_) (fun c hf => ?_)
  · refine zW_sub [3] rfl ?_
    exact hx _ (Option.some.inj hf).symm
  · refine zW_aload_n 0 dX11_ties_78 rfl ?_
    refine zW_getR (q' := (4, 0, 0)) lk_RX11_33 (hw.1 _ o) rfl rfl (hw.2.1 _ _ _ o rfl) dX11_ties_79 ?_
    refine zW_getR (q' := (23, 0, 0)) lk_RX11_374 (hw.1 _ (zokA (r' := 4) o rfl rfl)) rfl rfl (hw.2.1 _ _ _ (zokA (r' := 4) o rfl rfl) rfl) dX11_ties_82 ?_
    refine zW_iload 4 dX11_ties_85 rfl ?_
    obtain ⟨c7, hf⟩ := zgd hf
    refine zF_iald (hw.1 _ (zokA (r' := 23) (zokA (r' := 4) o rfl rfl) rfl rfl)) rfl c7 rfl dX11_ties_87 ?_
    refine zW_iload 2 dX11_ties_88 rfl ?_
    refine zF_icmp_ne 108 dX11_ties_90 rfl rfl rfl hf (fun c hf => ?_) (fun c hf => ?_)
    · refine zW_iload_n 1 dX11_ties_93 rfl ?_
      refine zF_if_eq 105 dX11_ties_94 rfl rfl hf (fun c hf => ?_) (fun c hf => ?_)
      · refine zW_sub [0, 1, 2, 3, 4] rfl ?_
        exact tX11_ties_b70_105 hw o h1 hf hk hx
      · refine zW_iload 4 dX11_ties_97 rfl ?_
        refine zC_Sri (As := [vi s.2]) (fun x hx => kX1_isWhole hw (v0 := s.2)  hx) ms_RX11_86 rfl rfl rfl rfl dX11_ties_99 hf (fun r8 hf => ?_)
        refine zF_if_eq 108 dX11_ties_102 rfl rfl hf (fun c hf => ?_) (fun c hf => ?_)
        · refine zW_sub [0, 1, 2, 3, 4] rfl ?_
          exact tX11_ties_b70_108 hw o h1 hf hk hx
        · refine zW_sub [0, 1, 2, 3, 4] rfl ?_
          exact tX11_ties_b70_105 hw o h1 hf hk hx
    · refine zW_sub [0, 1, 2, 3, 4] rfl ?_
      exact tX11_ties_b70_108 hw o h1 hf hk hx
theorem tX11_ties_l70 {X : zX} {e : Nat → Prop} (hw : zWf X e) {T : zT} {v1 : Int} {v2 : Int} {w4 : Int} {I : zMem} (o : zOk e (0, 0, 0)) (h1 : e 1) {s0 : (Int × Int)} {α : Type} {F : (Int × Int) → Option α} {u : α} (hf : zb (zlp (fX11_ties_l70 v1 v2 w4 I) 5000 s0) F = some u) (kx : ∀ x, F x = some u → zW X T mX11_ties 114 [(5, vi x.1)] [] I) : zW X T mX11_ties 70 [(0, .ref (zad X (0, 0, 0))), (2, vi v2), (4, vi w4), (5, vi s0.1), (6, vi s0.2)] [] I := by
  obtain ⟨x, h, hf⟩ := zb_inv hf
  exact zlp_W (P := fun s => zW X T mX11_ties 70 [(0, .ref (zad X (0, 0, 0))), (2, vi v2), (4, vi w4), (5, vi s.1), (6, vi s.2)] [] I) (E := fun x => zW X T mX11_ties 114 [(5, vi x.1)] [] I) (fun s u h hk hx => tX11_ties_l70_y hw o h1 s h hk hx) _ s0 x h (kx x hf)
set_option maxRecDepth 100000 in
theorem tX11_ties_0 {X : zX} {e : Nat → Prop} (hw : zWf X e) {v1 : Int} {v2 : Int} (o : zOk e (0, 0, 0)) (h1 : e 1) {I : zMem} {u : (Int × zMem)} (hf : fX11_ties v1 v2 I = some u) : zW X (some (vi u.1), u.2) mX11_ties 0 [(0, .ref (zad X (0, 0, 0))), (1, vi v1), (2, vi v2)] [] I := by
  unfold fX11_ties at hf
  refine zW_iload_n 2 dX11_ties_0 rfl ?_
  refine zF_if_lt 9 dX11_ties_1 rfl rfl hf (fun c hf => ?_) (fun c hf => ?_)
  · refine zW_bipush dX11_ties_9 rfl ?_
    exact zR_i hw rfl dX11_ties_11 hf
  · refine zW_iload_n 2 dX11_ties_4 rfl ?_
    refine zW_iconst dX11_ties_5 ?_
    refine zF_icmp_le 12 dX11_ties_6 rfl rfl (w32_lit _ rfl) hf (fun c hf => ?_) (fun c hf => ?_)
    · refine zW_aload_n 0 dX11_ties_12 rfl ?_
      refine zW_iload_n 1 dX11_ties_13 rfl ?_
      refine zC_Vri (As := [vi v1]) (fun x hx => kX11_refuseEar hw (v1 := v1) o h1 hx) mv_RX11_353 (hw.1 _ o) rfl rfl rfl rfl rfl dX11_ties_14 hf (fun r1 hf => ?_)
      refine zW_istore_n (lv' := [(3, vi r1), (0, .ref (zad X (0, 0, 0))), (1, vi v1), (2, vi v2)]) dX11_ties_17 rfl rfl ?_
      refine zW_iload_n 0 dX11_ties_18 rfl ?_
      refine zF_if_eq 24 dX11_ties_19 rfl rfl hf (fun c hf => ?_) (fun c hf => ?_)
      · refine zW_aload_n 1 dX11_ties_24 rfl ?_
        refine zW_getR (q' := (4, 0, 0)) lk_RX11_33 (hw.1 _ o) rfl rfl (hw.2.1 _ _ _ o rfl) dX11_ties_25 ?_
        refine zW_aload_n 1 dX11_ties_28 rfl ?_
        refine zW_getR (q' := (7, 1, 0)) lk_RX11_56 (hw.1 _ o) rfl rfl (hw.2.1 _ _ _ o rfl) dX11_ties_29 ?_
        refine zW_getR (q' := (9, 1, 0)) lk_RX11_246 (hw.1 _ (zok1 (r' := 7) h1 rfl)) rfl rfl (hw.2.1 _ _ _ (zok1 (r' := 7) h1 rfl) rfl) dX11_ties_32 ?_
        refine zW_getR (q' := (38, 1, 0)) lk_RX11_324 (hw.1 _ (zokB (r' := 9) (zok1 (r' := 7) h1 rfl) rfl rfl)) rfl rfl (hw.2.1 _ _ _ (zokB (r' := 9) (zok1 (r' := 7) h1 rfl) rfl rfl) rfl) dX11_ties_35 ?_
        refine zW_iload_n 2 dX11_ties_38 rfl ?_
        obtain ⟨c2, hf⟩ := zgd hf
        refine zW_aald (q' := (11, 1, ix v1)) 4 rfl rfl (hw.1 _ (zokB (r' := 38) (zokB (r' := 9) (zok1 (r' := 7) h1 rfl) rfl rfl) rfl rfl)) rfl rfl c2 (hw.2.1 _ _ _ (zokB (r' := 38) (zokB (r' := 9) (zok1 (r' := 7) h1 rfl) rfl rfl) rfl rfl) rfl) dX11_ties_39 ?_
        refine zW_getR (q' := (41, 1, ix v1)) lk_RX11_333 (hw.1 _ (zokE (r' := 11) (zokB (r' := 38) (zokB (r' := 9) (zok1 (r' := 7) h1 rfl) rfl rfl) rfl rfl) rfl rfl c2)) rfl rfl (hw.2.1 _ _ _ (zokE (r' := 11) (zokB (r' := 38) (zokB (r' := 9) (zok1 (r' := 7) h1 rfl) rfl rfl) rfl rfl) rfl rfl c2) rfl) dX11_ties_40 ?_
        refine zC_Vwv (As := [.ref (zad X (41, 1, ix v1))]) (fun x hx => kX2_sumAll hw (q1 := (41, 1, ix v1)) (zokA (r' := 4) o rfl rfl) (hw.1 _ (zokC (r' := 41) (zokE (r' := 11) (zokB (r' := 38) (zokB (r' := 9) (zok1 (r' := 7) h1 rfl) rfl rfl) rfl rfl) rfl rfl c2) rfl rfl)) rfl hx) mv_RX11_368 (hw.1 _ (zokA (r' := 4) o rfl rfl)) rfl rfl rfl rfl rfl dX11_ties_43 hf (fun r3 hf => ?_)
        refine zW_aload_n 1 dX11_ties_46 rfl ?_
        refine zW_getR (q' := (4, 0, 0)) lk_RX11_33 (hw.1 _ o) rfl rfl (hw.2.1 _ _ _ o rfl) dX11_ties_47 ?_
        refine zW_getR (q' := (23, 0, 0)) lk_RX11_374 (hw.1 _ (zokA (r' := 4) o rfl rfl)) rfl rfl (hw.2.1 _ _ _ (zokA (r' := 4) o rfl rfl) rfl) dX11_ties_50 ?_
        refine zW_aload_n 1 dX11_ties_53 rfl ?_
        refine zW_getR (q' := (4, 0, 0)) lk_RX11_33 (hw.1 _ o) rfl rfl (hw.2.1 _ _ _ o rfl) dX11_ties_54 ?_
        refine zW_iconst dX11_ties_57 ?_
        refine zC_Vri (As := [vi (-1)]) (fun x hx => kX2_greatestBut hw (v1 := (-1)) (zokA (r' := 4) o rfl rfl) hx) mv_RX11_371 (hw.1 _ (zokA (r' := 4) o rfl rfl)) rfl rfl rfl rfl rfl dX11_ties_58 hf (fun r4 hf => ?_)
        obtain ⟨c5, hf⟩ := zgd hf
        refine zF_iald (hw.1 _ (zokA (r' := 23) (zokA (r' := 4) o rfl rfl) rfl rfl)) rfl c5 rfl dX11_ties_61 ?_
        refine zF_istore (lv' := fun a6 => [(4, vi a6), (3, vi r1), (0, .ref (zad X (0, 0, 0))), (1, vi v1), (2, vi v2)]) dX11_ties_62 hf (fun _ => rfl) rfl (fun a6 hf => ?_)
        refine zW_iconst dX11_ties_64 ?_
        refine zW_istore (lv' := [(5, vi 0), (4, vi a6), (3, vi r1), (0, .ref (zad X (0, 0, 0))), (1, vi v1), (2, vi v2)]) dX11_ties_65 rfl rfl ?_
        refine zW_iconst dX11_ties_67 ?_
        refine zW_istore (lv' := [(6, vi 0), (5, vi 0), (4, vi a6), (3, vi r1), (0, .ref (zad X (0, 0, 0))), (1, vi v1), (2, vi v2)]) dX11_ties_68 rfl rfl ?_
        refine zW_sub [4, 6, 2, 1, 0] rfl ?_
        refine tX11_ties_l70 hw o h1 (s0 := (0, 0)) hf (fun x9 hf => ?_)
        refine zW_iload 0 dX11_ties_114 rfl ?_
        exact zR_i hw rfl dX11_ties_116 hf
      · refine zW_iload_n 0 dX11_ties_22 rfl ?_
        exact zR_i hw rfl dX11_ties_23 hf
    · refine zW_bipush dX11_ties_9 rfl ?_
      exact zR_i hw rfl dX11_ties_11 hf
theorem kX11_ties {X : zX} {e : Nat → Prop} (hw : zWf X e) {v1 : Int} {v2 : Int} (o : zOk e (0, 0, 0)) (h1 : e 1) {I : zMem} {u : (Int × zMem)} (hf : fX11_ties v1 v2 I = some u) : zCn X mX11_ties yX11_ties [.ref (zad X (0, 0, 0)), vi v1, vi v2] I (some (vi u.1), u.2) := zCn_of (by decide +kernel) rfl rfl ⟨rfl, rfl⟩ (tX11_ties_0 hw.N o h1 hf)
set_option maxRecDepth 100000 in
theorem tX11_rank_b55_81 {X : zX} {e : Nat → Prop} (hw : zWf X e) {T : zT} {v1 : Int} {v2 : Int} {w4 : Int} {I : zMem} {w5 : Int} {w6 : Int} (o : zOk e (0, 0, 0)) (h1 : e 1) {u : ((Int × Int) ⊕ (Int × Int))} (hf : fX11_rank_b55_81 v1 v2 w4 I w5 w6 = some u) (hk : ∀ s', u = .inl s' → zW X T mX11_rank 55 [(0, .ref (zad X (0, 0, 0))), (4, vi w4), (5, vi s'.1), (6, vi s'.2)] [] I) (hx : ∀ x, u = .inr x → zW X T mX11_rank 87 [(5, vi x.1)] [] I) : zW X T mX11_rank 81 [(0, .ref (zad X (0, 0, 0))), (4, vi w4), (5, vi w5), (6, vi w6)] [] I := by
  unfold fX11_rank_b55_81 at hf
  refine zW_iinc 3 (lv' := [(6, vi (w6 + 1)), (0, .ref (zad X (0, 0, 0))), (4, vi w4), (5, vi w5)]) dX11_rank_81 rfl rfl rfl ?_
  refine zW_goto 55 dX11_rank_84 rfl ?_
  refine zW_sub [1, 2, 3, 0] rfl ?_
  exact hk _ (Option.some.inj hf).symm
set_option maxRecDepth 100000 in
theorem tX11_rank_l55_y {X : zX} {e : Nat → Prop} (hw : zWf X e) {T : zT} {v1 : Int} {v2 : Int} {w4 : Int} {I : zMem} (o : zOk e (0, 0, 0)) (h1 : e 1) (s : (Int × Int)) {u : ((Int × Int) ⊕ (Int × Int))} (hf : fX11_rank_l55 v1 v2 w4 I s = some u) (hk : ∀ s', u = .inl s' → zW X T mX11_rank 55 [(0, .ref (zad X (0, 0, 0))), (4, vi w4), (5, vi s'.1), (6, vi s'.2)] [] I) (hx : ∀ x, u = .inr x → zW X T mX11_rank 87 [(5, vi x.1)] [] I) : zW X T mX11_rank 55 [(0, .ref (zad X (0, 0, 0))), (4, vi w4), (5, vi s.1), (6, vi s.2)] [] I := by
  unfold fX11_rank_l55 at hf
  refine zW_iload 3 dX11_rank_55 rfl ?_
  refine zW_sipush dX11_rank_57 rfl ?_
  refine zF_icmp_ge 87 dX11_rank_60 rfl rfl (w32_lit _ rfl) hf (fun c hf => ?_) (fun c hf => ?_)
  · refine zW_sub [2] rfl ?_
    exact hx _ (Option.some.inj hf).symm
  · refine zW_aload_n 0 dX11_rank_63 rfl ?_
    refine zW_getR (q' := (4, 0, 0)) lk_RX11_33 (hw.1 _ o) rfl rfl (hw.2.1 _ _ _ o rfl) dX11_rank_64 ?_
    refine zW_getR (q' := (23, 0, 0)) lk_RX11_374 (hw.1 _ (zokA (r' := 4) o rfl rfl)) rfl rfl (hw.2.1 _ _ _ (zokA (r' := 4) o rfl rfl) rfl) dX11_rank_67 ?_
    refine zW_iload 3 dX11_rank_70 rfl ?_
    obtain ⟨c7, hf⟩ := zgd hf
    refine zF_iald (hw.1 _ (zokA (r' := 23) (zokA (r' := 4) o rfl rfl) rfl rfl)) rfl c7 rfl dX11_rank_72 ?_
    refine zW_iload 1 dX11_rank_73 rfl ?_
    refine zF_icmp_le 81 dX11_rank_75 rfl rfl rfl hf (fun c hf => ?_) (fun c hf => ?_)
    · refine zW_sub [0, 1, 2, 3] rfl ?_
      exact tX11_rank_b55_81 hw o h1 hf hk hx
    · refine zW_iinc 2 (lv' := [(5, vi (s.1 + 1)), (0, .ref (zad X (0, 0, 0))), (4, vi w4), (6, vi s.2)]) dX11_rank_78 rfl rfl rfl ?_
      refine zW_sub [1, 2, 0, 3] rfl ?_
      exact tX11_rank_b55_81 hw o h1 hf hk hx
theorem tX11_rank_l55 {X : zX} {e : Nat → Prop} (hw : zWf X e) {T : zT} {v1 : Int} {v2 : Int} {w4 : Int} {I : zMem} (o : zOk e (0, 0, 0)) (h1 : e 1) {s0 : (Int × Int)} {α : Type} {F : (Int × Int) → Option α} {u : α} (hf : zb (zlp (fX11_rank_l55 v1 v2 w4 I) 5000 s0) F = some u) (kx : ∀ x, F x = some u → zW X T mX11_rank 87 [(5, vi x.1)] [] I) : zW X T mX11_rank 55 [(0, .ref (zad X (0, 0, 0))), (4, vi w4), (5, vi s0.1), (6, vi s0.2)] [] I := by
  obtain ⟨x, h, hf⟩ := zb_inv hf
  exact zlp_W (P := fun s => zW X T mX11_rank 55 [(0, .ref (zad X (0, 0, 0))), (4, vi w4), (5, vi s.1), (6, vi s.2)] [] I) (E := fun x => zW X T mX11_rank 87 [(5, vi x.1)] [] I) (fun s u h hk hx => tX11_rank_l55_y hw o h1 s h hk hx) _ s0 x h (kx x hf)
set_option maxRecDepth 100000 in
theorem tX11_rank_0 {X : zX} {e : Nat → Prop} (hw : zWf X e) {v1 : Int} {v2 : Int} (o : zOk e (0, 0, 0)) (h1 : e 1) {I : zMem} {u : (Int × zMem)} (hf : fX11_rank v1 v2 I = some u) : zW X (some (vi u.1), u.2) mX11_rank 0 [(0, .ref (zad X (0, 0, 0))), (1, vi v1), (2, vi v2)] [] I := by
  unfold fX11_rank at hf
  refine zW_aload_n 0 dX11_rank_0 rfl ?_
  refine zW_iload_n 1 dX11_rank_1 rfl ?_
  refine zW_iload_n 2 dX11_rank_2 rfl ?_
  refine zC_Sri (As := [vi v2]) (fun x hx => kX11_isWord hw (v0 := v2)  hx) ms_RX11_83 rfl rfl rfl rfl dX11_rank_3 hf (fun r1 hf => ?_)
  refine zC_Vri (As := [vi v1, vi r1]) (fun x hx => kX11_refuseEarAnd hw (v1 := v1) (v2 := r1) o h1 hx) mv_RX11_364 (hw.1 _ o) rfl rfl rfl rfl rfl dX11_rank_6 hf (fun r2 hf => ?_)
  refine zW_istore_n (lv' := [(3, vi r2), (0, .ref (zad X (0, 0, 0))), (1, vi v1), (2, vi v2)]) dX11_rank_9 rfl rfl ?_
  refine zW_iload_n 0 dX11_rank_10 rfl ?_
  refine zF_if_eq 16 dX11_rank_11 rfl rfl hf (fun c hf => ?_) (fun c hf => ?_)
  · refine zW_aload_n 1 dX11_rank_16 rfl ?_
    refine zW_getR (q' := (4, 0, 0)) lk_RX11_33 (hw.1 _ o) rfl rfl (hw.2.1 _ _ _ o rfl) dX11_rank_17 ?_
    refine zW_aload_n 1 dX11_rank_20 rfl ?_
    refine zW_getR (q' := (7, 1, 0)) lk_RX11_56 (hw.1 _ o) rfl rfl (hw.2.1 _ _ _ o rfl) dX11_rank_21 ?_
    refine zW_getR (q' := (9, 1, 0)) lk_RX11_246 (hw.1 _ (zok1 (r' := 7) h1 rfl)) rfl rfl (hw.2.1 _ _ _ (zok1 (r' := 7) h1 rfl) rfl) dX11_rank_24 ?_
    refine zW_getR (q' := (38, 1, 0)) lk_RX11_324 (hw.1 _ (zokB (r' := 9) (zok1 (r' := 7) h1 rfl) rfl rfl)) rfl rfl (hw.2.1 _ _ _ (zokB (r' := 9) (zok1 (r' := 7) h1 rfl) rfl rfl) rfl) dX11_rank_27 ?_
    refine zW_iload_n 2 dX11_rank_30 rfl ?_
    obtain ⟨c3, hf⟩ := zgd hf
    refine zW_aald (q' := (11, 1, ix v1)) 4 rfl rfl (hw.1 _ (zokB (r' := 38) (zokB (r' := 9) (zok1 (r' := 7) h1 rfl) rfl rfl) rfl rfl)) rfl rfl c3 (hw.2.1 _ _ _ (zokB (r' := 38) (zokB (r' := 9) (zok1 (r' := 7) h1 rfl) rfl rfl) rfl rfl) rfl) dX11_rank_31 ?_
    refine zW_getR (q' := (41, 1, ix v1)) lk_RX11_333 (hw.1 _ (zokE (r' := 11) (zokB (r' := 38) (zokB (r' := 9) (zok1 (r' := 7) h1 rfl) rfl rfl) rfl rfl) rfl rfl c3)) rfl rfl (hw.2.1 _ _ _ (zokE (r' := 11) (zokB (r' := 38) (zokB (r' := 9) (zok1 (r' := 7) h1 rfl) rfl rfl) rfl rfl) rfl rfl c3) rfl) dX11_rank_32 ?_
    refine zC_Vwv (As := [.ref (zad X (41, 1, ix v1))]) (fun x hx => kX2_sumAll hw (q1 := (41, 1, ix v1)) (zokA (r' := 4) o rfl rfl) (hw.1 _ (zokC (r' := 41) (zokE (r' := 11) (zokB (r' := 38) (zokB (r' := 9) (zok1 (r' := 7) h1 rfl) rfl rfl) rfl rfl) rfl rfl c3) rfl rfl)) rfl hx) mv_RX11_368 (hw.1 _ (zokA (r' := 4) o rfl rfl)) rfl rfl rfl rfl rfl dX11_rank_35 hf (fun r4 hf => ?_)
    refine zW_aload_n 1 dX11_rank_38 rfl ?_
    refine zW_getR (q' := (4, 0, 0)) lk_RX11_33 (hw.1 _ o) rfl rfl (hw.2.1 _ _ _ o rfl) dX11_rank_39 ?_
    refine zW_getR (q' := (23, 0, 0)) lk_RX11_374 (hw.1 _ (zokA (r' := 4) o rfl rfl)) rfl rfl (hw.2.1 _ _ _ (zokA (r' := 4) o rfl rfl) rfl) dX11_rank_42 ?_
    refine zW_iload_n 3 dX11_rank_45 rfl ?_
    obtain ⟨c5, hf⟩ := zgd hf
    refine zF_iald (hw.1 _ (zokA (r' := 23) (zokA (r' := 4) o rfl rfl) rfl rfl)) rfl c5 rfl dX11_rank_46 ?_
    refine zF_istore (lv' := fun a6 => [(4, vi a6), (3, vi r2), (0, .ref (zad X (0, 0, 0))), (1, vi v1), (2, vi v2)]) dX11_rank_47 hf (fun _ => rfl) rfl (fun a6 hf => ?_)
    refine zW_iconst dX11_rank_49 ?_
    refine zW_istore (lv' := [(5, vi 0), (4, vi a6), (3, vi r2), (0, .ref (zad X (0, 0, 0))), (1, vi v1), (2, vi v2)]) dX11_rank_50 rfl rfl ?_
    refine zW_iconst dX11_rank_52 ?_
    refine zW_istore (lv' := [(6, vi 0), (5, vi 0), (4, vi a6), (3, vi r2), (0, .ref (zad X (0, 0, 0))), (1, vi v1), (2, vi v2)]) dX11_rank_53 rfl rfl ?_
    refine zW_sub [4, 2, 1, 0] rfl ?_
    refine tX11_rank_l55 hw o h1 (s0 := (0, 0)) hf (fun x8 hf => ?_)
    refine zW_iload 0 dX11_rank_87 rfl ?_
    exact zR_i hw rfl dX11_rank_89 hf
  · refine zW_iload_n 0 dX11_rank_14 rfl ?_
    exact zR_i hw rfl dX11_rank_15 hf
theorem kX11_rank {X : zX} {e : Nat → Prop} (hw : zWf X e) {v1 : Int} {v2 : Int} (o : zOk e (0, 0, 0)) (h1 : e 1) {I : zMem} {u : (Int × zMem)} (hf : fX11_rank v1 v2 I = some u) : zCn X mX11_rank yX11_rank [.ref (zad X (0, 0, 0)), vi v1, vi v2] I (some (vi u.1), u.2) := zCn_of (by decide +kernel) rfl rfl ⟨rfl, rfl⟩ (tX11_rank_0 hw.N o h1 hf)
set_option maxRecDepth 100000 in
theorem tX11_keyAt_b25_49 {X : zX} {e : Nat → Prop} (hw : zWf X e) {T : zT} {v1 : Int} {I : zMem} {w2 : Int} {w4 : Int} {w5 : Int} {w7 : Int} {w8 : Int} (o : zOk e (0, 0, 0)) (h1 : e 1) {u : ((Int × Int) ⊕ (Int × Int))} (hf : fX11_keyAt_b25_49 v1 I w2 w4 w5 w7 w8 = some u) (hk : ∀ s', u = .inl s' → zW X T mX11_keyAt 25 [(0, .ref (zad X (0, 0, 0))), (1, vi v1), (2, vl w2), (4, vi w4), (5, vl w5), (7, vi s'.1), (8, vi s'.2)] [] I) (hx : ∀ x, u = .inr x → zW X T mX11_keyAt 55 [(0, .ref (zad X (0, 0, 0))), (1, vi v1), (2, vl w2), (4, vi w4), (5, vl w5), (7, vi x.1)] [] I) : zW X T mX11_keyAt 49 [(0, .ref (zad X (0, 0, 0))), (1, vi v1), (2, vl w2), (4, vi w4), (5, vl w5), (7, vi w7), (8, vi w8)] [] I := by
  unfold fX11_keyAt_b25_49 at hf
  refine zW_iinc 6 (lv' := [(8, vi (w8 + 1)), (0, .ref (zad X (0, 0, 0))), (1, vi v1), (2, vl w2), (4, vi w4), (5, vl w5), (7, vi w7)]) dX11_keyAt_49 rfl rfl rfl ?_
  refine zW_goto 25 dX11_keyAt_52 rfl ?_
  refine zW_sub [1, 2, 3, 4, 5, 6, 0] rfl ?_
  exact hk _ (Option.some.inj hf).symm
set_option maxRecDepth 100000 in
theorem tX11_keyAt_l25_y {X : zX} {e : Nat → Prop} (hw : zWf X e) {T : zT} {v1 : Int} {I : zMem} {w2 : Int} {w4 : Int} {w5 : Int} (o : zOk e (0, 0, 0)) (h1 : e 1) (s : (Int × Int)) {u : ((Int × Int) ⊕ (Int × Int))} (hf : fX11_keyAt_l25 v1 I w2 w4 w5 s = some u) (hk : ∀ s', u = .inl s' → zW X T mX11_keyAt 25 [(0, .ref (zad X (0, 0, 0))), (1, vi v1), (2, vl w2), (4, vi w4), (5, vl w5), (7, vi s'.1), (8, vi s'.2)] [] I) (hx : ∀ x, u = .inr x → zW X T mX11_keyAt 55 [(0, .ref (zad X (0, 0, 0))), (1, vi v1), (2, vl w2), (4, vi w4), (5, vl w5), (7, vi x.1)] [] I) : zW X T mX11_keyAt 25 [(0, .ref (zad X (0, 0, 0))), (1, vi v1), (2, vl w2), (4, vi w4), (5, vl w5), (7, vi s.1), (8, vi s.2)] [] I := by
  unfold fX11_keyAt_l25 at hf
  refine zW_iload 6 dX11_keyAt_25 rfl ?_
  refine zW_sipush dX11_keyAt_27 rfl ?_
  refine zF_icmp_ge 55 dX11_keyAt_30 rfl rfl (w32_lit _ rfl) hf (fun c hf => ?_) (fun c hf => ?_)
  · refine zW_sub [0, 1, 2, 3, 4, 5] rfl ?_
    exact hx _ (Option.some.inj hf).symm
  · refine zW_aload_n 0 dX11_keyAt_33 rfl ?_
    refine zW_getR (q' := (15, 0, 0)) lk_RX11_71 (hw.1 _ o) rfl rfl (hw.2.1 _ _ _ o rfl) dX11_keyAt_34 ?_
    refine zW_iload 6 dX11_keyAt_37 rfl ?_
    obtain ⟨c2, hf⟩ := zgd hf
    refine zF_lald (hw.1 _ (zokA (r' := 15) o rfl rfl)) rfl c2 rfl dX11_keyAt_39 ?_
    refine zW_lload 4 dX11_keyAt_40 rfl ?_
    refine zF_lcmp_lt 49 dX11_keyAt_42 dX11_keyAt_43 rfl rfl rfl hf (fun c hf => ?_) (fun c hf => ?_)
    · refine zW_sub [0, 1, 2, 3, 4, 5, 6] rfl ?_
      exact tX11_keyAt_b25_49 hw o h1 hf hk hx
    · refine zW_iinc 5 (lv' := [(7, vi (s.1 + 1)), (0, .ref (zad X (0, 0, 0))), (1, vi v1), (2, vl w2), (4, vi w4), (5, vl w5), (8, vi s.2)]) dX11_keyAt_46 rfl rfl rfl ?_
      refine zW_sub [1, 2, 3, 4, 5, 0, 6] rfl ?_
      exact tX11_keyAt_b25_49 hw o h1 hf hk hx
theorem tX11_keyAt_l25 {X : zX} {e : Nat → Prop} (hw : zWf X e) {T : zT} {v1 : Int} {I : zMem} {w2 : Int} {w4 : Int} {w5 : Int} (o : zOk e (0, 0, 0)) (h1 : e 1) {s0 : (Int × Int)} {α : Type} {F : (Int × Int) → Option α} {u : α} (hf : zb (zlp (fX11_keyAt_l25 v1 I w2 w4 w5) 5000 s0) F = some u) (kx : ∀ x, F x = some u → zW X T mX11_keyAt 55 [(0, .ref (zad X (0, 0, 0))), (1, vi v1), (2, vl w2), (4, vi w4), (5, vl w5), (7, vi x.1)] [] I) : zW X T mX11_keyAt 25 [(0, .ref (zad X (0, 0, 0))), (1, vi v1), (2, vl w2), (4, vi w4), (5, vl w5), (7, vi s0.1), (8, vi s0.2)] [] I := by
  obtain ⟨x, h, hf⟩ := zb_inv hf
  exact zlp_W (P := fun s => zW X T mX11_keyAt 25 [(0, .ref (zad X (0, 0, 0))), (1, vi v1), (2, vl w2), (4, vi w4), (5, vl w5), (7, vi s.1), (8, vi s.2)] [] I) (E := fun x => zW X T mX11_keyAt 55 [(0, .ref (zad X (0, 0, 0))), (1, vi v1), (2, vl w2), (4, vi w4), (5, vl w5), (7, vi x.1)] [] I) (fun s u h hk hx => tX11_keyAt_l25_y hw o h1 s h hk hx) _ s0 x h (kx x hf)
set_option maxRecDepth 100000 in
theorem tX11_keyAt_b6_64 {X : zX} {e : Nat → Prop} (hw : zWf X e) {T : zT} {v1 : Int} {I : zMem} {w2 : Int} {w4 : Int} (o : zOk e (0, 0, 0)) (h1 : e 1) {u : ((Int × Int) ⊕ (Int × Int))} (hf : fX11_keyAt_b6_64 v1 I w2 w4 = some u) (hk : ∀ s', u = .inl s' → zW X T mX11_keyAt 6 [(0, .ref (zad X (0, 0, 0))), (1, vi v1), (2, vl s'.1), (4, vi s'.2)] [] I) (hx : ∀ x, u = .inr x → zW X T mX11_keyAt 70 [(2, vl x.1)] [] I) : zW X T mX11_keyAt 64 [(0, .ref (zad X (0, 0, 0))), (1, vi v1), (2, vl w2), (4, vi w4)] [] I := by
  unfold fX11_keyAt_b6_64 at hf
  refine zW_iinc 3 (lv' := [(4, vi (w4 + (-1))), (0, .ref (zad X (0, 0, 0))), (1, vi v1), (2, vl w2)]) dX11_keyAt_64 rfl rfl rfl ?_
  refine zW_goto 6 dX11_keyAt_67 rfl ?_
  refine zW_sub [1, 2, 3, 0] rfl ?_
  exact hk _ (Option.some.inj hf).symm
set_option maxRecDepth 100000 in
theorem tX11_keyAt_l6_y {X : zX} {e : Nat → Prop} (hw : zWf X e) {T : zT} {v1 : Int} {I : zMem} (o : zOk e (0, 0, 0)) (h1 : e 1) (s : (Int × Int)) {u : ((Int × Int) ⊕ (Int × Int))} (hf : fX11_keyAt_l6 v1 I s = some u) (hk : ∀ s', u = .inl s' → zW X T mX11_keyAt 6 [(0, .ref (zad X (0, 0, 0))), (1, vi v1), (2, vl s'.1), (4, vi s'.2)] [] I) (hx : ∀ x, u = .inr x → zW X T mX11_keyAt 70 [(2, vl x.1)] [] I) : zW X T mX11_keyAt 6 [(0, .ref (zad X (0, 0, 0))), (1, vi v1), (2, vl s.1), (4, vi s.2)] [] I := by
  unfold fX11_keyAt_l6 at hf
  refine zW_iload 3 dX11_keyAt_6 rfl ?_
  refine zF_if_lt 70 dX11_keyAt_8 rfl rfl hf (fun c hf => ?_) (fun c hf => ?_)
  · refine zW_sub [2] rfl ?_
    exact hx _ (Option.some.inj hf).symm
  · refine zW_lload_n 2 dX11_keyAt_11 rfl ?_
    refine zW_lconst1 dX11_keyAt_12 ?_
    refine zW_iload 3 dX11_keyAt_13 rfl ?_
    refine zW_lshl dX11_keyAt_15 ?_
    refine zW_lor dX11_keyAt_16 ?_
    refine zF_lstore (lv' := fun a1 => [(5, vl a1), (0, .ref (zad X (0, 0, 0))), (1, vi v1), (2, vl s.1), (4, vi s.2)]) dX11_keyAt_17 hf (fun _ => rfl) rfl (fun a1 hf => ?_)
    refine zW_iconst dX11_keyAt_19 ?_
    refine zW_istore (lv' := [(7, vi 0), (5, vl a1), (0, .ref (zad X (0, 0, 0))), (1, vi v1), (2, vl s.1), (4, vi s.2)]) dX11_keyAt_20 rfl rfl ?_
    refine zW_iconst dX11_keyAt_22 ?_
    refine zW_istore (lv' := [(8, vi 0), (7, vi 0), (5, vl a1), (0, .ref (zad X (0, 0, 0))), (1, vi v1), (2, vl s.1), (4, vi s.2)]) dX11_keyAt_23 rfl rfl ?_
    refine zW_sub [3, 4, 5, 6, 2, 1, 0] rfl ?_
    refine tX11_keyAt_l25 hw o h1 (s0 := (0, 0)) hf (fun x3 hf => ?_)
    refine zW_iload 5 dX11_keyAt_55 rfl ?_
    refine zW_iload_n 1 dX11_keyAt_57 rfl ?_
    refine zF_icmp_le 64 dX11_keyAt_58 rfl rfl rfl hf (fun c hf => ?_) (fun c hf => ?_)
    · refine zW_sub [0, 1, 2, 3] rfl ?_
      exact tX11_keyAt_b6_64 hw o h1 hf hk hx
    · refine zW_lload 4 dX11_keyAt_61 rfl ?_
      refine zW_lstore_n (lv' := [(2, vl a1), (0, .ref (zad X (0, 0, 0))), (1, vi v1), (4, vi s.2), (5, vl a1), (7, vi x3.1)]) dX11_keyAt_63 rfl rfl ?_
      refine zW_sub [1, 2, 0, 3] rfl ?_
      exact tX11_keyAt_b6_64 hw o h1 hf hk hx
theorem tX11_keyAt_l6 {X : zX} {e : Nat → Prop} (hw : zWf X e) {T : zT} {v1 : Int} {I : zMem} (o : zOk e (0, 0, 0)) (h1 : e 1) {s0 : (Int × Int)} {α : Type} {F : (Int × Int) → Option α} {u : α} (hf : zb (zlp (fX11_keyAt_l6 v1 I) 5000 s0) F = some u) (kx : ∀ x, F x = some u → zW X T mX11_keyAt 70 [(2, vl x.1)] [] I) : zW X T mX11_keyAt 6 [(0, .ref (zad X (0, 0, 0))), (1, vi v1), (2, vl s0.1), (4, vi s0.2)] [] I := by
  obtain ⟨x, h, hf⟩ := zb_inv hf
  exact zlp_W (P := fun s => zW X T mX11_keyAt 6 [(0, .ref (zad X (0, 0, 0))), (1, vi v1), (2, vl s.1), (4, vi s.2)] [] I) (E := fun x => zW X T mX11_keyAt 70 [(2, vl x.1)] [] I) (fun s u h hk hx => tX11_keyAt_l6_y hw o h1 s h hk hx) _ s0 x h (kx x hf)
set_option maxRecDepth 100000 in
theorem tX11_keyAt_0 {X : zX} {e : Nat → Prop} (hw : zWf X e) {v1 : Int} (o : zOk e (0, 0, 0)) (h1 : e 1) {I : zMem} {u : Int} (hf : fX11_keyAt v1 I = some u) : zW X (some (vl u), I) mX11_keyAt 0 [(0, .ref (zad X (0, 0, 0))), (1, vi v1)] [] I := by
  unfold fX11_keyAt at hf
  refine zW_lconst0 dX11_keyAt_0 ?_
  refine zW_lstore_n (lv' := [(2, vl 0), (0, .ref (zad X (0, 0, 0))), (1, vi v1)]) dX11_keyAt_1 rfl rfl ?_
  refine zW_bipush dX11_keyAt_2 rfl ?_
  refine zW_istore (lv' := [(4, vi 32), (2, vl 0), (0, .ref (zad X (0, 0, 0))), (1, vi v1)]) dX11_keyAt_4 rfl rfl ?_
  refine zW_sub [2, 3, 1, 0] rfl ?_
  refine tX11_keyAt_l6 hw o h1 (s0 := (0, 32)) hf (fun x4 hf => ?_)
  refine zW_lload_n 0 dX11_keyAt_70 rfl ?_
  exact zS_l hw rfl dX11_keyAt_71 hf
theorem kX11_keyAt {X : zX} {e : Nat → Prop} (hw : zWf X e) {v1 : Int} (o : zOk e (0, 0, 0)) (h1 : e 1) {I : zMem} {u : Int} (hf : fX11_keyAt v1 I = some u) : zCn X mX11_keyAt yX11_keyAt [.ref (zad X (0, 0, 0)), vi v1] I (some (vl u), I) := zCn_of (by decide +kernel) rfl rfl ⟨rfl, rfl⟩ (tX11_keyAt_0 hw.N o h1 hf)
set_option maxRecDepth 100000 in
theorem tX11_listed_l53_y {X : zX} {e : Nat → Prop} (hw : zWf X e) {T : zT} {v1 : Int} {v2 : Int} (o : zOk e (0, 0, 0)) (h1 : e 1) (s : (Int × zMem)) {u : ((Int × zMem) ⊕ (Int × zMem))} (hf : fX11_listed_l53 v1 v2 s = some u) (hk : ∀ s', u = .inl s' → zW X T mX11_listed 53 [(0, .ref (zad X (0, 0, 0))), (2, vi v2), (4, vi s'.1)] [] s'.2) (hx : ∀ x, u = .inr x → zW X T mX11_listed 108 [(0, .ref (zad X (0, 0, 0))), (2, vi v2)] [] x.2) : zW X T mX11_listed 53 [(0, .ref (zad X (0, 0, 0))), (2, vi v2), (4, vi s.1)] [] s.2 := by
  unfold fX11_listed_l53 at hf
  refine zW_iload 2 dX11_listed_53 rfl ?_
  refine zW_sipush dX11_listed_55 rfl ?_
  refine zF_icmp_ge 108 dX11_listed_58 rfl rfl (w32_lit _ rfl) hf (fun c hf => ?_) (fun c hf => ?_)
  · refine zW_sub [0, 1] rfl ?_
    exact hx _ (Option.some.inj hf).symm
  · refine zW_iload 2 dX11_listed_61 rfl ?_
    refine zC_Sri (As := [vi s.1]) (fun x hx => kX1_wholeWord hw (v0 := s.1)  hx) ms_RX11_79 rfl rfl rfl rfl dX11_listed_63 hf (fun r4 hf => ?_)
    refine zW_istore (lv' := [(5, vi r4), (0, .ref (zad X (0, 0, 0))), (2, vi v2), (4, vi s.1)]) dX11_listed_66 rfl rfl ?_
    refine zW_aload_n 1 dX11_listed_68 rfl ?_
    refine zW_getR (q' := (15, 0, 0)) lk_RX11_71 (hw.1 _ o) rfl rfl (hw.2.1 _ _ _ o rfl) dX11_listed_69 ?_
    refine zW_iload 3 dX11_listed_72 rfl ?_
    refine zW_aload_n 1 dX11_listed_74 rfl ?_
    refine zW_getR (q' := (4, 0, 0)) lk_RX11_33 (hw.1 _ o) rfl rfl (hw.2.1 _ _ _ o rfl) dX11_listed_75 ?_
    refine zW_getR (q' := (23, 0, 0)) lk_RX11_374 (hw.1 _ (zokA (r' := 4) o rfl rfl)) rfl rfl (hw.2.1 _ _ _ (zokA (r' := 4) o rfl rfl) rfl) dX11_listed_78 ?_
    refine zW_iload 0 dX11_listed_81 rfl ?_
    obtain ⟨c5, hf⟩ := zgd hf
    refine zF_iald (hw.1 _ (zokA (r' := 23) (zokA (r' := 4) o rfl rfl) rfl rfl)) rfl c5 rfl dX11_listed_83 ?_
    refine zW_i2l dX11_listed_84 ?_
    refine zW_ldc2 dX11_listed_85 wc_RX11_380 ?_
    refine zW_ladd dX11_listed_88 ?_
    refine zW_ldc2 dX11_listed_89 wc_RX11_382 ?_
    refine zW_lmul dX11_listed_92 ?_
    refine zW_sipush dX11_listed_93 rfl ?_
    refine zW_iload 0 dX11_listed_96 rfl ?_
    refine zW_isub dX11_listed_98 ?_
    refine zW_i2l dX11_listed_99 ?_
    refine zW_ladd dX11_listed_100 ?_
    obtain ⟨c6, hf⟩ := zgd hf
    refine zF_last (hw.1 _ (zokA (r' := 15) o rfl rfl)) rfl c6 rfl dX11_listed_101 hf (fun I7 hf => ?_)
    refine zW_iinc 3 (lv' := [(4, vi (s.1 + 1)), (5, vi r4), (0, .ref (zad X (0, 0, 0))), (2, vi v2)]) dX11_listed_102 rfl rfl rfl ?_
    refine zW_goto 53 dX11_listed_105 rfl ?_
    refine zW_sub [2, 3, 0] rfl ?_
    exact hk _ (Option.some.inj hf).symm
theorem tX11_listed_l53 {X : zX} {e : Nat → Prop} (hw : zWf X e) {T : zT} {v1 : Int} {v2 : Int} (o : zOk e (0, 0, 0)) (h1 : e 1) {s0 : (Int × zMem)} {α : Type} {F : (Int × zMem) → Option α} {u : α} (hf : zb (zlp (fX11_listed_l53 v1 v2) 5000 s0) F = some u) (kx : ∀ x, F x = some u → zW X T mX11_listed 108 [(0, .ref (zad X (0, 0, 0))), (2, vi v2)] [] x.2) : zW X T mX11_listed 53 [(0, .ref (zad X (0, 0, 0))), (2, vi v2), (4, vi s0.1)] [] s0.2 := by
  obtain ⟨x, h, hf⟩ := zb_inv hf
  exact zlp_W (P := fun s => zW X T mX11_listed 53 [(0, .ref (zad X (0, 0, 0))), (2, vi v2), (4, vi s.1)] [] s.2) (E := fun x => zW X T mX11_listed 108 [(0, .ref (zad X (0, 0, 0))), (2, vi v2)] [] x.2) (fun s u h hk hx => tX11_listed_l53_y hw o h1 s h hk hx) _ s0 x h (kx x hf)
set_option maxRecDepth 100000 in
theorem tX11_listed_b18 {X : zX} {e : Nat → Prop} (hw : zWf X e) {v1 : Int} {v2 : Int} {k0 : Int} {k1 : Int} {I : zMem} (o : zOk e (0, 0, 0)) (h1 : e 1) (ko2 : zOk e (0, 0, 0)) {u : (Int × zMem)} (hf : fX11_listed_b18 v1 v2 k0 k1 I = some u) : zW X (some (vi u.1), u.2) mX11_listed 18 [(0, .ref (zad X (0, 0, 0))), (1, vi v1), (2, vi v2)] [vi k0, vi k1, .ref (zad X (0, 0, 0))] I := by
  unfold fX11_listed_b18 at hf
  refine zC_Vri (As := [vi k1, vi k0]) (fun x hx => kX11_refuseEarAnd hw (v1 := k1) (v2 := k0) ko2 h1 hx) mv_RX11_364 (hw.1 _ ko2) rfl rfl rfl rfl rfl dX11_listed_18 hf (fun r1 hf => ?_)
  refine zW_istore_n (lv' := [(3, vi r1), (0, .ref (zad X (0, 0, 0))), (1, vi v1), (2, vi v2)]) dX11_listed_21 rfl rfl ?_
  refine zW_iload_n 0 dX11_listed_22 rfl ?_
  refine zF_if_eq 28 dX11_listed_23 rfl rfl hf (fun c hf => ?_) (fun c hf => ?_)
  · refine zW_aload_n 1 dX11_listed_28 rfl ?_
    refine zW_getR (q' := (4, 0, 0)) lk_RX11_33 (hw.1 _ o) rfl rfl (hw.2.1 _ _ _ o rfl) dX11_listed_29 ?_
    refine zW_aload_n 1 dX11_listed_32 rfl ?_
    refine zW_getR (q' := (7, 1, 0)) lk_RX11_56 (hw.1 _ o) rfl rfl (hw.2.1 _ _ _ o rfl) dX11_listed_33 ?_
    refine zW_getR (q' := (9, 1, 0)) lk_RX11_246 (hw.1 _ (zok1 (r' := 7) h1 rfl)) rfl rfl (hw.2.1 _ _ _ (zok1 (r' := 7) h1 rfl) rfl) dX11_listed_36 ?_
    refine zW_getR (q' := (38, 1, 0)) lk_RX11_324 (hw.1 _ (zokB (r' := 9) (zok1 (r' := 7) h1 rfl) rfl rfl)) rfl rfl (hw.2.1 _ _ _ (zokB (r' := 9) (zok1 (r' := 7) h1 rfl) rfl rfl) rfl) dX11_listed_39 ?_
    refine zW_iload_n 2 dX11_listed_42 rfl ?_
    obtain ⟨c2, hf⟩ := zgd hf
    refine zW_aald (q' := (11, 1, ix v1)) 4 rfl rfl (hw.1 _ (zokB (r' := 38) (zokB (r' := 9) (zok1 (r' := 7) h1 rfl) rfl rfl) rfl rfl)) rfl rfl c2 (hw.2.1 _ _ _ (zokB (r' := 38) (zokB (r' := 9) (zok1 (r' := 7) h1 rfl) rfl rfl) rfl rfl) rfl) dX11_listed_43 ?_
    refine zW_getR (q' := (41, 1, ix v1)) lk_RX11_333 (hw.1 _ (zokE (r' := 11) (zokB (r' := 38) (zokB (r' := 9) (zok1 (r' := 7) h1 rfl) rfl rfl) rfl rfl) rfl rfl c2)) rfl rfl (hw.2.1 _ _ _ (zokE (r' := 11) (zokB (r' := 38) (zokB (r' := 9) (zok1 (r' := 7) h1 rfl) rfl rfl) rfl rfl) rfl rfl c2) rfl) dX11_listed_44 ?_
    refine zC_Vwv (As := [.ref (zad X (41, 1, ix v1))]) (fun x hx => kX2_sumAll hw (q1 := (41, 1, ix v1)) (zokA (r' := 4) o rfl rfl) (hw.1 _ (zokC (r' := 41) (zokE (r' := 11) (zokB (r' := 38) (zokB (r' := 9) (zok1 (r' := 7) h1 rfl) rfl rfl) rfl rfl) rfl rfl c2) rfl rfl)) rfl hx) mv_RX11_368 (hw.1 _ (zokA (r' := 4) o rfl rfl)) rfl rfl rfl rfl rfl dX11_listed_47 hf (fun r3 hf => ?_)
    refine zW_iconst dX11_listed_50 ?_
    refine zW_istore (lv' := [(4, vi 0), (3, vi r1), (0, .ref (zad X (0, 0, 0))), (1, vi v1), (2, vi v2)]) dX11_listed_51 rfl rfl ?_
    refine zW_sub [2, 4, 0] rfl ?_
    refine tX11_listed_l53 hw o h1 (s0 := (0, r3)) hf (fun x8 hf => ?_)
    refine zW_sipush dX11_listed_108 rfl ?_
    refine zW_aload_n 0 dX11_listed_111 rfl ?_
    refine zW_iload_n 1 dX11_listed_112 rfl ?_
    refine zC_Vrl (As := [vi v2]) (fun x hx => kX11_keyAt hw (v1 := v2) o h1 hx) mv_RX11_384 (hw.1 _ o) rfl rfl rfl rfl rfl dX11_listed_113 hf (fun r9 hf => ?_)
    refine zW_ldc2 dX11_listed_116 wc_RX11_388 ?_
    refine zW_land dX11_listed_119 ?_
    refine zW_l2i dX11_listed_120 ?_
    refine zW_isub dX11_listed_121 ?_
    exact zR_i hw rfl dX11_listed_122 hf
  · refine zW_iload_n 0 dX11_listed_26 rfl ?_
    exact zR_i hw rfl dX11_listed_27 hf
set_option maxRecDepth 100000 in
theorem tX11_listed_b17 {X : zX} {e : Nat → Prop} (hw : zWf X e) {v1 : Int} {v2 : Int} {k0 : Int} {I : zMem} (o : zOk e (0, 0, 0)) (h1 : e 1) (ko1 : zOk e (0, 0, 0)) {u : (Int × zMem)} (hf : fX11_listed_b17 v1 v2 k0 I = some u) : zW X (some (vi u.1), u.2) mX11_listed 17 [(0, .ref (zad X (0, 0, 0))), (1, vi v1), (2, vi v2)] [vi k0, .ref (zad X (0, 0, 0))] I := by
  unfold fX11_listed_b17 at hf
  refine zW_iconst dX11_listed_17 ?_
  refine zW_sub [0, 1, 2] rfl ?_
  exact tX11_listed_b18 hw o h1 ko1 hf
set_option maxRecDepth 100000 in
theorem tX11_listed_0 {X : zX} {e : Nat → Prop} (hw : zWf X e) {v1 : Int} {v2 : Int} (o : zOk e (0, 0, 0)) (h1 : e 1) {I : zMem} {u : (Int × zMem)} (hf : fX11_listed v1 v2 I = some u) : zW X (some (vi u.1), u.2) mX11_listed 0 [(0, .ref (zad X (0, 0, 0))), (1, vi v1), (2, vi v2)] [] I := by
  unfold fX11_listed at hf
  refine zW_aload_n 0 dX11_listed_0 rfl ?_
  refine zW_iload_n 1 dX11_listed_1 rfl ?_
  refine zW_iload_n 2 dX11_listed_2 rfl ?_
  refine zF_if_lt 17 dX11_listed_3 rfl rfl hf (fun c hf => ?_) (fun c hf => ?_)
  · refine zW_sub [0, 1, 2] rfl ?_
    exact tX11_listed_b17 hw o h1 o hf
  · refine zW_iload_n 2 dX11_listed_6 rfl ?_
    refine zW_sipush dX11_listed_7 rfl ?_
    refine zF_icmp_ge 17 dX11_listed_10 rfl rfl (w32_lit _ rfl) hf (fun c hf => ?_) (fun c hf => ?_)
    · refine zW_sub [0, 1, 2] rfl ?_
      exact tX11_listed_b17 hw o h1 o hf
    · refine zW_iconst dX11_listed_13 ?_
      refine zW_goto 18 dX11_listed_14 rfl ?_
      refine zW_sub [0, 1, 2] rfl ?_
      exact tX11_listed_b18 hw o h1 o hf
theorem kX11_listed {X : zX} {e : Nat → Prop} (hw : zWf X e) {v1 : Int} {v2 : Int} (o : zOk e (0, 0, 0)) (h1 : e 1) {I : zMem} {u : (Int × zMem)} (hf : fX11_listed v1 v2 I = some u) : zCn X mX11_listed yX11_listed [.ref (zad X (0, 0, 0)), vi v1, vi v2] I (some (vi u.1), u.2) := zCn_of (by decide +kernel) rfl rfl ⟨rfl, rfl⟩ (tX11_listed_0 hw.N o h1 hf)
set_option maxRecDepth 100000 in
theorem tX11_unlikeSigns_b5_41 {X : zX} {e : Nat → Prop} (hw : zWf X e) {T : zT} {q0 : zPl} {v1 : Int} {I : zMem} {w3 : Int} {w4 : Int} (hq0 : zDom X q0) (hk0 : zkd q0.1 = (14, 39)) {u : ((Int × Int) ⊕ (Int × Int))} (hf : fX11_unlikeSigns_b5_41 q0 v1 I w3 w4 = some u) (hk : ∀ s', u = .inl s' → zW X T mX11_unlikeSigns 5 [(0, .ref (zad X q0)), (1, vl v1), (3, vi s'.1), (4, vi s'.2)] [] I) (hx : ∀ x, u = .inr x → zW X T mX11_unlikeSigns 47 [(3, vi x.1)] [] I) : zW X T mX11_unlikeSigns 41 [(0, .ref (zad X q0)), (1, vl v1), (3, vi w3), (4, vi w4)] [] I := by
  unfold fX11_unlikeSigns_b5_41 at hf
  refine zW_iinc 3 (lv' := [(4, vi (w4 + 1)), (0, .ref (zad X q0)), (1, vl v1), (3, vi w3)]) dX11_unlikeSigns_41 rfl rfl rfl ?_
  refine zW_goto 5 dX11_unlikeSigns_44 rfl ?_
  refine zW_sub [1, 2, 3, 0] rfl ?_
  exact hk _ (Option.some.inj hf).symm
set_option maxRecDepth 100000 in
theorem tX11_unlikeSigns_b5_38 {X : zX} {e : Nat → Prop} (hw : zWf X e) {T : zT} {q0 : zPl} {v1 : Int} {I : zMem} {w3 : Int} {w4 : Int} (hq0 : zDom X q0) (hk0 : zkd q0.1 = (14, 39)) {u : ((Int × Int) ⊕ (Int × Int))} (hf : fX11_unlikeSigns_b5_38 q0 v1 I w3 w4 = some u) (hk : ∀ s', u = .inl s' → zW X T mX11_unlikeSigns 5 [(0, .ref (zad X q0)), (1, vl v1), (3, vi s'.1), (4, vi s'.2)] [] I) (hx : ∀ x, u = .inr x → zW X T mX11_unlikeSigns 47 [(3, vi x.1)] [] I) : zW X T mX11_unlikeSigns 38 [(0, .ref (zad X q0)), (1, vl v1), (3, vi w3), (4, vi w4)] [] I := by
  unfold fX11_unlikeSigns_b5_38 at hf
  refine zW_iinc 2 (lv' := [(3, vi (w3 + 1)), (0, .ref (zad X q0)), (1, vl v1), (4, vi w4)]) dX11_unlikeSigns_38 rfl rfl rfl ?_
  refine zW_sub [1, 2, 0, 3] rfl ?_
  exact tX11_unlikeSigns_b5_41 hw hq0 hk0 hf hk hx
set_option maxRecDepth 100000 in
theorem tX11_unlikeSigns_l5_y {X : zX} {e : Nat → Prop} (hw : zWf X e) {T : zT} {q0 : zPl} {v1 : Int} {I : zMem} (hq0 : zDom X q0) (hk0 : zkd q0.1 = (14, 39)) (s : (Int × Int)) {u : ((Int × Int) ⊕ (Int × Int))} (hf : fX11_unlikeSigns_l5 q0 v1 I s = some u) (hk : ∀ s', u = .inl s' → zW X T mX11_unlikeSigns 5 [(0, .ref (zad X q0)), (1, vl v1), (3, vi s'.1), (4, vi s'.2)] [] I) (hx : ∀ x, u = .inr x → zW X T mX11_unlikeSigns 47 [(3, vi x.1)] [] I) : zW X T mX11_unlikeSigns 5 [(0, .ref (zad X q0)), (1, vl v1), (3, vi s.1), (4, vi s.2)] [] I := by
  unfold fX11_unlikeSigns_l5 at hf
  refine zW_iload 3 dX11_unlikeSigns_5 rfl ?_
  refine zW_bipush dX11_unlikeSigns_7 rfl ?_
  refine zF_icmp_ge 47 dX11_unlikeSigns_9 rfl rfl (w32_lit _ rfl) hf (fun c hf => ?_) (fun c hf => ?_)
  · refine zW_sub [2] rfl ?_
    exact hx _ (Option.some.inj hf).symm
  · refine zW_lload_n 1 dX11_unlikeSigns_12 rfl ?_
    refine zW_iload 3 dX11_unlikeSigns_13 rfl ?_
    refine zC_Sri (As := [vl v1, vi s.2]) (fun x hx => kX1_isOne hw (v0 := v1) (v2 := s.2)  hx) ms_RX11_159 rfl rfl rfl rfl dX11_unlikeSigns_15 hf (fun r1 hf => ?_)
    refine zF_if_eq 31 dX11_unlikeSigns_18 rfl rfl hf (fun c hf => ?_) (fun c hf => ?_)
    · refine zW_aload_n 0 dX11_unlikeSigns_31 rfl ?_
      refine zW_iload 3 dX11_unlikeSigns_32 rfl ?_
      obtain ⟨c2, hf⟩ := zgd hf
      refine zF_iald hq0 hk0 c2 rfl dX11_unlikeSigns_34 ?_
      refine zF_if_le 41 dX11_unlikeSigns_35 rfl rfl hf (fun c hf => ?_) (fun c hf => ?_)
      · refine zW_sub [0, 1, 2, 3] rfl ?_
        exact tX11_unlikeSigns_b5_41 hw hq0 hk0 hf hk hx
      · refine zW_sub [0, 1, 2, 3] rfl ?_
        exact tX11_unlikeSigns_b5_38 hw hq0 hk0 hf hk hx
    · refine zW_aload_n 0 dX11_unlikeSigns_21 rfl ?_
      refine zW_iload 3 dX11_unlikeSigns_22 rfl ?_
      obtain ⟨c3, hf⟩ := zgd hf
      refine zF_iald hq0 hk0 c3 rfl dX11_unlikeSigns_24 ?_
      refine zF_if_ge 41 dX11_unlikeSigns_25 rfl rfl hf (fun c hf => ?_) (fun c hf => ?_)
      · refine zW_sub [0, 1, 2, 3] rfl ?_
        exact tX11_unlikeSigns_b5_41 hw hq0 hk0 hf hk hx
      · refine zW_goto 38 dX11_unlikeSigns_28 rfl ?_
        refine zW_sub [0, 1, 2, 3] rfl ?_
        exact tX11_unlikeSigns_b5_38 hw hq0 hk0 hf hk hx
theorem tX11_unlikeSigns_l5 {X : zX} {e : Nat → Prop} (hw : zWf X e) {T : zT} {q0 : zPl} {v1 : Int} {I : zMem} (hq0 : zDom X q0) (hk0 : zkd q0.1 = (14, 39)) {s0 : (Int × Int)} {α : Type} {F : (Int × Int) → Option α} {u : α} (hf : zb (zlp (fX11_unlikeSigns_l5 q0 v1 I) 5000 s0) F = some u) (kx : ∀ x, F x = some u → zW X T mX11_unlikeSigns 47 [(3, vi x.1)] [] I) : zW X T mX11_unlikeSigns 5 [(0, .ref (zad X q0)), (1, vl v1), (3, vi s0.1), (4, vi s0.2)] [] I := by
  obtain ⟨x, h, hf⟩ := zb_inv hf
  exact zlp_W (P := fun s => zW X T mX11_unlikeSigns 5 [(0, .ref (zad X q0)), (1, vl v1), (3, vi s.1), (4, vi s.2)] [] I) (E := fun x => zW X T mX11_unlikeSigns 47 [(3, vi x.1)] [] I) (fun s u h hk hx => tX11_unlikeSigns_l5_y hw hq0 hk0 s h hk hx) _ s0 x h (kx x hf)
set_option maxRecDepth 100000 in
theorem tX11_unlikeSigns_0 {X : zX} {e : Nat → Prop} (hw : zWf X e) {q0 : zPl} {v1 : Int} (hq0 : zDom X q0) (hk0 : zkd q0.1 = (14, 39)) {I : zMem} {u : Int} (hf : fX11_unlikeSigns q0 v1 I = some u) : zW X (some (vi u), I) mX11_unlikeSigns 0 [(0, .ref (zad X q0)), (1, vl v1)] [] I := by
  unfold fX11_unlikeSigns at hf
  refine zW_iconst dX11_unlikeSigns_0 ?_
  refine zW_istore_n (lv' := [(3, vi 0), (0, .ref (zad X q0)), (1, vl v1)]) dX11_unlikeSigns_1 rfl rfl ?_
  refine zW_iconst dX11_unlikeSigns_2 ?_
  refine zW_istore (lv' := [(4, vi 0), (3, vi 0), (0, .ref (zad X q0)), (1, vl v1)]) dX11_unlikeSigns_3 rfl rfl ?_
  refine zW_sub [2, 3, 1, 0] rfl ?_
  refine tX11_unlikeSigns_l5 hw hq0 hk0 (s0 := (0, 0)) hf (fun x4 hf => ?_)
  refine zW_iload_n 0 dX11_unlikeSigns_47 rfl ?_
  exact zS_i hw rfl dX11_unlikeSigns_48 hf
theorem kX11_unlikeSigns {X : zX} {e : Nat → Prop} (hw : zWf X e) {q0 : zPl} {v1 : Int} (hq0 : zDom X q0) (hk0 : zkd q0.1 = (14, 39)) {I : zMem} {u : Int} (hf : fX11_unlikeSigns q0 v1 I = some u) : zCn X mX11_unlikeSigns yX11_unlikeSigns [.ref (zad X q0), vl v1] I (some (vi u), I) := zCn_of (by decide +kernel) rfl rfl ⟨rfl, rfl⟩ (tX11_unlikeSigns_0 hw.N hq0 hk0 hf)
set_option maxRecDepth 100000 in
theorem tX11_against_0 {X : zX} {e : Nat → Prop} (hw : zWf X e) {v1 : Int} {v2 : Int} (o : zOk e (0, 0, 0)) (h1 : e 1) {I : zMem} {u : Int} (hf : fX11_against v1 v2 I = some u) : zW X (some (vi u), I) mX11_against 0 [(0, .ref (zad X (0, 0, 0))), (1, vi v1), (2, vi v2)] [] I := by
  unfold fX11_against at hf
  refine zW_aload_n 0 dX11_against_0 rfl ?_
  refine zW_iload_n 1 dX11_against_1 rfl ?_
  refine zW_iload_n 2 dX11_against_2 rfl ?_
  refine zC_Sri (As := [vi v2]) (fun x hx => kX11_isWord hw (v0 := v2)  hx) ms_RX11_83 rfl rfl rfl rfl dX11_against_3 hf (fun r1 hf => ?_)
  refine zC_Vri (As := [vi v1, vi r1]) (fun x hx => kX11_refuseEarAnd hw (v1 := v1) (v2 := r1) o h1 hx) mv_RX11_364 (hw.1 _ o) rfl rfl rfl rfl rfl dX11_against_6 hf (fun r2 hf => ?_)
  refine zW_istore_n (lv' := [(3, vi r2), (0, .ref (zad X (0, 0, 0))), (1, vi v1), (2, vi v2)]) dX11_against_9 rfl rfl ?_
  refine zW_iload_n 0 dX11_against_10 rfl ?_
  refine zF_if_eq 18 dX11_against_11 rfl rfl hf (fun c hf => ?_) (fun c hf => ?_)
  · refine zW_aload_n 1 dX11_against_18 rfl ?_
    refine zW_getR (q' := (7, 1, 0)) lk_RX11_56 (hw.1 _ o) rfl rfl (hw.2.1 _ _ _ o rfl) dX11_against_19 ?_
    refine zW_getR (q' := (9, 1, 0)) lk_RX11_246 (hw.1 _ (zok1 (r' := 7) h1 rfl)) rfl rfl (hw.2.1 _ _ _ (zok1 (r' := 7) h1 rfl) rfl) dX11_against_22 ?_
    refine zW_getR (q' := (38, 1, 0)) lk_RX11_324 (hw.1 _ (zokB (r' := 9) (zok1 (r' := 7) h1 rfl) rfl rfl)) rfl rfl (hw.2.1 _ _ _ (zokB (r' := 9) (zok1 (r' := 7) h1 rfl) rfl rfl) rfl) dX11_against_25 ?_
    refine zW_iload_n 2 dX11_against_28 rfl ?_
    obtain ⟨c3, hf⟩ := zgd hf
    refine zW_aald (q' := (11, 1, ix v1)) 4 rfl rfl (hw.1 _ (zokB (r' := 38) (zokB (r' := 9) (zok1 (r' := 7) h1 rfl) rfl rfl) rfl rfl)) rfl rfl c3 (hw.2.1 _ _ _ (zokB (r' := 38) (zokB (r' := 9) (zok1 (r' := 7) h1 rfl) rfl rfl) rfl rfl) rfl) dX11_against_29 ?_
    refine zW_getR (q' := (41, 1, ix v1)) lk_RX11_333 (hw.1 _ (zokE (r' := 11) (zokB (r' := 38) (zokB (r' := 9) (zok1 (r' := 7) h1 rfl) rfl rfl) rfl rfl) rfl rfl c3)) rfl rfl (hw.2.1 _ _ _ (zokE (r' := 11) (zokB (r' := 38) (zokB (r' := 9) (zok1 (r' := 7) h1 rfl) rfl rfl) rfl rfl) rfl rfl c3) rfl) dX11_against_30 ?_
    refine zW_aload_n 1 dX11_against_33 rfl ?_
    refine zW_getR (q' := (1, 0, 0)) lk_RX11_12 (hw.1 _ o) rfl rfl (hw.2.1 _ _ _ o rfl) dX11_against_34 ?_
    refine zW_getR (q' := (16, 0, 0)) lk_RX11_91 (hw.1 _ (zokA (r' := 1) o rfl rfl)) rfl rfl (hw.2.1 _ _ _ (zokA (r' := 1) o rfl rfl) rfl) dX11_against_37 ?_
    refine zW_iload_n 3 dX11_against_40 rfl ?_
    obtain ⟨c4, hf⟩ := zgd hf
    refine zF_lald (hw.1 _ (zokA (r' := 16) (zokA (r' := 1) o rfl rfl) rfl rfl)) rfl c4 rfl dX11_against_41 ?_
    refine zC_Sri (As := [.ref (zad X (41, 1, ix v1)), vl (I (16, 0, 0) (ix v2))]) (fun x hx => kX11_unlikeSigns hw (q0 := (41, 1, ix v1)) (v1 := I (16, 0, 0) (ix v2)) (hw.1 _ (zokC (r' := 41) (zokE (r' := 11) (zokB (r' := 38) (zokB (r' := 9) (zok1 (r' := 7) h1 rfl) rfl rfl) rfl rfl) rfl rfl c3) rfl rfl)) rfl hx) ms_RX11_390 rfl rfl rfl rfl dX11_against_42 hf (fun r5 hf => ?_)
    exact zS_i hw rfl dX11_against_45 hf
  · refine zW_iload_n 0 dX11_against_14 rfl ?_
    refine zW_goto 45 dX11_against_15 rfl ?_
    exact zS_i hw rfl dX11_against_45 hf
theorem kX11_against {X : zX} {e : Nat → Prop} (hw : zWf X e) {v1 : Int} {v2 : Int} (o : zOk e (0, 0, 0)) (h1 : e 1) {I : zMem} {u : Int} (hf : fX11_against v1 v2 I = some u) : zCn X mX11_against yX11_against [.ref (zad X (0, 0, 0)), vi v1, vi v2] I (some (vi u), I) := zCn_of (by decide +kernel) rfl rfl ⟨rfl, rfl⟩ (tX11_against_0 hw.N o h1 hf)
set_option maxRecDepth 100000 in
theorem tX11_known_b47_73 {X : zX} {e : Nat → Prop} (hw : zWf X e) {T : zT} {v1 : Int} {v2 : Int} {wp4 : Nat} {w5 : Int} {w6 : Int} {k0 : Int} {k1 : Int} {I : zMem} (o : zOk e (0, 0, 0)) (h1 : e 1) (wo4 : zOk e (41, 1, wp4)) (ko2 : zOk e (13, 0, 0)) {u : ((Int × Int × zMem) ⊕ (Int × Int × zMem))} (hf : fX11_known_b47_73 v1 v2 wp4 w5 w6 k0 k1 I = some u) (hk : ∀ s', u = .inl s' → zW X T mX11_known 47 [(0, .ref (zad X (0, 0, 0))), (2, vi v2), (4, .ref (zad X (41, 1, wp4))), (5, vi s'.1), (6, vi s'.2.1)] [] s'.2.2) (hx : ∀ x, u = .inr x → zW X T mX11_known 92 [(0, .ref (zad X (0, 0, 0))), (2, vi v2), (5, vi x.1)] [] x.2.2) : zW X T mX11_known 73 [(0, .ref (zad X (0, 0, 0))), (2, vi v2), (4, .ref (zad X (41, 1, wp4))), (5, vi w5), (6, vi w6)] [vi k0, vi k1, .ref (zad X (13, 0, 0))] I := by
  unfold fX11_known_b47_73 at hf
  obtain ⟨c4, hf⟩ := zgd hf
  refine zF_iast (hw.1 _ ko2) rfl c4 rfl dX11_known_73 hf (fun I5 hf => ?_)
  refine zW_iload 3 dX11_known_74 rfl ?_
  refine zW_aload_n 0 dX11_known_76 rfl ?_
  refine zW_getR (q' := (13, 0, 0)) lk_RX11_64 (hw.1 _ o) rfl rfl (hw.2.1 _ _ _ o rfl) dX11_known_77 ?_
  refine zW_iload 4 dX11_known_80 rfl ?_
  obtain ⟨c6, hf⟩ := zgd hf
  refine zF_iald (hw.1 _ (zokA (r' := 13) o rfl rfl)) rfl c6 rfl dX11_known_82 ?_
  refine zW_iadd dX11_known_83 ?_
  refine zF_istore (lv' := fun a7 => [(5, vi a7), (0, .ref (zad X (0, 0, 0))), (2, vi v2), (4, .ref (zad X (41, 1, wp4))), (6, vi w6)]) dX11_known_84 hf (fun _ => rfl) rfl (fun a7 hf => ?_)
  refine zW_iinc 4 (lv' := [(6, vi (w6 + 1)), (5, vi a7), (0, .ref (zad X (0, 0, 0))), (2, vi v2), (4, .ref (zad X (41, 1, wp4)))]) dX11_known_86 rfl rfl rfl ?_
  refine zW_goto 47 dX11_known_89 rfl ?_
  refine zW_sub [2, 3, 4, 1, 0] rfl ?_
  exact hk _ (Option.some.inj hf).symm
set_option maxRecDepth 100000 in
theorem tX11_known_l47_y {X : zX} {e : Nat → Prop} (hw : zWf X e) {T : zT} {v1 : Int} {v2 : Int} {wp4 : Nat} (o : zOk e (0, 0, 0)) (h1 : e 1) (wo4 : zOk e (41, 1, wp4)) (s : (Int × Int × zMem)) {u : ((Int × Int × zMem) ⊕ (Int × Int × zMem))} (hf : fX11_known_l47 v1 v2 wp4 s = some u) (hk : ∀ s', u = .inl s' → zW X T mX11_known 47 [(0, .ref (zad X (0, 0, 0))), (2, vi v2), (4, .ref (zad X (41, 1, wp4))), (5, vi s'.1), (6, vi s'.2.1)] [] s'.2.2) (hx : ∀ x, u = .inr x → zW X T mX11_known 92 [(0, .ref (zad X (0, 0, 0))), (2, vi v2), (5, vi x.1)] [] x.2.2) : zW X T mX11_known 47 [(0, .ref (zad X (0, 0, 0))), (2, vi v2), (4, .ref (zad X (41, 1, wp4))), (5, vi s.1), (6, vi s.2.1)] [] s.2.2 := by
  unfold fX11_known_l47 at hf
  refine zW_iload 4 dX11_known_47 rfl ?_
  refine zW_bipush dX11_known_49 rfl ?_
  refine zF_icmp_ge 92 dX11_known_51 rfl rfl (w32_lit _ rfl) hf (fun c hf => ?_) (fun c hf => ?_)
  · refine zW_sub [0, 1, 3] rfl ?_
    exact hx _ (Option.some.inj hf).symm
  · refine zW_aload_n 0 dX11_known_54 rfl ?_
    refine zW_getR (q' := (13, 0, 0)) lk_RX11_64 (hw.1 _ o) rfl rfl (hw.2.1 _ _ _ o rfl) dX11_known_55 ?_
    refine zW_iload 4 dX11_known_58 rfl ?_
    refine zW_aload 2 dX11_known_60 rfl ?_
    refine zW_iload 4 dX11_known_62 rfl ?_
    obtain ⟨c3, hf⟩ := zgd hf
    refine zF_iald (hw.1 _ wo4) rfl c3 rfl dX11_known_64 ?_
    refine zF_if_eq 72 dX11_known_65 rfl rfl hf (fun c hf => ?_) (fun c hf => ?_)
    · refine zW_iconst dX11_known_72 ?_
      refine zW_sub [0, 1, 2, 3, 4] rfl ?_
      exact tX11_known_b47_73 hw o h1 wo4 (zokA (r' := 13) o rfl rfl) hf hk hx
    · refine zW_iconst dX11_known_68 ?_
      refine zW_goto 73 dX11_known_69 rfl ?_
      refine zW_sub [0, 1, 2, 3, 4] rfl ?_
      exact tX11_known_b47_73 hw o h1 wo4 (zokA (r' := 13) o rfl rfl) hf hk hx
theorem tX11_known_l47 {X : zX} {e : Nat → Prop} (hw : zWf X e) {T : zT} {v1 : Int} {v2 : Int} {wp4 : Nat} (o : zOk e (0, 0, 0)) (h1 : e 1) (wo4 : zOk e (41, 1, wp4)) {s0 : (Int × Int × zMem)} {α : Type} {F : (Int × Int × zMem) → Option α} {u : α} (hf : zb (zlp (fX11_known_l47 v1 v2 wp4) 5000 s0) F = some u) (kx : ∀ x, F x = some u → zW X T mX11_known 92 [(0, .ref (zad X (0, 0, 0))), (2, vi v2), (5, vi x.1)] [] x.2.2) : zW X T mX11_known 47 [(0, .ref (zad X (0, 0, 0))), (2, vi v2), (4, .ref (zad X (41, 1, wp4))), (5, vi s0.1), (6, vi s0.2.1)] [] s0.2.2 := by
  obtain ⟨x, h, hf⟩ := zb_inv hf
  exact zlp_W (P := fun s => zW X T mX11_known 47 [(0, .ref (zad X (0, 0, 0))), (2, vi v2), (4, .ref (zad X (41, 1, wp4))), (5, vi s.1), (6, vi s.2.1)] [] s.2.2) (E := fun x => zW X T mX11_known 92 [(0, .ref (zad X (0, 0, 0))), (2, vi v2), (5, vi x.1)] [] x.2.2) (fun s u h hk hx => tX11_known_l47_y hw o h1 wo4 s h hk hx) _ s0 x h (kx x hf)
set_option maxRecDepth 100000 in
theorem tX11_known_0 {X : zX} {e : Nat → Prop} (hw : zWf X e) {v1 : Int} {v2 : Int} (o : zOk e (0, 0, 0)) (h1 : e 1) {I : zMem} {u : (Int × zMem)} (hf : fX11_known v1 v2 I = some u) : zW X (some (vi u.1), u.2) mX11_known 0 [(0, .ref (zad X (0, 0, 0))), (1, vi v1), (2, vi v2)] [] I := by
  unfold fX11_known at hf
  refine zW_iload_n 2 dX11_known_0 rfl ?_
  refine zF_if_lt 9 dX11_known_1 rfl rfl hf (fun c hf => ?_) (fun c hf => ?_)
  · refine zW_bipush dX11_known_9 rfl ?_
    exact zR_i hw rfl dX11_known_11 hf
  · refine zW_iload_n 2 dX11_known_4 rfl ?_
    refine zW_iconst dX11_known_5 ?_
    refine zF_icmp_le 12 dX11_known_6 rfl rfl (w32_lit _ rfl) hf (fun c hf => ?_) (fun c hf => ?_)
    · refine zW_aload_n 0 dX11_known_12 rfl ?_
      refine zW_iload_n 1 dX11_known_13 rfl ?_
      refine zC_Vri (As := [vi v1]) (fun x hx => kX11_refuseEar hw (v1 := v1) o h1 hx) mv_RX11_353 (hw.1 _ o) rfl rfl rfl rfl rfl dX11_known_14 hf (fun r1 hf => ?_)
      refine zW_istore_n (lv' := [(3, vi r1), (0, .ref (zad X (0, 0, 0))), (1, vi v1), (2, vi v2)]) dX11_known_17 rfl rfl ?_
      refine zW_iload_n 0 dX11_known_18 rfl ?_
      refine zF_if_eq 24 dX11_known_19 rfl rfl hf (fun c hf => ?_) (fun c hf => ?_)
      · refine zW_aload_n 1 dX11_known_24 rfl ?_
        refine zW_getR (q' := (7, 1, 0)) lk_RX11_56 (hw.1 _ o) rfl rfl (hw.2.1 _ _ _ o rfl) dX11_known_25 ?_
        refine zW_getR (q' := (9, 1, 0)) lk_RX11_246 (hw.1 _ (zok1 (r' := 7) h1 rfl)) rfl rfl (hw.2.1 _ _ _ (zok1 (r' := 7) h1 rfl) rfl) dX11_known_28 ?_
        refine zW_getR (q' := (38, 1, 0)) lk_RX11_324 (hw.1 _ (zokB (r' := 9) (zok1 (r' := 7) h1 rfl) rfl rfl)) rfl rfl (hw.2.1 _ _ _ (zokB (r' := 9) (zok1 (r' := 7) h1 rfl) rfl rfl) rfl) dX11_known_31 ?_
        refine zW_iload_n 2 dX11_known_34 rfl ?_
        obtain ⟨c2, hf⟩ := zgd hf
        refine zW_aald (q' := (11, 1, ix v1)) 4 rfl rfl (hw.1 _ (zokB (r' := 38) (zokB (r' := 9) (zok1 (r' := 7) h1 rfl) rfl rfl) rfl rfl)) rfl rfl c2 (hw.2.1 _ _ _ (zokB (r' := 38) (zokB (r' := 9) (zok1 (r' := 7) h1 rfl) rfl rfl) rfl rfl) rfl) dX11_known_35 ?_
        refine zW_getR (q' := (41, 1, ix v1)) lk_RX11_333 (hw.1 _ (zokE (r' := 11) (zokB (r' := 38) (zokB (r' := 9) (zok1 (r' := 7) h1 rfl) rfl rfl) rfl rfl) rfl rfl c2)) rfl rfl (hw.2.1 _ _ _ (zokE (r' := 11) (zokB (r' := 38) (zokB (r' := 9) (zok1 (r' := 7) h1 rfl) rfl rfl) rfl rfl) rfl rfl c2) rfl) dX11_known_36 ?_
        refine zW_astore (lv' := [(4, .ref (zad X (41, 1, ix v1))), (3, vi r1), (0, .ref (zad X (0, 0, 0))), (1, vi v1), (2, vi v2)]) dX11_known_39 rfl rfl ?_
        refine zW_iconst dX11_known_41 ?_
        refine zW_istore (lv' := [(5, vi 0), (4, .ref (zad X (41, 1, ix v1))), (3, vi r1), (0, .ref (zad X (0, 0, 0))), (1, vi v1), (2, vi v2)]) dX11_known_42 rfl rfl ?_
        refine zW_iconst dX11_known_44 ?_
        refine zW_istore (lv' := [(6, vi 0), (5, vi 0), (4, .ref (zad X (41, 1, ix v1))), (3, vi r1), (0, .ref (zad X (0, 0, 0))), (1, vi v1), (2, vi v2)]) dX11_known_45 rfl rfl ?_
        refine zW_sub [4, 6, 2, 1, 0] rfl ?_
        refine tX11_known_l47 hw o h1 (zokC (r' := 41) (zokE (r' := 11) (zokB (r' := 38) (zokB (r' := 9) (zok1 (r' := 7) h1 rfl) rfl rfl) rfl rfl) rfl rfl c2) rfl rfl) (s0 := (0, 0, I)) hf (fun x8 hf => ?_)
        refine zW_iload_n 1 dX11_known_92 rfl ?_
        refine zF_if_ne 99 dX11_known_93 rfl rfl hf (fun c hf => ?_) (fun c hf => ?_)
        · refine zW_iload 2 dX11_known_96 rfl ?_
          exact zR_i hw rfl dX11_known_98 hf
        · refine zW_aload_n 0 dX11_known_99 rfl ?_
          refine zW_getR (q' := (3, 0, 0)) lk_RX11_26 (hw.1 _ o) rfl rfl (hw.2.1 _ _ _ o rfl) dX11_known_100 ?_
          refine zW_aload_n 0 dX11_known_103 rfl ?_
          refine zW_getR (q' := (13, 0, 0)) lk_RX11_64 (hw.1 _ o) rfl rfl (hw.2.1 _ _ _ o rfl) dX11_known_104 ?_
          refine zC_Vwv (As := [.ref (zad X (13, 0, 0))]) (fun x hx => kX10_take hw (q1 := (13, 0, 0)) (zokA (r' := 3) o rfl rfl) (hw.1 _ (zokA (r' := 13) o rfl rfl)) rfl hx) mv_RX11_320 (hw.1 _ (zokA (r' := 3) o rfl rfl)) rfl rfl rfl rfl rfl dX11_known_107 hf (fun r9 hf => ?_)
          refine zW_aload_n 0 dX11_known_110 rfl ?_
          refine zW_getR (q' := (3, 0, 0)) lk_RX11_26 (hw.1 _ o) rfl rfl (hw.2.1 _ _ _ o rfl) dX11_known_111 ?_
          refine zW_aload_n 0 dX11_known_114 rfl ?_
          refine zW_getR (q' := (1, 0, 0)) lk_RX11_12 (hw.1 _ o) rfl rfl (hw.2.1 _ _ _ o rfl) dX11_known_115 ?_
          refine zW_getR (q' := (17, 0, 0)) lk_RX11_134 (hw.1 _ (zokA (r' := 1) o rfl rfl)) rfl rfl (hw.2.1 _ _ _ (zokA (r' := 1) o rfl rfl) rfl) dX11_known_118 ?_
          refine zC_Vri (As := [.ref (zad X (17, 0, 0))]) (fun x hx => kX10_least hw (q1 := (17, 0, 0)) (n1 := 256) (zokA (r' := 3) o rfl rfl) (hw.1 _ (zokA (r' := 17) (zokA (r' := 1) o rfl rfl) rfl rfl)) rfl hx) mv_RX11_137 (hw.1 _ (zokA (r' := 3) o rfl rfl)) rfl rfl rfl rfl rfl dX11_known_121 hf (fun r10 hf => ?_)
          exact zR_i hw rfl dX11_known_124 hf
      · refine zW_iload_n 0 dX11_known_22 rfl ?_
        exact zR_i hw rfl dX11_known_23 hf
    · refine zW_bipush dX11_known_9 rfl ?_
      exact zR_i hw rfl dX11_known_11 hf
theorem kX11_known {X : zX} {e : Nat → Prop} (hw : zWf X e) {v1 : Int} {v2 : Int} (o : zOk e (0, 0, 0)) (h1 : e 1) {I : zMem} {u : (Int × zMem)} (hf : fX11_known v1 v2 I = some u) : zCn X mX11_known yX11_known [.ref (zad X (0, 0, 0)), vi v1, vi v2] I (some (vi u.1), u.2) := zCn_of (by decide +kernel) rfl rfl ⟨rfl, rfl⟩ (tX11_known_0 hw.N o h1 hf)
set_option maxRecDepth 100000 in
theorem tX11_wrong_0 {X : zX} {e : Nat → Prop} (hw : zWf X e) {v1 : Int} (o : zOk e (0, 0, 0)) (h1 : e 1) {I : zMem} {u : (Int × zMem)} (hf : fX11_wrong v1 I = some u) : zW X (some (vi u.1), u.2) mX11_wrong 0 [(0, .ref (zad X (0, 0, 0))), (1, vi v1)] [] I := by
  unfold fX11_wrong at hf
  refine zW_aload_n 0 dX11_wrong_0 rfl ?_
  refine zW_iload_n 1 dX11_wrong_1 rfl ?_
  refine zC_Vri (As := [vi v1]) (fun x hx => kX11_refuseEar hw (v1 := v1) o h1 hx) mv_RX11_353 (hw.1 _ o) rfl rfl rfl rfl rfl dX11_wrong_2 hf (fun r1 hf => ?_)
  refine zW_istore_n (lv' := [(2, vi r1), (0, .ref (zad X (0, 0, 0))), (1, vi v1)]) dX11_wrong_5 rfl rfl ?_
  refine zW_iload_n 0 dX11_wrong_6 rfl ?_
  refine zF_if_eq 12 dX11_wrong_7 rfl rfl hf (fun c hf => ?_) (fun c hf => ?_)
  · refine zW_aload_n 1 dX11_wrong_12 rfl ?_
    refine zW_getR (q' := (7, 1, 0)) lk_RX11_56 (hw.1 _ o) rfl rfl (hw.2.1 _ _ _ o rfl) dX11_wrong_13 ?_
    refine zW_getR (q' := (9, 1, 0)) lk_RX11_246 (hw.1 _ (zok1 (r' := 7) h1 rfl)) rfl rfl (hw.2.1 _ _ _ (zok1 (r' := 7) h1 rfl) rfl) dX11_wrong_16 ?_
    refine zW_getR (q' := (38, 1, 0)) lk_RX11_324 (hw.1 _ (zokB (r' := 9) (zok1 (r' := 7) h1 rfl) rfl rfl)) rfl rfl (hw.2.1 _ _ _ (zokB (r' := 9) (zok1 (r' := 7) h1 rfl) rfl rfl) rfl) dX11_wrong_19 ?_
    refine zW_iload_n 2 dX11_wrong_22 rfl ?_
    obtain ⟨c2, hf⟩ := zgd hf
    refine zW_aald (q' := (11, 1, ix v1)) 4 rfl rfl (hw.1 _ (zokB (r' := 38) (zokB (r' := 9) (zok1 (r' := 7) h1 rfl) rfl rfl) rfl rfl)) rfl rfl c2 (hw.2.1 _ _ _ (zokB (r' := 38) (zokB (r' := 9) (zok1 (r' := 7) h1 rfl) rfl rfl) rfl rfl) rfl) dX11_wrong_23 ?_
    refine zW_getR (q' := (41, 1, ix v1)) lk_RX11_333 (hw.1 _ (zokE (r' := 11) (zokB (r' := 38) (zokB (r' := 9) (zok1 (r' := 7) h1 rfl) rfl rfl) rfl rfl) rfl rfl c2)) rfl rfl (hw.2.1 _ _ _ (zokE (r' := 11) (zokB (r' := 38) (zokB (r' := 9) (zok1 (r' := 7) h1 rfl) rfl rfl) rfl rfl) rfl rfl c2) rfl) dX11_wrong_24 ?_
    refine zW_astore_n (lv' := [(3, .ref (zad X (41, 1, ix v1))), (2, vi r1), (0, .ref (zad X (0, 0, 0))), (1, vi v1)]) dX11_wrong_27 rfl rfl ?_
    refine zW_aload_n 0 dX11_wrong_28 rfl ?_
    refine zW_aload_n 2 dX11_wrong_29 rfl ?_
    refine zW_getR (q' := (1, 0, 0)) lk_RX11_12 (hw.1 _ o) rfl rfl (hw.2.1 _ _ _ o rfl) dX11_wrong_30 ?_
    refine zW_getR (q' := (16, 0, 0)) lk_RX11_91 (hw.1 _ (zokA (r' := 1) o rfl rfl)) rfl rfl (hw.2.1 _ _ _ (zokA (r' := 1) o rfl rfl) rfl) dX11_wrong_33 ?_
    refine zW_aload_n 2 dX11_wrong_36 rfl ?_
    refine zW_getR (q' := (4, 0, 0)) lk_RX11_33 (hw.1 _ o) rfl rfl (hw.2.1 _ _ _ o rfl) dX11_wrong_37 ?_
    refine zW_aload_n 0 dX11_wrong_40 rfl ?_
    refine zC_Vwi (As := [.ref (zad X (41, 1, ix v1))]) (fun x hx => kX2_bestWord hw (q1 := (41, 1, ix v1)) (zokA (r' := 4) o rfl rfl) (hw.1 _ (zokC (r' := 41) (zokE (r' := 11) (zokB (r' := 38) (zokB (r' := 9) (zok1 (r' := 7) h1 rfl) rfl rfl) rfl rfl) rfl rfl c2) rfl rfl)) rfl hx) mv_RX11_349 (hw.1 _ (zokA (r' := 4) o rfl rfl)) rfl rfl rfl rfl rfl dX11_wrong_41 hf (fun r3 hf => ?_)
    obtain ⟨c4, hf⟩ := zgd hf
    refine zF_lald (hw.1 _ (zokA (r' := 16) (zokA (r' := 1) o rfl rfl) rfl rfl)) rfl c4 rfl dX11_wrong_44 ?_
    refine zC_Sri (As := [.ref (zad X (41, 1, ix v1)), vl (r3.2 (16, 0, 0) (ix r3.1))]) (fun x hx => kX11_unlikeSigns hw (q0 := (41, 1, ix v1)) (v1 := r3.2 (16, 0, 0) (ix r3.1)) (hw.1 _ (zokC (r' := 41) (zokE (r' := 11) (zokB (r' := 38) (zokB (r' := 9) (zok1 (r' := 7) h1 rfl) rfl rfl) rfl rfl) rfl rfl c2) rfl rfl)) rfl hx) ms_RX11_390 rfl rfl rfl rfl dX11_wrong_45 hf (fun r5 hf => ?_)
    exact zR_i hw rfl dX11_wrong_48 hf
  · refine zW_iload_n 0 dX11_wrong_10 rfl ?_
    exact zR_i hw rfl dX11_wrong_11 hf
theorem kX11_wrong {X : zX} {e : Nat → Prop} (hw : zWf X e) {v1 : Int} (o : zOk e (0, 0, 0)) (h1 : e 1) {I : zMem} {u : (Int × zMem)} (hf : fX11_wrong v1 I = some u) : zCn X mX11_wrong yX11_wrong [.ref (zad X (0, 0, 0)), vi v1] I (some (vi u.1), u.2) := zCn_of (by decide +kernel) rfl rfl ⟨rfl, rfl⟩ (tX11_wrong_0 hw.N o h1 hf)
set_option maxRecDepth 100000 in
theorem tX11_stored_0 {X : zX} {e : Nat → Prop} (hw : zWf X e) {v1 : Int} (o : zOk e (0, 0, 0)) (h1 : e 1) {I : zMem} {u : Int} (hf : fX11_stored v1 I = some u) : zW X (some (vi u), I) mX11_stored 0 [(0, .ref (zad X (0, 0, 0))), (1, vi v1)] [] I := by
  unfold fX11_stored at hf
  refine zW_iload_n 1 dX11_stored_0 rfl ?_
  refine zC_Sri (As := [vi v1]) (fun x hx => kX11_isSn hw (v0 := v1)  hx) ms_RX11_75 rfl rfl rfl rfl dX11_stored_1 hf (fun r1 hf => ?_)
  refine zF_if_ne 10 dX11_stored_4 rfl rfl hf (fun c hf => ?_) (fun c hf => ?_)
  · refine zW_bipush dX11_stored_7 rfl ?_
    exact zS_i hw rfl dX11_stored_9 hf
  · refine zW_aload_n 0 dX11_stored_10 rfl ?_
    refine zW_getR (q' := (7, 1, 0)) lk_RX11_56 (hw.1 _ o) rfl rfl (hw.2.1 _ _ _ o rfl) dX11_stored_11 ?_
    refine zW_getR (q' := (9, 1, 0)) lk_RX11_246 (hw.1 _ (zok1 (r' := 7) h1 rfl)) rfl rfl (hw.2.1 _ _ _ (zok1 (r' := 7) h1 rfl) rfl) dX11_stored_14 ?_
    refine zW_getR (q' := (39, 1, 0)) lk_RX11_394 (hw.1 _ (zokB (r' := 9) (zok1 (r' := 7) h1 rfl) rfl rfl)) rfl rfl (hw.2.1 _ _ _ (zokB (r' := 9) (zok1 (r' := 7) h1 rfl) rfl rfl) rfl) dX11_stored_17 ?_
    refine zW_iload_n 1 dX11_stored_20 rfl ?_
    obtain ⟨c2, hf⟩ := zgd hf
    refine zF_iald (hw.1 _ (zokB (r' := 39) (zokB (r' := 9) (zok1 (r' := 7) h1 rfl) rfl rfl) rfl rfl)) rfl c2 rfl dX11_stored_21 ?_
    refine zF_istore_n (lv' := fun a3 => [(2, vi a3), (0, .ref (zad X (0, 0, 0))), (1, vi v1)]) dX11_stored_22 hf (fun _ => rfl) rfl (fun a3 hf => ?_)
    refine zW_iload_n 0 dX11_stored_23 rfl ?_
    refine zW_iconst dX11_stored_24 ?_
    refine zF_icmp_ne 33 dX11_stored_25 rfl rfl (w32_lit _ rfl) hf (fun c hf => ?_) (fun c hf => ?_)
    · refine zW_bipush dX11_stored_28 rfl ?_
      refine zW_goto 34 dX11_stored_30 rfl ?_
      exact zS_i hw rfl dX11_stored_34 hf
    · refine zW_iload_n 0 dX11_stored_33 rfl ?_
      exact zS_i hw rfl dX11_stored_34 hf
theorem kX11_stored {X : zX} {e : Nat → Prop} (hw : zWf X e) {v1 : Int} (o : zOk e (0, 0, 0)) (h1 : e 1) {I : zMem} {u : Int} (hf : fX11_stored v1 I = some u) : zCn X mX11_stored yX11_stored [.ref (zad X (0, 0, 0)), vi v1] I (some (vi u), I) := zCn_of (by decide +kernel) rfl rfl ⟨rfl, rfl⟩ (tX11_stored_0 hw.N o h1 hf)
set_option maxRecDepth 100000 in
theorem tX11_gaps_0 {X : zX} {e : Nat → Prop} (hw : zWf X e) {v1 : Int} (o : zOk e (0, 0, 0)) (h1 : e 1) {I : zMem} {u : Int} (hf : fX11_gaps v1 I = some u) : zW X (some (vi u), I) mX11_gaps 0 [(0, .ref (zad X (0, 0, 0))), (1, vi v1)] [] I := by
  unfold fX11_gaps at hf
  refine zW_aload_n 0 dX11_gaps_0 rfl ?_
  refine zW_getR (q' := (7, 1, 0)) lk_RX11_56 (hw.1 _ o) rfl rfl (hw.2.1 _ _ _ o rfl) dX11_gaps_1 ?_
  refine zW_getR (q' := (9, 1, 0)) lk_RX11_246 (hw.1 _ (zok1 (r' := 7) h1 rfl)) rfl rfl (hw.2.1 _ _ _ (zok1 (r' := 7) h1 rfl) rfl) dX11_gaps_4 ?_
  refine zW_astore_n (lv' := [(2, .ref (zad X (9, 1, 0))), (0, .ref (zad X (0, 0, 0))), (1, vi v1)]) dX11_gaps_7 rfl rfl ?_
  refine zW_aload_n 0 dX11_gaps_8 rfl ?_
  refine zC_Vri (As := []) (fun x hx => kX5_farthestStored hw (L := 1) (zokB (r' := 9) (zok1 (r' := 7) h1 rfl) rfl rfl) hx) mv_RX11_397 (hw.1 _ (zokB (r' := 9) (zok1 (r' := 7) h1 rfl) rfl rfl)) rfl rfl rfl rfl rfl dX11_gaps_9 hf (fun r1 hf => ?_)
  refine zW_istore_n (lv' := [(3, vi r1), (2, .ref (zad X (9, 1, 0))), (0, .ref (zad X (0, 0, 0))), (1, vi v1)]) dX11_gaps_12 rfl rfl ?_
  refine zW_iload_n 3 dX11_gaps_13 rfl ?_
  rcases zif hf with ⟨ts0, hf⟩ | ⟨ts0, hf⟩
  · refine zW_tab 0 40 dX11_gaps_14 (by rw [ts0]; rfl) rfl rfl rfl ?_
    refine zW_iload_n 0 dX11_gaps_40 rfl ?_
    refine zW_iconst dX11_gaps_41 ?_
    refine zF_icmp_ne 49 dX11_gaps_42 rfl rfl (w32_lit _ rfl) hf (fun c hf => ?_) (fun c hf => ?_)
    · refine zW_iconst dX11_gaps_45 ?_
      refine zW_goto 57 dX11_gaps_46 rfl ?_
      exact zS_i hw rfl dX11_gaps_57 hf
    · refine zW_iload_n 0 dX11_gaps_49 rfl ?_
      refine zW_iconst dX11_gaps_50 ?_
      refine zW_iadd dX11_gaps_51 ?_
      refine zW_aload_n 1 dX11_gaps_52 rfl ?_
      refine zC_Vri (As := []) (fun x hx => kX5_howManyStored hw (L := 1) (zokB (r' := 9) (zok1 (r' := 7) h1 rfl) rfl rfl) hx) mv_RX11_401 (hw.1 _ (zokB (r' := 9) (zok1 (r' := 7) h1 rfl) rfl rfl)) rfl rfl rfl rfl rfl dX11_gaps_53 hf (fun r2 hf => ?_)
      refine zW_isub dX11_gaps_56 ?_
      exact zS_i hw rfl dX11_gaps_57 hf
  · rcases zif hf with ⟨ts1, hf⟩ | ⟨ts1, hf⟩
    · refine zW_tab 1 58 dX11_gaps_14 (by rw [ts1]; rfl) rfl rfl rfl ?_
      refine zW_aload_n 1 dX11_gaps_58 rfl ?_
      refine zC_Vri (As := []) (fun x hx => kX5_firstStored hw (L := 1) (zokB (r' := 9) (zok1 (r' := 7) h1 rfl) rfl rfl) hx) mv_RX11_404 (hw.1 _ (zokB (r' := 9) (zok1 (r' := 7) h1 rfl) rfl rfl)) rfl rfl rfl rfl rfl dX11_gaps_59 hf (fun r3 hf => ?_)
      exact zS_i hw rfl dX11_gaps_62 hf
    · rcases zif hf with ⟨ts2, hf⟩ | ⟨ts2, hf⟩
      · refine zW_tab 2 63 dX11_gaps_14 (by rw [ts2]; rfl) rfl rfl rfl ?_
        refine zW_iload_n 0 dX11_gaps_63 rfl ?_
        refine zW_iconst dX11_gaps_64 ?_
        refine zW_iadd dX11_gaps_65 ?_
        exact zS_i hw rfl dX11_gaps_66 hf
      · refine zW_tabd 67 dX11_gaps_14 (by omega) rfl ?_
        refine zW_bipush dX11_gaps_67 rfl ?_
        exact zS_i hw rfl dX11_gaps_69 hf
theorem kX11_gaps {X : zX} {e : Nat → Prop} (hw : zWf X e) {v1 : Int} (o : zOk e (0, 0, 0)) (h1 : e 1) {I : zMem} {u : Int} (hf : fX11_gaps v1 I = some u) : zCn X mX11_gaps yX11_gaps [.ref (zad X (0, 0, 0)), vi v1] I (some (vi u), I) := zCn_of (by decide +kernel) rfl rfl ⟨rfl, rfl⟩ (tX11_gaps_0 hw.N o h1 hf)
set_option maxRecDepth 100000 in
theorem tX11_given_0 {X : zX} {e : Nat → Prop} (hw : zWf X e) {v1 : Int} (o : zOk e (0, 0, 0)) (h1 : e 1) {I : zMem} {u : Int} (hf : fX11_given v1 I = some u) : zW X (some (vi u), I) mX11_given 0 [(0, .ref (zad X (0, 0, 0))), (1, vi v1)] [] I := by
  unfold fX11_given at hf
  refine zW_iload_n 1 dX11_given_0 rfl ?_
  refine zF_if_ge 7 dX11_given_1 rfl rfl hf (fun c hf => ?_) (fun c hf => ?_)
  · refine zW_aload_n 0 dX11_given_7 rfl ?_
    refine zW_getR (q' := (7, 1, 0)) lk_RX11_56 (hw.1 _ o) rfl rfl (hw.2.1 _ _ _ o rfl) dX11_given_8 ?_
    refine zW_getR (q' := (9, 1, 0)) lk_RX11_246 (hw.1 _ (zok1 (r' := 7) h1 rfl)) rfl rfl (hw.2.1 _ _ _ (zok1 (r' := 7) h1 rfl) rfl) dX11_given_11 ?_
    refine zW_iload_n 1 dX11_given_14 rfl ?_
    refine zC_Vri (As := [vi v1]) (fun x hx => kX5_givenAgo hw (L := 1) (v1 := v1) (zokB (r' := 9) (zok1 (r' := 7) h1 rfl) rfl rfl) hx) mv_RX11_280 (hw.1 _ (zokB (r' := 9) (zok1 (r' := 7) h1 rfl) rfl rfl)) rfl rfl rfl rfl rfl dX11_given_15 hf (fun r1 hf => ?_)
    exact zS_i hw rfl dX11_given_18 hf
  · refine zW_bipush dX11_given_4 rfl ?_
    exact zS_i hw rfl dX11_given_6 hf
theorem kX11_given {X : zX} {e : Nat → Prop} (hw : zWf X e) {v1 : Int} (o : zOk e (0, 0, 0)) (h1 : e 1) {I : zMem} {u : Int} (hf : fX11_given v1 I = some u) : zCn X mX11_given yX11_given [.ref (zad X (0, 0, 0)), vi v1] I (some (vi u), I) := zCn_of (by decide +kernel) rfl rfl ⟨rfl, rfl⟩ (tX11_given_0 hw.N o h1 hf)
set_option maxRecDepth 100000 in
theorem tX11_would_0 {X : zX} {e : Nat → Prop} (hw : zWf X e) {v1 : Int} {v2 : Int} (o : zOk e (0, 0, 0)) (h1 : e 1) {I : zMem} {u : Int} (hf : fX11_would v1 v2 I = some u) : zW X (some (vi u), I) mX11_would 0 [(0, .ref (zad X (0, 0, 0))), (1, vi v1), (2, vi v2)] [] I := by
  unfold fX11_would at hf
  refine zW_iload_n 1 dX11_would_0 rfl ?_
  refine zC_Sri (As := [vi v1]) (fun x hx => kX11_isSn hw (v0 := v1)  hx) ms_RX11_75 rfl rfl rfl rfl dX11_would_1 hf (fun r1 hf => ?_)
  refine zF_if_eq 16 dX11_would_4 rfl rfl hf (fun c hf => ?_) (fun c hf => ?_)
  · refine zW_bipush dX11_would_16 rfl ?_
    exact zS_i hw rfl dX11_would_18 hf
  · refine zW_iload_n 2 dX11_would_7 rfl ?_
    refine zF_if_lt 16 dX11_would_8 rfl rfl hf (fun c hf => ?_) (fun c hf => ?_)
    · refine zW_bipush dX11_would_16 rfl ?_
      exact zS_i hw rfl dX11_would_18 hf
    · refine zW_iload_n 2 dX11_would_11 rfl ?_
      refine zW_iconst dX11_would_12 ?_
      refine zF_icmp_le 19 dX11_would_13 rfl rfl (w32_lit _ rfl) hf (fun c hf => ?_) (fun c hf => ?_)
      · refine zW_aload_n 0 dX11_would_19 rfl ?_
        refine zW_getR (q' := (7, 1, 0)) lk_RX11_56 (hw.1 _ o) rfl rfl (hw.2.1 _ _ _ o rfl) dX11_would_20 ?_
        refine zW_getR (q' := (9, 1, 0)) lk_RX11_246 (hw.1 _ (zok1 (r' := 7) h1 rfl)) rfl rfl (hw.2.1 _ _ _ (zok1 (r' := 7) h1 rfl) rfl) dX11_would_23 ?_
        refine zW_astore_n (lv' := [(3, .ref (zad X (9, 1, 0))), (0, .ref (zad X (0, 0, 0))), (1, vi v1), (2, vi v2)]) dX11_would_26 rfl rfl ?_
        refine zW_aload_n 0 dX11_would_27 rfl ?_
        refine zW_iload_n 2 dX11_would_28 rfl ?_
        refine zW_aload_n 1 dX11_would_29 rfl ?_
        refine zW_getR (q' := (7, 1, 0)) lk_RX11_56 (hw.1 _ o) rfl rfl (hw.2.1 _ _ _ o rfl) dX11_would_30 ?_
        refine zW_getI lk_RX11_173 (hw.1 _ (zok1 (r' := 7) h1 rfl)) rfl rfl dX11_would_33 ?_
        refine zC_Vri (As := [vi v1, vi (I (7, 1, 0) 1)]) (fun x hx => kX5_fateOf hw (L := 1) (v1 := v1) (v2 := I (7, 1, 0) 1) (zokB (r' := 9) (zok1 (r' := 7) h1 rfl) rfl rfl) hx) mv_RX11_407 (hw.1 _ (zokB (r' := 9) (zok1 (r' := 7) h1 rfl) rfl rfl)) rfl rfl rfl rfl rfl dX11_would_36 hf (fun r2 hf => ?_)
        refine zW_istore (lv' := [(4, vi r2), (3, .ref (zad X (9, 1, 0))), (0, .ref (zad X (0, 0, 0))), (1, vi v1), (2, vi v2)]) dX11_would_39 rfl rfl ?_
        refine zW_iload_n 4 dX11_would_41 rfl ?_
        refine zF_if_ne 48 dX11_would_42 rfl rfl hf (fun c hf => ?_) (fun c hf => ?_)
        · refine zW_iload 0 dX11_would_45 rfl ?_
          exact zS_i hw rfl dX11_would_47 hf
        · refine zW_iload 0 dX11_would_48 rfl ?_
          refine zF_if_ne 62 dX11_would_50 rfl rfl hf (fun c hf => ?_) (fun c hf => ?_)
          · refine zW_iconst dX11_would_53 ?_
            refine zW_aload_n 1 dX11_would_54 rfl ?_
            refine zC_Vri (As := []) (fun x hx => kX5_readyBehindExpected hw (L := 1) (zokB (r' := 9) (zok1 (r' := 7) h1 rfl) rfl rfl) hx) mv_RX11_410 (hw.1 _ (zokB (r' := 9) (zok1 (r' := 7) h1 rfl) rfl rfl)) rfl rfl rfl rfl rfl dX11_would_55 hf (fun r3 hf => ?_)
            refine zW_iadd dX11_would_58 ?_
            refine zW_goto 63 dX11_would_59 rfl ?_
            exact zS_i hw rfl dX11_would_63 hf
          · refine zW_iconst dX11_would_62 ?_
            exact zS_i hw rfl dX11_would_63 hf
      · refine zW_bipush dX11_would_16 rfl ?_
        exact zS_i hw rfl dX11_would_18 hf
theorem kX11_would {X : zX} {e : Nat → Prop} (hw : zWf X e) {v1 : Int} {v2 : Int} (o : zOk e (0, 0, 0)) (h1 : e 1) {I : zMem} {u : Int} (hf : fX11_would v1 v2 I = some u) : zCn X mX11_would yX11_would [.ref (zad X (0, 0, 0)), vi v1, vi v2] I (some (vi u), I) := zCn_of (by decide +kernel) rfl rfl ⟨rfl, rfl⟩ (tX11_would_0 hw.N o h1 hf)
set_option maxRecDepth 100000 in
theorem tJ7_fill_031fb_l5_y {X : zX} {e : Nat → Prop} (hw : zWf X e) {T : zT} {q0 : zPl} {n0 : Nat} {v1 : Int} {w3 : Int} (hq0 : zDom X q0) (hk0 : zkd q0.1 = (13, n0)) (s : (Int × zMem)) {u : ((Int × zMem) ⊕ (Int × zMem))} (hf : fJ7_fill_031fb_l5 q0 n0 v1 w3 s = some u) (hk : ∀ s', u = .inl s' → zW X T mJ7_fill_031fb 5 [(0, .ref (zad X q0)), (1, vi v1), (2, vi s'.1), (3, vi w3)] [] s'.2) (hx : ∀ x, u = .inr x → zW X T mJ7_fill_031fb 20 [] [] x.2) : zW X T mJ7_fill_031fb 5 [(0, .ref (zad X q0)), (1, vi v1), (2, vi s.1), (3, vi w3)] [] s.2 := by
  unfold fJ7_fill_031fb_l5 at hf
  refine zW_iload_n 2 dJ7_fill_031fb_5 rfl ?_
  refine zW_iload_n 3 dJ7_fill_031fb_6 rfl ?_
  refine zF_icmp_ge 20 dJ7_fill_031fb_7 rfl rfl rfl hf (fun c hf => ?_) (fun c hf => ?_)
  · refine zW_sub [] rfl ?_
    exact hx _ (Option.some.inj hf).symm
  · refine zW_aload_n 0 dJ7_fill_031fb_10 rfl ?_
    refine zW_iload_n 2 dJ7_fill_031fb_11 rfl ?_
    refine zW_iload_n 1 dJ7_fill_031fb_12 rfl ?_
    obtain ⟨c2, hf⟩ := zgd hf
    refine zF_bast hq0 hk0 c2 rfl dJ7_fill_031fb_13 hf (fun I3 hf => ?_)
    refine zW_iinc 2 (lv' := [(2, vi (s.1 + 1)), (0, .ref (zad X q0)), (1, vi v1), (3, vi w3)]) dJ7_fill_031fb_14 rfl rfl rfl ?_
    refine zW_goto 5 dJ7_fill_031fb_17 rfl ?_
    refine zW_sub [1, 2, 0, 3] rfl ?_
    exact hk _ (Option.some.inj hf).symm
theorem tJ7_fill_031fb_l5 {X : zX} {e : Nat → Prop} (hw : zWf X e) {T : zT} {q0 : zPl} {n0 : Nat} {v1 : Int} {w3 : Int} (hq0 : zDom X q0) (hk0 : zkd q0.1 = (13, n0)) {s0 : (Int × zMem)} {α : Type} {F : (Int × zMem) → Option α} {u : α} (hf : zb (zlp (fJ7_fill_031fb_l5 q0 n0 v1 w3) 5000 s0) F = some u) (kx : ∀ x, F x = some u → zW X T mJ7_fill_031fb 20 [] [] x.2) : zW X T mJ7_fill_031fb 5 [(0, .ref (zad X q0)), (1, vi v1), (2, vi s0.1), (3, vi w3)] [] s0.2 := by
  obtain ⟨x, h, hf⟩ := zb_inv hf
  exact zlp_W (P := fun s => zW X T mJ7_fill_031fb 5 [(0, .ref (zad X q0)), (1, vi v1), (2, vi s.1), (3, vi w3)] [] s.2) (E := fun x => zW X T mJ7_fill_031fb 20 [] [] x.2) (fun s u h hk hx => tJ7_fill_031fb_l5_y hw hq0 hk0 s h hk hx) _ s0 x h (kx x hf)
set_option maxRecDepth 100000 in
theorem tJ7_fill_031fb_0 {X : zX} {e : Nat → Prop} (hw : zWf X e) {q0 : zPl} {n0 : Nat} {v1 : Int} (hq0 : zDom X q0) (hk0 : zkd q0.1 = (13, n0)) {I : zMem} {u : zMem} (hf : fJ7_fill_031fb q0 n0 v1 I = some u) : zW X (none, u) mJ7_fill_031fb 0 [(0, .ref (zad X q0)), (1, vi v1)] [] I := by
  unfold fJ7_fill_031fb at hf
  refine zW_iconst dJ7_fill_031fb_0 ?_
  refine zW_istore_n (lv' := [(2, vi 0), (0, .ref (zad X q0)), (1, vi v1)]) dJ7_fill_031fb_1 rfl rfl ?_
  refine zW_aload_n 1 dJ7_fill_031fb_2 rfl ?_
  refine zW_alen 0 rfl hq0 hk0 rfl dJ7_fill_031fb_3 ?_
  refine zF_istore_n (lv' := fun a1 => [(3, vi a1), (2, vi 0), (0, .ref (zad X q0)), (1, vi v1)]) dJ7_fill_031fb_4 hf (fun _ => rfl) rfl (fun a1 hf => ?_)
  refine zW_sub [2, 3, 1, 0] rfl ?_
  refine tJ7_fill_031fb_l5 hw hq0 hk0 (s0 := (0, I)) hf (fun x4 hf => ?_)
  exact zR_v hw rfl dJ7_fill_031fb_20 hf
theorem kJ7_fill_031fb {X : zX} {e : Nat → Prop} (hw : zWf X e) {q0 : zPl} {n0 : Nat} {v1 : Int} (hq0 : zDom X q0) (hk0 : zkd q0.1 = (13, n0)) {I : zMem} {u : zMem} (hf : fJ7_fill_031fb q0 n0 v1 I = some u) : zCn X mJ7_fill_031fb yJ7_fill_031fb [.ref (zad X q0), vi v1] I (none, u) := zCn_of (by decide +kernel) rfl rfl ⟨rfl, rfl⟩ (tJ7_fill_031fb_0 hw.N hq0 hk0 hf)
set_option maxRecDepth 100000 in
theorem tX11_tray_0 {X : zX} {e : Nat → Prop} (hw : zWf X e) {v1 : Int} {v2 : Int} (o : zOk e (0, 0, 0)) (h1 : e 1) {I : zMem} {u : (Int × zMem)} (hf : fX11_tray v1 v2 I = some u) : zW X (some (vi u.1), u.2) mX11_tray 0 [(0, .ref (zad X (0, 0, 0))), (1, vi v1), (2, vi v2)] [] I := by
  unfold fX11_tray at hf
  refine zW_iload_n 1 dX11_tray_0 rfl ?_
  refine zC_Sri (As := [vi v1]) (fun x hx => kX11_isTray hw (v0 := v1)  hx) ms_RX11_239 rfl rfl rfl rfl dX11_tray_1 hf (fun r1 hf => ?_)
  refine zF_if_ne 10 dX11_tray_4 rfl rfl hf (fun c hf => ?_) (fun c hf => ?_)
  · refine zW_bipush dX11_tray_7 rfl ?_
    exact zR_i hw rfl dX11_tray_9 hf
  · refine zW_iload_n 2 dX11_tray_10 rfl ?_
    refine zF_if_lt 20 dX11_tray_11 rfl rfl hf (fun c hf => ?_) (fun c hf => ?_)
    · refine zW_bipush dX11_tray_20 rfl ?_
      exact zR_i hw rfl dX11_tray_22 hf
    · refine zW_iload_n 2 dX11_tray_14 rfl ?_
      refine zW_bipush dX11_tray_15 rfl ?_
      refine zF_icmp_le 23 dX11_tray_17 rfl rfl (w32_lit _ rfl) hf (fun c hf => ?_) (fun c hf => ?_)
      · refine zW_aload_n 0 dX11_tray_23 rfl ?_
        refine zW_getR (q' := (6, 0, 0)) lk_RX11_49 (hw.1 _ o) rfl rfl (hw.2.1 _ _ _ o rfl) dX11_tray_24 ?_
        refine zW_getR (q' := (31, 0, 0)) lk_RX11_209 (hw.1 _ (zokA (r' := 6) o rfl rfl)) rfl rfl (hw.2.1 _ _ _ (zokA (r' := 6) o rfl rfl) rfl) dX11_tray_27 ?_
        refine zW_iload_n 1 dX11_tray_30 rfl ?_
        refine zW_iload_n 2 dX11_tray_31 rfl ?_
        obtain ⟨c2, hf⟩ := zgd hf
        refine zF_iast (hw.1 _ (zokA (r' := 31) (zokA (r' := 6) o rfl rfl) rfl rfl)) rfl c2 rfl dX11_tray_32 hf (fun I3 hf => ?_)
        refine zW_aload_n 0 dX11_tray_33 rfl ?_
        refine zW_getR (q' := (6, 0, 0)) lk_RX11_49 (hw.1 _ o) rfl rfl (hw.2.1 _ _ _ o rfl) dX11_tray_34 ?_
        refine zW_getR (q' := (29, 0, 0)) lk_RX11_218 (hw.1 _ (zokA (r' := 6) o rfl rfl)) rfl rfl (hw.2.1 _ _ _ (zokA (r' := 6) o rfl rfl) rfl) dX11_tray_37 ?_
        refine zW_iload_n 1 dX11_tray_40 rfl ?_
        refine zW_aald (q' := (30, 0, ix v1)) 7 rfl rfl (hw.1 _ (zokA (r' := 29) (zokA (r' := 6) o rfl rfl) rfl rfl)) rfl rfl c2 (hw.2.1 _ _ _ (zokA (r' := 29) (zokA (r' := 6) o rfl rfl) rfl rfl) rfl) dX11_tray_41 ?_
        refine zW_iconst dX11_tray_42 ?_
        refine zC_Swv (As := [.ref (zad X (30, 0, ix v1)), vi 0]) (fun x hx => kJ7_fill_031fb hw (q0 := (30, 0, ix v1)) (n0 := 60) (v1 := 0) (hw.1 _ (zokT (r' := 30) (zokA (r' := 29) (zokA (r' := 6) o rfl rfl) rfl rfl) rfl rfl c2)) rfl hx) ms_RX11_413 rfl rfl rfl rfl dX11_tray_43 hf (fun r4 hf => ?_)
        refine zW_iconst dX11_tray_46 ?_
        exact zR_i hw rfl dX11_tray_47 hf
      · refine zW_bipush dX11_tray_20 rfl ?_
        exact zR_i hw rfl dX11_tray_22 hf
theorem kX11_tray {X : zX} {e : Nat → Prop} (hw : zWf X e) {v1 : Int} {v2 : Int} (o : zOk e (0, 0, 0)) (h1 : e 1) {I : zMem} {u : (Int × zMem)} (hf : fX11_tray v1 v2 I = some u) : zCn X mX11_tray yX11_tray [.ref (zad X (0, 0, 0)), vi v1, vi v2] I (some (vi u.1), u.2) := zCn_of (by decide +kernel) rfl rfl ⟨rfl, rfl⟩ (tX11_tray_0 hw.N o h1 hf)
set_option maxRecDepth 100000 in
theorem tX11_write_0 {X : zX} {e : Nat → Prop} (hw : zWf X e) {v1 : Int} {v2 : Int} {v3 : Int} (o : zOk e (0, 0, 0)) (h1 : e 1) {I : zMem} {u : (Int × zMem)} (hf : fX11_write v1 v2 v3 I = some u) : zW X (some (vi u.1), u.2) mX11_write 0 [(0, .ref (zad X (0, 0, 0))), (1, vi v1), (2, vi v2), (3, vi v3)] [] I := by
  unfold fX11_write at hf
  refine zW_iload_n 1 dX11_write_0 rfl ?_
  refine zC_Sri (As := [vi v1]) (fun x hx => kX11_isTray hw (v0 := v1)  hx) ms_RX11_239 rfl rfl rfl rfl dX11_write_1 hf (fun r1 hf => ?_)
  refine zF_if_ne 11 dX11_write_4 rfl rfl hf (fun c hf => ?_) (fun c hf => ?_)
  · refine zW_sipush dX11_write_7 rfl ?_
    exact zR_i hw rfl dX11_write_10 hf
  · refine zW_aload_n 0 dX11_write_11 rfl ?_
    refine zW_getR (q' := (6, 0, 0)) lk_RX11_49 (hw.1 _ o) rfl rfl (hw.2.1 _ _ _ o rfl) dX11_write_12 ?_
    refine zW_iload_n 1 dX11_write_15 rfl ?_
    refine zC_Vri (As := [vi v1]) (fun x hx => kX9_isMissing hw (v1 := v1) (zokA (r' := 6) o rfl rfl) hx) mv_RX11_203 (hw.1 _ (zokA (r' := 6) o rfl rfl)) rfl rfl rfl rfl rfl dX11_write_16 hf (fun r2 hf => ?_)
    refine zF_if_eq 26 dX11_write_19 rfl rfl hf (fun c hf => ?_) (fun c hf => ?_)
    · refine zW_iload_n 2 dX11_write_26 rfl ?_
      refine zF_if_lt 43 dX11_write_27 rfl rfl hf (fun c hf => ?_) (fun c hf => ?_)
      · refine zW_sipush dX11_write_43 rfl ?_
        exact zR_i hw rfl dX11_write_46 hf
      · refine zW_iload_n 2 dX11_write_30 rfl ?_
        refine zW_aload_n 0 dX11_write_31 rfl ?_
        refine zW_getR (q' := (6, 0, 0)) lk_RX11_49 (hw.1 _ o) rfl rfl (hw.2.1 _ _ _ o rfl) dX11_write_32 ?_
        refine zW_getR (q' := (31, 0, 0)) lk_RX11_209 (hw.1 _ (zokA (r' := 6) o rfl rfl)) rfl rfl (hw.2.1 _ _ _ (zokA (r' := 6) o rfl rfl) rfl) dX11_write_35 ?_
        refine zW_iload_n 1 dX11_write_38 rfl ?_
        obtain ⟨c3, hf⟩ := zgd hf
        refine zF_iald (hw.1 _ (zokA (r' := 31) (zokA (r' := 6) o rfl rfl) rfl rfl)) rfl c3 rfl dX11_write_39 ?_
        refine zF_icmp_lt 47 dX11_write_40 rfl rfl rfl hf (fun c hf => ?_) (fun c hf => ?_)
        · refine zW_aload_n 0 dX11_write_47 rfl ?_
          refine zW_getR (q' := (6, 0, 0)) lk_RX11_49 (hw.1 _ o) rfl rfl (hw.2.1 _ _ _ o rfl) dX11_write_48 ?_
          refine zW_getR (q' := (29, 0, 0)) lk_RX11_218 (hw.1 _ (zokA (r' := 6) o rfl rfl)) rfl rfl (hw.2.1 _ _ _ (zokA (r' := 6) o rfl rfl) rfl) dX11_write_51 ?_
          refine zW_iload_n 1 dX11_write_54 rfl ?_
          refine zW_aald (q' := (30, 0, ix v1)) 7 rfl rfl (hw.1 _ (zokA (r' := 29) (zokA (r' := 6) o rfl rfl) rfl rfl)) rfl rfl c3 (hw.2.1 _ _ _ (zokA (r' := 29) (zokA (r' := 6) o rfl rfl) rfl rfl) rfl) dX11_write_55 ?_
          refine zW_iload_n 2 dX11_write_56 rfl ?_
          refine zW_iload_n 3 dX11_write_57 rfl ?_
          refine zW_i2b dX11_write_58 ?_
          obtain ⟨c4, hf⟩ := zgd hf
          refine zF_bast (hw.1 _ (zokT (r' := 30) (zokA (r' := 29) (zokA (r' := 6) o rfl rfl) rfl rfl) rfl rfl c3)) rfl c4 rfl dX11_write_59 hf (fun I5 hf => ?_)
          refine zW_aload_n 0 dX11_write_60 rfl ?_
          refine zW_getR (q' := (6, 0, 0)) lk_RX11_49 (hw.1 _ o) rfl rfl (hw.2.1 _ _ _ o rfl) dX11_write_61 ?_
          refine zW_getR (q' := (29, 0, 0)) lk_RX11_218 (hw.1 _ (zokA (r' := 6) o rfl rfl)) rfl rfl (hw.2.1 _ _ _ (zokA (r' := 6) o rfl rfl) rfl) dX11_write_64 ?_
          refine zW_iload_n 1 dX11_write_67 rfl ?_
          refine zW_aald (q' := (30, 0, ix v1)) 7 rfl rfl (hw.1 _ (zokA (r' := 29) (zokA (r' := 6) o rfl rfl) rfl rfl)) rfl rfl c3 (hw.2.1 _ _ _ (zokA (r' := 29) (zokA (r' := 6) o rfl rfl) rfl rfl) rfl) dX11_write_68 ?_
          refine zW_iload_n 2 dX11_write_69 rfl ?_
          refine zF_bald (hw.1 _ (zokT (r' := 30) (zokA (r' := 29) (zokA (r' := 6) o rfl rfl) rfl rfl) rfl rfl c3)) rfl c4 rfl dX11_write_70 ?_
          exact zR_i hw rfl dX11_write_71 hf
        · refine zW_sipush dX11_write_43 rfl ?_
          exact zR_i hw rfl dX11_write_46 hf
    · refine zW_sipush dX11_write_22 rfl ?_
      exact zR_i hw rfl dX11_write_25 hf
theorem kX11_write {X : zX} {e : Nat → Prop} (hw : zWf X e) {v1 : Int} {v2 : Int} {v3 : Int} (o : zOk e (0, 0, 0)) (h1 : e 1) {I : zMem} {u : (Int × zMem)} (hf : fX11_write v1 v2 v3 I = some u) : zCn X mX11_write yX11_write [.ref (zad X (0, 0, 0)), vi v1, vi v2, vi v3] I (some (vi u.1), u.2) := zCn_of (by decide +kernel) rfl rfl ⟨rfl, rfl⟩ (tX11_write_0 hw.N o h1 hf)
set_option maxRecDepth 100000 in
theorem tX11_lists_l69_y {X : zX} {e : Nat → Prop} (hw : zWf X e) {T : zT} {v1 : Int} {v2 : Int} {w3 : Int} (o : zOk e (0, 0, 0)) (h1 : e 1) (s : (Int × zMem)) {u : ((Int × zMem) ⊕ (Int × zMem))} (hf : fX11_lists_l69 v1 v2 w3 s = some u) (hk : ∀ s', u = .inl s' → zW X T mX11_lists 69 [(0, .ref (zad X (0, 0, 0))), (1, vi v1), (2, vi v2), (3, vi w3), (4, vi s'.1)] [] s'.2) (hx : ∀ x, u = .inr x → zW X T mX11_lists 117 [(3, vi w3)] [] x.2) : zW X T mX11_lists 69 [(0, .ref (zad X (0, 0, 0))), (1, vi v1), (2, vi v2), (3, vi w3), (4, vi s.1)] [] s.2 := by
  unfold fX11_lists_l69 at hf
  refine zW_iload 4 dX11_lists_69 rfl ?_
  refine zW_iload_n 3 dX11_lists_71 rfl ?_
  refine zF_icmp_ge 117 dX11_lists_72 rfl rfl rfl hf (fun c hf => ?_) (fun c hf => ?_)
  · refine zW_sub [3] rfl ?_
    exact hx _ (Option.some.inj hf).symm
  · refine zW_aload_n 0 dX11_lists_75 rfl ?_
    refine zW_getR (q' := (6, 0, 0)) lk_RX11_49 (hw.1 _ o) rfl rfl (hw.2.1 _ _ _ o rfl) dX11_lists_76 ?_
    refine zW_getR (q' := (29, 0, 0)) lk_RX11_218 (hw.1 _ (zokA (r' := 6) o rfl rfl)) rfl rfl (hw.2.1 _ _ _ (zokA (r' := 6) o rfl rfl) rfl) dX11_lists_79 ?_
    refine zW_iload_n 1 dX11_lists_82 rfl ?_
    obtain ⟨c7, hf⟩ := zgd hf
    refine zW_aald (q' := (30, 0, ix v1)) 7 rfl rfl (hw.1 _ (zokA (r' := 29) (zokA (r' := 6) o rfl rfl) rfl rfl)) rfl rfl c7 (hw.2.1 _ _ _ (zokA (r' := 29) (zokA (r' := 6) o rfl rfl) rfl rfl) rfl) dX11_lists_83 ?_
    refine zW_iload 4 dX11_lists_84 rfl ?_
    refine zW_aload_n 0 dX11_lists_86 rfl ?_
    refine zW_getR (q' := (7, 1, 0)) lk_RX11_56 (hw.1 _ o) rfl rfl (hw.2.1 _ _ _ o rfl) dX11_lists_87 ?_
    refine zW_getR (q' := (9, 1, 0)) lk_RX11_246 (hw.1 _ (zok1 (r' := 7) h1 rfl)) rfl rfl (hw.2.1 _ _ _ (zok1 (r' := 7) h1 rfl) rfl) dX11_lists_90 ?_
    refine zW_getR (q' := (38, 1, 0)) lk_RX11_324 (hw.1 _ (zokB (r' := 9) (zok1 (r' := 7) h1 rfl) rfl rfl)) rfl rfl (hw.2.1 _ _ _ (zokB (r' := 9) (zok1 (r' := 7) h1 rfl) rfl rfl) rfl) dX11_lists_93 ?_
    refine zW_iload_n 2 dX11_lists_96 rfl ?_
    obtain ⟨c8, hf⟩ := zgd hf
    refine zW_aald (q' := (11, 1, ix v2)) 4 rfl rfl (hw.1 _ (zokB (r' := 38) (zokB (r' := 9) (zok1 (r' := 7) h1 rfl) rfl rfl) rfl rfl)) rfl rfl c8 (hw.2.1 _ _ _ (zokB (r' := 38) (zokB (r' := 9) (zok1 (r' := 7) h1 rfl) rfl rfl) rfl rfl) rfl) dX11_lists_97 ?_
    refine zW_getR (q' := (41, 1, ix v2)) lk_RX11_333 (hw.1 _ (zokE (r' := 11) (zokB (r' := 38) (zokB (r' := 9) (zok1 (r' := 7) h1 rfl) rfl rfl) rfl rfl) rfl rfl c8)) rfl rfl (hw.2.1 _ _ _ (zokE (r' := 11) (zokB (r' := 38) (zokB (r' := 9) (zok1 (r' := 7) h1 rfl) rfl rfl) rfl rfl) rfl rfl c8) rfl) dX11_lists_98 ?_
    refine zW_iload 4 dX11_lists_101 rfl ?_
    obtain ⟨c9, hf⟩ := zgd hf
    refine zF_iald (hw.1 _ (zokC (r' := 41) (zokE (r' := 11) (zokB (r' := 38) (zokB (r' := 9) (zok1 (r' := 7) h1 rfl) rfl rfl) rfl rfl) rfl rfl c8) rfl rfl)) rfl c9 rfl dX11_lists_103 ?_
    refine zW_bipush dX11_lists_104 rfl ?_
    refine zC_Sri (As := [vi (s.2 (41, 1, ix v2) (ix s.1)), vi 127]) (fun x hx => kX0_within hw (v0 := s.2 (41, 1, ix v2) (ix s.1)) (v1 := 127)  hx) ms_RX11_421 rfl rfl rfl rfl dX11_lists_106 hf (fun r10 hf => ?_)
    refine zW_i2b dX11_lists_109 ?_
    obtain ⟨c11, hf⟩ := zgd hf
    refine zF_bast (hw.1 _ (zokT (r' := 30) (zokA (r' := 29) (zokA (r' := 6) o rfl rfl) rfl rfl) rfl rfl c7)) rfl c11 rfl dX11_lists_110 hf (fun I12 hf => ?_)
    refine zW_iinc 4 (lv' := [(4, vi (s.1 + 1)), (0, .ref (zad X (0, 0, 0))), (1, vi v1), (2, vi v2), (3, vi w3)]) dX11_lists_111 rfl rfl rfl ?_
    refine zW_goto 69 dX11_lists_114 rfl ?_
    refine zW_sub [1, 2, 3, 4, 0] rfl ?_
    exact hk _ (Option.some.inj hf).symm
theorem tX11_lists_l69 {X : zX} {e : Nat → Prop} (hw : zWf X e) {T : zT} {v1 : Int} {v2 : Int} {w3 : Int} (o : zOk e (0, 0, 0)) (h1 : e 1) {s0 : (Int × zMem)} {α : Type} {F : (Int × zMem) → Option α} {u : α} (hf : zb (zlp (fX11_lists_l69 v1 v2 w3) 5000 s0) F = some u) (kx : ∀ x, F x = some u → zW X T mX11_lists 117 [(3, vi w3)] [] x.2) : zW X T mX11_lists 69 [(0, .ref (zad X (0, 0, 0))), (1, vi v1), (2, vi v2), (3, vi w3), (4, vi s0.1)] [] s0.2 := by
  obtain ⟨x, h, hf⟩ := zb_inv hf
  exact zlp_W (P := fun s => zW X T mX11_lists 69 [(0, .ref (zad X (0, 0, 0))), (1, vi v1), (2, vi v2), (3, vi w3), (4, vi s.1)] [] s.2) (E := fun x => zW X T mX11_lists 117 [(3, vi w3)] [] x.2) (fun s u h hk hx => tX11_lists_l69_y hw o h1 s h hk hx) _ s0 x h (kx x hf)
set_option maxRecDepth 100000 in
theorem tX11_lists_0 {X : zX} {e : Nat → Prop} (hw : zWf X e) {v1 : Int} {v2 : Int} (o : zOk e (0, 0, 0)) (h1 : e 1) {I : zMem} {u : (Int × zMem)} (hf : fX11_lists v1 v2 I = some u) : zW X (some (vi u.1), u.2) mX11_lists 0 [(0, .ref (zad X (0, 0, 0))), (1, vi v1), (2, vi v2)] [] I := by
  unfold fX11_lists at hf
  refine zW_iload_n 1 dX11_lists_0 rfl ?_
  refine zC_Sri (As := [vi v1]) (fun x hx => kX11_isTray hw (v0 := v1)  hx) ms_RX11_239 rfl rfl rfl rfl dX11_lists_1 hf (fun r1 hf => ?_)
  refine zF_if_eq 15 dX11_lists_4 rfl rfl hf (fun c hf => ?_) (fun c hf => ?_)
  · refine zW_bipush dX11_lists_15 rfl ?_
    exact zR_i hw rfl dX11_lists_17 hf
  · refine zW_aload_n 0 dX11_lists_7 rfl ?_
    refine zW_iload_n 2 dX11_lists_8 rfl ?_
    refine zC_Vri (As := [vi v2]) (fun x hx => kX11_isProcess hw (v1 := v2) o h1 hx) mv_RX11_200 (hw.1 _ o) rfl rfl rfl rfl rfl dX11_lists_9 hf (fun r2 hf => ?_)
    refine zF_if_ne 18 dX11_lists_12 rfl rfl hf (fun c hf => ?_) (fun c hf => ?_)
    · refine zW_bipush dX11_lists_15 rfl ?_
      exact zR_i hw rfl dX11_lists_17 hf
    · refine zW_aload_n 0 dX11_lists_18 rfl ?_
      refine zW_getR (q' := (6, 0, 0)) lk_RX11_49 (hw.1 _ o) rfl rfl (hw.2.1 _ _ _ o rfl) dX11_lists_19 ?_
      refine zW_iload_n 1 dX11_lists_22 rfl ?_
      refine zC_Vri (As := [vi v1]) (fun x hx => kX9_isMissing hw (v1 := v1) (zokA (r' := 6) o rfl rfl) hx) mv_RX11_203 (hw.1 _ (zokA (r' := 6) o rfl rfl)) rfl rfl rfl rfl rfl dX11_lists_23 hf (fun r3 hf => ?_)
      refine zF_if_ne 48 dX11_lists_26 rfl rfl hf (fun c hf => ?_) (fun c hf => ?_)
      · refine zW_aload_n 0 dX11_lists_29 rfl ?_
        refine zW_getR (q' := (7, 1, 0)) lk_RX11_56 (hw.1 _ o) rfl rfl (hw.2.1 _ _ _ o rfl) dX11_lists_30 ?_
        refine zW_getR (q' := (9, 1, 0)) lk_RX11_246 (hw.1 _ (zok1 (r' := 7) h1 rfl)) rfl rfl (hw.2.1 _ _ _ (zok1 (r' := 7) h1 rfl) rfl) dX11_lists_33 ?_
        refine zW_getR (q' := (38, 1, 0)) lk_RX11_324 (hw.1 _ (zokB (r' := 9) (zok1 (r' := 7) h1 rfl) rfl rfl)) rfl rfl (hw.2.1 _ _ _ (zokB (r' := 9) (zok1 (r' := 7) h1 rfl) rfl rfl) rfl) dX11_lists_36 ?_
        refine zW_iload_n 2 dX11_lists_39 rfl ?_
        obtain ⟨c4, hf⟩ := zgd hf
        refine zW_aald (q' := (11, 1, ix v2)) 4 rfl rfl (hw.1 _ (zokB (r' := 38) (zokB (r' := 9) (zok1 (r' := 7) h1 rfl) rfl rfl) rfl rfl)) rfl rfl c4 (hw.2.1 _ _ _ (zokB (r' := 38) (zokB (r' := 9) (zok1 (r' := 7) h1 rfl) rfl rfl) rfl rfl) rfl) dX11_lists_40 ?_
        refine zW_getI lk_RX11_328 (hw.1 _ (zokE (r' := 11) (zokB (r' := 38) (zokB (r' := 9) (zok1 (r' := 7) h1 rfl) rfl rfl) rfl rfl) rfl rfl c4)) rfl rfl dX11_lists_41 ?_
        refine zW_iconst dX11_lists_44 ?_
        refine zF_icmp_ne 51 dX11_lists_45 rfl rfl (w32_lit _ rfl) hf (fun c hf => ?_) (fun c hf => ?_)
        · refine zW_bipush dX11_lists_48 rfl ?_
          exact zR_i hw rfl dX11_lists_50 hf
        · refine zW_bipush dX11_lists_51 rfl ?_
          refine zW_aload_n 0 dX11_lists_53 rfl ?_
          refine zW_getR (q' := (6, 0, 0)) lk_RX11_49 (hw.1 _ o) rfl rfl (hw.2.1 _ _ _ o rfl) dX11_lists_54 ?_
          refine zW_getR (q' := (31, 0, 0)) lk_RX11_209 (hw.1 _ (zokA (r' := 6) o rfl rfl)) rfl rfl (hw.2.1 _ _ _ (zokA (r' := 6) o rfl rfl) rfl) dX11_lists_57 ?_
          refine zW_iload_n 1 dX11_lists_60 rfl ?_
          obtain ⟨c5, hf⟩ := zgd hf
          refine zF_iald (hw.1 _ (zokA (r' := 31) (zokA (r' := 6) o rfl rfl) rfl rfl)) rfl c5 rfl dX11_lists_61 ?_
          refine zW_min mm_RX11_416 rfl dX11_lists_62 ?_
          refine zF_istore_n (lv' := fun a6 => [(3, vi a6), (0, .ref (zad X (0, 0, 0))), (1, vi v1), (2, vi v2)]) dX11_lists_65 hf (fun _ => rfl) rfl (fun a6 hf => ?_)
          refine zW_iconst dX11_lists_66 ?_
          refine zW_istore (lv' := [(4, vi 0), (3, vi a6), (0, .ref (zad X (0, 0, 0))), (1, vi v1), (2, vi v2)]) dX11_lists_67 rfl rfl ?_
          refine zW_sub [2, 3, 4, 1, 0] rfl ?_
          refine tX11_lists_l69 hw o h1 (s0 := (0, I)) hf (fun x13 hf => ?_)
          refine zW_iload_n 0 dX11_lists_117 rfl ?_
          exact zR_i hw rfl dX11_lists_118 hf
      · refine zW_bipush dX11_lists_48 rfl ?_
        exact zR_i hw rfl dX11_lists_50 hf
theorem kX11_lists {X : zX} {e : Nat → Prop} (hw : zWf X e) {v1 : Int} {v2 : Int} (o : zOk e (0, 0, 0)) (h1 : e 1) {I : zMem} {u : (Int × zMem)} (hf : fX11_lists v1 v2 I = some u) : zCn X mX11_lists yX11_lists [.ref (zad X (0, 0, 0)), vi v1, vi v2] I (some (vi u.1), u.2) := zCn_of (by decide +kernel) rfl rfl ⟨rfl, rfl⟩ (tX11_lists_0 hw.N o h1 hf)
