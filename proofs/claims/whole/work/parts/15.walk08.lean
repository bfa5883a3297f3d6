set_option maxRecDepth 100000 in
theorem tX12_run_b57_93 {X : zX} {e : Nat → Prop} (hw : zWf X e) {T : zT} {v1 : Int} {v2 : Int} {v3 : Int} {v4 : Int} {w5 : Int} {w6 : Int} {I : zMem} (o : zOk e (50, 0, 0)) {u : ((Int × zMem) ⊕ (Int × zMem))} (hf : fX12_run_b57_93 v1 v2 v3 v4 w5 w6 I = some u) (hk : ∀ s', u = .inl s' → zW X T mX12_run 57 [(0, .ref (zad X (50, 0, 0))), (2, vi v2), (3, vi v3), (4, vi v4), (5, vi w5), (6, vi s'.1)] [] s'.2) (hx : ∀ x, u = .inr x → zW X T mX12_run 99 [(0, .ref (zad X (50, 0, 0))), (5, vi w5)] [] x.2) : zW X T mX12_run 93 [(0, .ref (zad X (50, 0, 0))), (2, vi v2), (3, vi v3), (4, vi v4), (5, vi w5), (6, vi w6)] [] I := by
  unfold fX12_run_b57_93 at hf
  refine zW_iinc 5 (lv' := [(6, vi (w6 + 1)), (0, .ref (zad X (50, 0, 0))), (2, vi v2), (3, vi v3), (4, vi v4), (5, vi w5)]) dX12_run_93 rfl rfl rfl ?_
  refine zW_goto 57 dX12_run_96 rfl ?_
  refine zW_sub [1, 2, 3, 4, 5, 0] rfl ?_
  exact hk _ (Option.some.inj hf).symm
set_option maxRecDepth 100000 in
theorem tX12_run_l57_y {X : zX} {e : Nat → Prop} (hw : zWf X e) {T : zT} {v1 : Int} {v2 : Int} {v3 : Int} {v4 : Int} {w5 : Int} (o : zOk e (50, 0, 0)) (s : (Int × zMem)) {u : ((Int × zMem) ⊕ (Int × zMem))} (hf : fX12_run_l57 v1 v2 v3 v4 w5 s = some u) (hk : ∀ s', u = .inl s' → zW X T mX12_run 57 [(0, .ref (zad X (50, 0, 0))), (2, vi v2), (3, vi v3), (4, vi v4), (5, vi w5), (6, vi s'.1)] [] s'.2) (hx : ∀ x, u = .inr x → zW X T mX12_run 99 [(0, .ref (zad X (50, 0, 0))), (5, vi w5)] [] x.2) : zW X T mX12_run 57 [(0, .ref (zad X (50, 0, 0))), (2, vi v2), (3, vi v3), (4, vi v4), (5, vi w5), (6, vi s.1)] [] s.2 := by
  unfold fX12_run_l57 at hf
  refine zW_iload 5 dX12_run_57 rfl ?_
  refine zW_iload_n 1 dX12_run_59 rfl ?_
  refine zF_icmp_ge 99 dX12_run_60 rfl rfl rfl hf (fun c hf => ?_) (fun c hf => ?_)
  · refine zW_sub [0, 4] rfl ?_
    exact hx _ (Option.some.inj hf).symm
  · refine zW_aload_n 0 dX12_run_63 rfl ?_
    refine zW_iload 5 dX12_run_64 rfl ?_
    refine zW_aload_n 0 dX12_run_66 rfl ?_
    refine zW_getR (q' := (51, 0, 0)) lk_RX12_13 (hw.1 _ o) rfl rfl (hw.2.1 _ _ _ o rfl) dX12_run_67 ?_
    refine zW_iconst dX12_run_70 ?_
    refine zF_iald (hw.1 _ (zokM (r' := 51) o rfl rfl)) rfl (zin_lit _ _ rfl) (ix_lit _ rfl) dX12_run_71 ?_
    obtain ⟨c, hf⟩ := zgd hf
    refine zW_irem dX12_run_72 c ?_
    refine zW_iload_n 2 dX12_run_73 rfl ?_
    refine zW_iload 3 dX12_run_74 rfl ?_
    refine zC_Vwv (As := [vi (irem s.1 (s.2 (51, 0, 0) 0)), vi v3, vi v4]) (fun x hx => kX12_goesRound hw (v1 := irem s.1 (s.2 (51, 0, 0) 0)) (v2 := v3) (v3 := v4) o hx) mv_RX12_257 (hw.1 _ o) rfl rfl rfl rfl rfl dX12_run_76 hf (fun r7 hf => ?_)
    refine zW_iload 5 dX12_run_79 rfl ?_
    refine zW_bipush dX12_run_81 rfl ?_
    refine zW_irem dX12_run_83 (w32_ne0 _ rfl) ?_
    refine zW_bipush dX12_run_84 rfl ?_
    refine zF_icmp_ne 93 dX12_run_86 rfl rfl (w32_lit _ rfl) hf (fun c hf => ?_) (fun c hf => ?_)
    · refine zW_aload_n 0 dX12_run_89 rfl ?_
      refine zC_Vwv (As := []) (fun x hx => kX12_reports hw o hx) mv_RX12_245 (hw.1 _ o) rfl rfl rfl rfl rfl dX12_run_90 hf (fun r8 hf => ?_)
      refine zW_sub [0, 1, 2, 3, 4, 5] rfl ?_
      exact tX12_run_b57_93 hw o hf hk hx
    · refine zW_sub [0, 1, 2, 3, 4, 5] rfl ?_
      exact tX12_run_b57_93 hw o hf hk hx
theorem tX12_run_l57 {X : zX} {e : Nat → Prop} (hw : zWf X e) {T : zT} {v1 : Int} {v2 : Int} {v3 : Int} {v4 : Int} {w5 : Int} (o : zOk e (50, 0, 0)) {s0 : (Int × zMem)} {α : Type} {F : (Int × zMem) → Option α} {u : α} (hf : zb (zlp (fX12_run_l57 v1 v2 v3 v4 w5) 5000 s0) F = some u) (kx : ∀ x, F x = some u → zW X T mX12_run 99 [(0, .ref (zad X (50, 0, 0))), (5, vi w5)] [] x.2) : zW X T mX12_run 57 [(0, .ref (zad X (50, 0, 0))), (2, vi v2), (3, vi v3), (4, vi v4), (5, vi w5), (6, vi s0.1)] [] s0.2 := by
  obtain ⟨x, h, hf⟩ := zb_inv hf
  exact zlp_W (P := fun s => zW X T mX12_run 57 [(0, .ref (zad X (50, 0, 0))), (2, vi v2), (3, vi v3), (4, vi v4), (5, vi w5), (6, vi s.1)] [] s.2) (E := fun x => zW X T mX12_run 99 [(0, .ref (zad X (50, 0, 0))), (5, vi w5)] [] x.2) (fun s u h hk hx => tX12_run_l57_y hw o s h hk hx) _ s0 x h (kx x hf)
set_option maxRecDepth 100000 in
theorem tX12_run_0 {X : zX} {e : Nat → Prop} (hw : zWf X e) {v1 : Int} {v2 : Int} {v3 : Int} {v4 : Int} (o : zOk e (50, 0, 0)) {I : zMem} {u : (Int × zMem)} (hf : fX12_run v1 v2 v3 v4 I = some u) : zW X (some (vi u.1), u.2) mX12_run 0 [(0, .ref (zad X (50, 0, 0))), (1, vi v1), (2, vi v2), (3, vi v3), (4, vi v4)] [] I := by
  unfold fX12_run at hf
  refine zW_aload_n 0 dX12_run_0 rfl ?_
  refine zW_iconst dX12_run_1 ?_
  refine zF_put lk_RX12_1 (hw.1 _ o) rfl rfl (zn_int _) dX12_run_2 hf (fun I1 hf => ?_)
  refine zW_iload_n 2 dX12_run_5 rfl ?_
  refine zW_i2l dX12_run_6 ?_
  refine zW_lconst1 dX12_run_7 ?_
  refine zW_ldc2 dX12_run_8 wc_RX12_98 ?_
  refine zC_Sri (As := [vl (w32 v2), vl 1, vl 60]) (fun x hx => kX12_within hw (v0 := w32 v2) (v2 := 1) (v4 := 60)  hx) ms_RX12_94 rfl rfl rfl rfl dX12_run_11 hf (fun r2 hf => ?_)
  refine zF_if_eq 37 dX12_run_14 rfl rfl hf (fun c hf => ?_) (fun c hf => ?_)
  · refine zW_bipush dX12_run_37 rfl ?_
    exact zR_i hw rfl dX12_run_39 hf
  · refine zW_iload_n 3 dX12_run_17 rfl ?_
    refine zC_Sri (As := [vi v3]) (fun x hx => kX12_isLength hw (v0 := v3)  hx) ms_RX12_134 rfl rfl rfl rfl dX12_run_18 hf (fun r3 hf => ?_)
    refine zF_if_eq 37 dX12_run_21 rfl rfl hf (fun c hf => ?_) (fun c hf => ?_)
    · refine zW_bipush dX12_run_37 rfl ?_
      exact zR_i hw rfl dX12_run_39 hf
    · refine zW_iload 4 dX12_run_24 rfl ?_
      refine zW_i2l dX12_run_26 ?_
      refine zW_lconst0 dX12_run_27 ?_
      refine zW_ldc2 dX12_run_28 wc_RX12_255 ?_
      refine zC_Sri (As := [vl (w32 v4), vl 0, vl 127]) (fun x hx => kX12_within hw (v0 := w32 v4) (v2 := 0) (v4 := 127)  hx) ms_RX12_94 rfl rfl rfl rfl dX12_run_31 hf (fun r4 hf => ?_)
      refine zF_if_ne 40 dX12_run_34 rfl rfl hf (fun c hf => ?_) (fun c hf => ?_)
      · refine zW_bipush dX12_run_37 rfl ?_
        exact zR_i hw rfl dX12_run_39 hf
      · refine zW_aload_n 0 dX12_run_40 rfl ?_
        refine zW_iload_n 1 dX12_run_41 rfl ?_
        refine zF_put lk_RX12_249 (hw.1 _ o) rfl rfl (zn_int _) dX12_run_42 hf (fun I5 hf => ?_)
        refine zW_aload_n 0 dX12_run_45 rfl ?_
        refine zW_getR (q' := (51, 0, 0)) lk_RX12_13 (hw.1 _ o) rfl rfl (hw.2.1 _ _ _ o rfl) dX12_run_46 ?_
        refine zW_bipush dX12_run_49 rfl ?_
        refine zF_iald (hw.1 _ (zokM (r' := 51) o rfl rfl)) rfl (zin_lit _ _ rfl) (ix_lit _ rfl) dX12_run_51 ?_
        refine zF_istore (lv' := fun a6 => [(5, vi a6), (0, .ref (zad X (50, 0, 0))), (1, vi v1), (2, vi v2), (3, vi v3), (4, vi v4)]) dX12_run_52 hf (fun _ => rfl) rfl (fun a6 hf => ?_)
        refine zW_iconst dX12_run_54 ?_
        refine zW_istore (lv' := [(6, vi 0), (5, vi a6), (0, .ref (zad X (50, 0, 0))), (1, vi v1), (2, vi v2), (3, vi v3), (4, vi v4)]) dX12_run_55 rfl rfl ?_
        refine zW_sub [2, 4, 5, 6, 1, 0] rfl ?_
        refine tX12_run_l57 hw o (s0 := (0, I5)) hf (fun x9 hf => ?_)
        refine zW_aload_n 0 dX12_run_99 rfl ?_
        refine zW_getR (q' := (51, 0, 0)) lk_RX12_13 (hw.1 _ o) rfl rfl (hw.2.1 _ _ _ o rfl) dX12_run_100 ?_
        refine zW_bipush dX12_run_103 rfl ?_
        refine zF_iald (hw.1 _ (zokM (r' := 51) o rfl rfl)) rfl (zin_lit _ _ rfl) (ix_lit _ rfl) dX12_run_105 ?_
        refine zW_iload 1 dX12_run_106 rfl ?_
        refine zW_isub dX12_run_108 ?_
        exact zR_i hw rfl dX12_run_109 hf
theorem kX12_run {X : zX} {e : Nat → Prop} (hw : zWf X e) {v1 : Int} {v2 : Int} {v3 : Int} {v4 : Int} (o : zOk e (50, 0, 0)) {I : zMem} {u : (Int × zMem)} (hf : fX12_run v1 v2 v3 v4 I = some u) : zCn X mX12_run yX12_run [.ref (zad X (50, 0, 0)), vi v1, vi v2, vi v3, vi v4] I (some (vi u.1), u.2) := zCn_of (by decide +kernel) rfl rfl ⟨rfl, rfl⟩ (tX12_run_0 hw.N o hf)
set_option maxRecDepth 100000 in
theorem tX12_goesClean_b2_61 {X : zX} {e : Nat → Prop} (hw : zWf X e) {T : zT} {v1 : Int} {w2 : Int} {I : zMem} (o : zOk e (50, 0, 0)) {u : ((Int × zMem) ⊕ (Int × zMem))} (hf : fX12_goesClean_b2_61 v1 w2 I = some u) (hk : ∀ s', u = .inl s' → zW X T mX12_goesClean 2 [(0, .ref (zad X (50, 0, 0))), (1, vi v1), (2, vi s'.1)] [] s'.2) (hx : ∀ x, u = .inr x → zW X T mX12_goesClean 67 [(0, .ref (zad X (50, 0, 0)))] [] x.2) : zW X T mX12_goesClean 61 [(0, .ref (zad X (50, 0, 0))), (1, vi v1), (2, vi w2)] [] I := by
  unfold fX12_goesClean_b2_61 at hf
  refine zW_iinc 2 (lv' := [(2, vi (w2 + 1)), (0, .ref (zad X (50, 0, 0))), (1, vi v1)]) dX12_goesClean_61 rfl rfl rfl ?_
  refine zW_goto 2 dX12_goesClean_64 rfl ?_
  refine zW_sub [1, 2, 0] rfl ?_
  exact hk _ (Option.some.inj hf).symm
set_option maxRecDepth 100000 in
theorem tX12_goesClean_b2_35 {X : zX} {e : Nat → Prop} (hw : zWf X e) {T : zT} {v1 : Int} {w2 : Int} {I : zMem} (o : zOk e (50, 0, 0)) {u : ((Int × zMem) ⊕ (Int × zMem))} (hf : fX12_goesClean_b2_35 v1 w2 I = some u) (hk : ∀ s', u = .inl s' → zW X T mX12_goesClean 2 [(0, .ref (zad X (50, 0, 0))), (1, vi v1), (2, vi s'.1)] [] s'.2) (hx : ∀ x, u = .inr x → zW X T mX12_goesClean 67 [(0, .ref (zad X (50, 0, 0)))] [] x.2) : zW X T mX12_goesClean 35 [(0, .ref (zad X (50, 0, 0))), (1, vi v1), (2, vi w2)] [] I := by
  unfold fX12_goesClean_b2_35 at hf
  refine zW_aload_n 0 dX12_goesClean_35 rfl ?_
  refine zW_iload_n 2 dX12_goesClean_36 rfl ?_
  refine zC_Vri (As := [vi w2]) (fun x hx => kX12_canSend hw (v1 := w2) o hx) mv_RX12_227 (hw.1 _ o) rfl rfl rfl rfl rfl dX12_goesClean_37 hf (fun r4 hf => ?_)
  refine zF_if_ne 46 dX12_goesClean_40 rfl rfl hf (fun c hf => ?_) (fun c hf => ?_)
  · refine zW_goto 61 dX12_goesClean_43 rfl ?_
    refine zW_sub [0, 1, 2] rfl ?_
    exact tX12_goesClean_b2_61 hw o hf hk hx
  · refine zW_aload_n 0 dX12_goesClean_46 rfl ?_
    refine zW_iload_n 2 dX12_goesClean_47 rfl ?_
    refine zW_bipush dX12_goesClean_48 rfl ?_
    refine zC_Vwv (As := [vi w2, vi 39]) (fun x hx => kX12_beginsSend hw (v1 := w2) (v2 := 39) o hx) mv_RX12_230 (hw.1 _ o) rfl rfl rfl rfl rfl dX12_goesClean_50 hf (fun r5 hf => ?_)
    refine zW_aload_n 0 dX12_goesClean_53 rfl ?_
    refine zW_iload_n 2 dX12_goesClean_54 rfl ?_
    refine zW_bipush dX12_goesClean_55 rfl ?_
    refine zW_iconst dX12_goesClean_57 ?_
    refine zC_Vwv (As := [vi w2, vi 39, vi 1]) (fun x hx => kX12_endsSend hw (v1 := w2) (v2 := 39) (v3 := 1) o hx) mv_RX12_233 (hw.1 _ o) rfl rfl rfl rfl rfl dX12_goesClean_58 hf (fun r6 hf => ?_)
    refine zW_sub [0, 1, 2] rfl ?_
    exact tX12_goesClean_b2_61 hw o hf hk hx
set_option maxRecDepth 100000 in
theorem tX12_goesClean_l2_y {X : zX} {e : Nat → Prop} (hw : zWf X e) {T : zT} {v1 : Int} (o : zOk e (50, 0, 0)) (s : (Int × zMem)) {u : ((Int × zMem) ⊕ (Int × zMem))} (hf : fX12_goesClean_l2 v1 s = some u) (hk : ∀ s', u = .inl s' → zW X T mX12_goesClean 2 [(0, .ref (zad X (50, 0, 0))), (1, vi v1), (2, vi s'.1)] [] s'.2) (hx : ∀ x, u = .inr x → zW X T mX12_goesClean 67 [(0, .ref (zad X (50, 0, 0)))] [] x.2) : zW X T mX12_goesClean 2 [(0, .ref (zad X (50, 0, 0))), (1, vi v1), (2, vi s.1)] [] s.2 := by
  unfold fX12_goesClean_l2 at hf
  refine zW_iload_n 2 dX12_goesClean_2 rfl ?_
  refine zW_aload_n 0 dX12_goesClean_3 rfl ?_
  refine zW_getR (q' := (51, 0, 0)) lk_RX12_13 (hw.1 _ o) rfl rfl (hw.2.1 _ _ _ o rfl) dX12_goesClean_4 ?_
  refine zW_iconst dX12_goesClean_7 ?_
  refine zF_iald (hw.1 _ (zokM (r' := 51) o rfl rfl)) rfl (zin_lit _ _ rfl) (ix_lit _ rfl) dX12_goesClean_8 ?_
  refine zF_icmp_ge 67 dX12_goesClean_9 rfl rfl rfl hf (fun c hf => ?_) (fun c hf => ?_)
  · refine zW_sub [0] rfl ?_
    exact hx _ (Option.some.inj hf).symm
  · refine zW_aload_n 0 dX12_goesClean_12 rfl ?_
    refine zW_getR (q' := (51, 0, 0)) lk_RX12_13 (hw.1 _ o) rfl rfl (hw.2.1 _ _ _ o rfl) dX12_goesClean_13 ?_
    refine zW_aload_n 0 dX12_goesClean_16 rfl ?_
    refine zW_iload_n 2 dX12_goesClean_17 rfl ?_
    refine zC_Vri (As := [vi s.1]) (fun x hx => kX12_own hw (v1 := s.1) o hx) mv_RX12_188 (hw.1 _ o) rfl rfl rfl rfl rfl dX12_goesClean_18 hf (fun r1 hf => ?_)
    refine zW_iconst dX12_goesClean_21 ?_
    refine zW_iadd dX12_goesClean_22 ?_
    obtain ⟨c2, hf⟩ := zgd hf
    refine zF_iald (hw.1 _ (zokM (r' := 51) o rfl rfl)) rfl c2 rfl dX12_goesClean_23 ?_
    refine zW_iconst dX12_goesClean_24 ?_
    refine zF_icmp_ne 35 dX12_goesClean_25 rfl rfl (w32_lit _ rfl) hf (fun c hf => ?_) (fun c hf => ?_)
    · refine zW_aload_n 0 dX12_goesClean_28 rfl ?_
      refine zW_iload_n 2 dX12_goesClean_29 rfl ?_
      refine zW_iload_n 1 dX12_goesClean_30 rfl ?_
      refine zC_Vwi (As := [vi s.1, vi v1]) (fun x hx => kX12_reads hw (v1 := s.1) (v2 := v1) o hx) mv_RX12_239 (hw.1 _ o) rfl rfl rfl rfl rfl dX12_goesClean_31 hf (fun r3 hf => ?_)
      refine zW_pop dX12_goesClean_34 rfl ?_
      refine zW_sub [0, 1, 2] rfl ?_
      exact tX12_goesClean_b2_35 hw o hf hk hx
    · refine zW_sub [0, 1, 2] rfl ?_
      exact tX12_goesClean_b2_35 hw o hf hk hx
theorem tX12_goesClean_l2 {X : zX} {e : Nat → Prop} (hw : zWf X e) {T : zT} {v1 : Int} (o : zOk e (50, 0, 0)) {s0 : (Int × zMem)} {α : Type} {F : (Int × zMem) → Option α} {u : α} (hf : zb (zlp (fX12_goesClean_l2 v1) 5000 s0) F = some u) (kx : ∀ x, F x = some u → zW X T mX12_goesClean 67 [(0, .ref (zad X (50, 0, 0)))] [] x.2) : zW X T mX12_goesClean 2 [(0, .ref (zad X (50, 0, 0))), (1, vi v1), (2, vi s0.1)] [] s0.2 := by
  obtain ⟨x, h, hf⟩ := zb_inv hf
  exact zlp_W (P := fun s => zW X T mX12_goesClean 2 [(0, .ref (zad X (50, 0, 0))), (1, vi v1), (2, vi s.1)] [] s.2) (E := fun x => zW X T mX12_goesClean 67 [(0, .ref (zad X (50, 0, 0)))] [] x.2) (fun s u h hk hx => tX12_goesClean_l2_y hw o s h hk hx) _ s0 x h (kx x hf)
set_option maxRecDepth 100000 in
theorem tX12_goesClean_0 {X : zX} {e : Nat → Prop} (hw : zWf X e) {v1 : Int} (o : zOk e (50, 0, 0)) {I : zMem} {u : zMem} (hf : fX12_goesClean v1 I = some u) : zW X (none, u) mX12_goesClean 0 [(0, .ref (zad X (50, 0, 0))), (1, vi v1)] [] I := by
  unfold fX12_goesClean at hf
  refine zW_iconst dX12_goesClean_0 ?_
  refine zW_istore_n (lv' := [(2, vi 0), (0, .ref (zad X (50, 0, 0))), (1, vi v1)]) dX12_goesClean_1 rfl rfl ?_
  refine zW_sub [1, 2, 0] rfl ?_
  refine tX12_goesClean_l2 hw o (s0 := (0, I)) hf (fun x7 hf => ?_)
  refine zW_aload_n 0 dX12_goesClean_67 rfl ?_
  refine zC_Vwv (As := []) (fun x hx => kX12_ticks hw o hx) mv_RX12_242 (hw.1 _ o) rfl rfl rfl rfl rfl dX12_goesClean_68 hf (fun r8 hf => ?_)
  refine zW_aload_n 0 dX12_goesClean_71 rfl ?_
  refine zC_Vwv (As := []) (fun x hx => kX12_reports hw o hx) mv_RX12_245 (hw.1 _ o) rfl rfl rfl rfl rfl dX12_goesClean_72 hf (fun r9 hf => ?_)
  exact zR_v hw rfl dX12_goesClean_75 hf
theorem kX12_goesClean {X : zX} {e : Nat → Prop} (hw : zWf X e) {v1 : Int} (o : zOk e (50, 0, 0)) {I : zMem} {u : zMem} (hf : fX12_goesClean v1 I = some u) : zCn X mX12_goesClean yX12_goesClean [.ref (zad X (50, 0, 0)), vi v1] I (none, u) := zCn_of (by decide +kernel) rfl rfl ⟨rfl, rfl⟩ (tX12_goesClean_0 hw.N o hf)
set_option maxRecDepth 100000 in
theorem tX12_isDrained_b31 {X : zX} {e : Nat → Prop} (hw : zWf X e) {I : zMem} (o : zOk e (50, 0, 0)) {u : Int} (hf : fX12_isDrained_b31 I = some u) : zW X (some (vi u), I) mX12_isDrained 31 [] [] I := by
  unfold fX12_isDrained_b31 at hf
  refine zW_iconst dX12_isDrained_31 ?_
  exact zS_z hw rfl (Or.inl rfl) dX12_isDrained_32 hf
set_option maxRecDepth 100000 in
theorem tX12_isDrained_0 {X : zX} {e : Nat → Prop} (hw : zWf X e)  (o : zOk e (50, 0, 0)) {I : zMem} {u : Int} (hf : fX12_isDrained  I = some u) : zW X (some (vi u), I) mX12_isDrained 0 [(0, .ref (zad X (50, 0, 0)))] [] I := by
  unfold fX12_isDrained at hf
  refine zW_aload_n 0 dX12_isDrained_0 rfl ?_
  refine zW_getR (q' := (51, 0, 0)) lk_RX12_13 (hw.1 _ o) rfl rfl (hw.2.1 _ _ _ o rfl) dX12_isDrained_1 ?_
  refine zW_bipush dX12_isDrained_4 rfl ?_
  refine zF_iald (hw.1 _ (zokM (r' := 51) o rfl rfl)) rfl (zin_lit _ _ rfl) (ix_lit _ rfl) dX12_isDrained_6 ?_
  refine zF_if_ne 31 dX12_isDrained_7 rfl rfl hf (fun c hf => ?_) (fun c hf => ?_)
  · refine zW_aload_n 0 dX12_isDrained_10 rfl ?_
    refine zW_getR (q' := (51, 0, 0)) lk_RX12_13 (hw.1 _ o) rfl rfl (hw.2.1 _ _ _ o rfl) dX12_isDrained_11 ?_
    refine zW_bipush dX12_isDrained_14 rfl ?_
    refine zF_iald (hw.1 _ (zokM (r' := 51) o rfl rfl)) rfl (zin_lit _ _ rfl) (ix_lit _ rfl) dX12_isDrained_16 ?_
    refine zW_aload_n 0 dX12_isDrained_17 rfl ?_
    refine zW_getR (q' := (51, 0, 0)) lk_RX12_13 (hw.1 _ o) rfl rfl (hw.2.1 _ _ _ o rfl) dX12_isDrained_18 ?_
    refine zW_bipush dX12_isDrained_21 rfl ?_
    refine zF_iald (hw.1 _ (zokM (r' := 51) o rfl rfl)) rfl (zin_lit _ _ rfl) (ix_lit _ rfl) dX12_isDrained_23 ?_
    refine zF_icmp_ne 31 dX12_isDrained_24 rfl rfl rfl hf (fun c hf => ?_) (fun c hf => ?_)
    · refine zW_iconst dX12_isDrained_27 ?_
      refine zW_goto 32 dX12_isDrained_28 rfl ?_
      exact zS_z hw rfl (Or.inr rfl) dX12_isDrained_32 hf
    · refine zW_sub [] rfl ?_
      exact tX12_isDrained_b31 hw o hf
  · refine zW_sub [] rfl ?_
    exact tX12_isDrained_b31 hw o hf
theorem kX12_isDrained {X : zX} {e : Nat → Prop} (hw : zWf X e)  (o : zOk e (50, 0, 0)) {I : zMem} {u : Int} (hf : fX12_isDrained  I = some u) : zCn X mX12_isDrained yX12_isDrained [.ref (zad X (50, 0, 0))] I (some (vi u), I) := zCn_of (by decide +kernel) rfl rfl ⟨rfl, rfl⟩ (tX12_isDrained_0 hw.N o hf)
set_option maxRecDepth 100000 in
theorem tX12_goesDrain_b11_41 {X : zX} {e : Nat → Prop} (hw : zWf X e) {T : zT} {v1 : Int} {w2 : Int} {I : zMem} (o : zOk e (50, 0, 0)) {u : ((Int × zMem) ⊕ ((Int × zMem) ⊕ (Int × zMem)))} (hf : fX12_goesDrain_b11_41 v1 w2 I = some u) (hk : ∀ s', u = .inl s' → zW X T mX12_goesDrain 11 [(0, .ref (zad X (50, 0, 0))), (1, vi v1), (2, vi s'.1)] [] s'.2) (hx : ∀ x, u = .inr (.inl x) → zW X T mX12_goesDrain 47 [] [] x.2) (hr : ∀ z : (Int × zMem), u = .inr (.inr z) → T = (some (vi z.1), z.2)) : zW X T mX12_goesDrain 41 [(0, .ref (zad X (50, 0, 0))), (1, vi v1), (2, vi w2)] [] I := by
  unfold fX12_goesDrain_b11_41 at hf
  refine zW_iinc 2 (lv' := [(2, vi (w2 + 1)), (0, .ref (zad X (50, 0, 0))), (1, vi v1)]) dX12_goesDrain_41 rfl rfl rfl ?_
  refine zW_goto 11 dX12_goesDrain_44 rfl ?_
  refine zW_sub [1, 2, 0] rfl ?_
  exact hk _ (Option.some.inj hf).symm
set_option maxRecDepth 100000 in
theorem tX12_goesDrain_l11_y {X : zX} {e : Nat → Prop} (hw : zWf X e) {T : zT} {v1 : Int} (o : zOk e (50, 0, 0)) (s : (Int × zMem)) {u : ((Int × zMem) ⊕ ((Int × zMem) ⊕ (Int × zMem)))} (hf : fX12_goesDrain_l11 v1 s = some u) (hk : ∀ s', u = .inl s' → zW X T mX12_goesDrain 11 [(0, .ref (zad X (50, 0, 0))), (1, vi v1), (2, vi s'.1)] [] s'.2) (hx : ∀ x, u = .inr (.inl x) → zW X T mX12_goesDrain 47 [] [] x.2) (hr : ∀ z : (Int × zMem), u = .inr (.inr z) → T = (some (vi z.1), z.2)) : zW X T mX12_goesDrain 11 [(0, .ref (zad X (50, 0, 0))), (1, vi v1), (2, vi s.1)] [] s.2 := by
  unfold fX12_goesDrain_l11 at hf
  refine zW_iload_n 2 dX12_goesDrain_11 rfl ?_
  refine zW_bipush dX12_goesDrain_12 rfl ?_
  refine zF_icmp_gt 47 dX12_goesDrain_14 rfl rfl (w32_lit _ rfl) hf (fun c hf => ?_) (fun c hf => ?_)
  · refine zW_sub [] rfl ?_
    exact hx _ (Option.some.inj hf).symm
  · refine zW_aload_n 0 dX12_goesDrain_17 rfl ?_
    refine zC_Vri (As := []) (fun x hx => kX12_isDrained hw o hx) mv_RX12_260 (hw.1 _ o) rfl rfl rfl rfl rfl dX12_goesDrain_18 hf (fun r2 hf => ?_)
    refine zF_if_eq 26 dX12_goesDrain_21 rfl rfl hf (fun c hf => ?_) (fun c hf => ?_)
    · refine zW_iload_n 2 dX12_goesDrain_26 rfl ?_
      refine zW_bipush dX12_goesDrain_27 rfl ?_
      refine zF_icmp_ge 41 dX12_goesDrain_29 rfl rfl (w32_lit _ rfl) hf (fun c hf => ?_) (fun c hf => ?_)
      · refine zW_sub [0, 1, 2] rfl ?_
        exact tX12_goesDrain_b11_41 hw o hf hk hx hr
      · refine zW_aload_n 0 dX12_goesDrain_32 rfl ?_
        refine zW_iload_n 1 dX12_goesDrain_33 rfl ?_
        refine zW_iload_n 2 dX12_goesDrain_34 rfl ?_
        refine zW_ishr dX12_goesDrain_35 ?_
        refine zW_iconst dX12_goesDrain_36 ?_
        refine zW_iand_1 dX12_goesDrain_37 ?_
        refine zC_Vwv (As := [vi ((ishr v1 s.1) % 2)]) (fun x hx => kX12_goesClean hw (v1 := (ishr v1 s.1) % 2) o hx) mv_RX12_264 (hw.1 _ o) rfl rfl rfl rfl rfl dX12_goesDrain_38 hf (fun r3 hf => ?_)
        refine zW_sub [0, 1, 2] rfl ?_
        exact tX12_goesDrain_b11_41 hw o hf hk hx hr
    · refine zW_iload_n 2 dX12_goesDrain_24 rfl ?_
      exact zQ_i hw rfl dX12_goesDrain_25 (hr _ (Option.some.inj hf).symm)
theorem tX12_goesDrain_l11 {X : zX} {e : Nat → Prop} (hw : zWf X e) {T : zT} {v1 : Int} (o : zOk e (50, 0, 0)) {s0 : (Int × zMem)} {α : Type} {F : (Int × zMem) → Option α} {Gr : (Int × zMem) → α} {u : α} (hf : zbr (zlp (fX12_goesDrain_l11 v1) 5000 s0) F Gr = some u) (kx : ∀ x, F x = some u → zW X T mX12_goesDrain 47 [] [] x.2) (kr : ∀ z, Gr z = u → T = (some (vi z.1), z.2)) : zW X T mX12_goesDrain 11 [(0, .ref (zad X (50, 0, 0))), (1, vi v1), (2, vi s0.1)] [] s0.2 := by
  have hb := zlp_W (body := fX12_goesDrain_l11 v1) (P := fun s => zW X T mX12_goesDrain 11 [(0, .ref (zad X (50, 0, 0))), (1, vi v1), (2, vi s.1)] [] s.2) (E := fun x => (∀ a, x = .inl a → zW X T mX12_goesDrain 47 [] [] a.2) ∧ ∀ z, x = .inr z → T = (some (vi z.1), z.2)) (fun s u h hk hx => tX12_goesDrain_l11_y hw o s h hk (fun x hu => (hx _ hu).1 x rfl) (fun z hu => (hx _ hu).2 z rfl))
  rcases zbr_inv hf with ⟨x, h, hf⟩ | ⟨z, h, hz⟩
  · exact hb _ s0 _ h ⟨fun a ea => (by cases ea; exact kx _ hf), fun z ez => (by cases ez)⟩
  · exact hb _ s0 _ h ⟨fun a ea => (by cases ea), fun z ez => (by cases ez; exact kr _ hz)⟩
set_option maxRecDepth 100000 in
theorem tX12_goesDrain_0 {X : zX} {e : Nat → Prop} (hw : zWf X e) {v1 : Int} (o : zOk e (50, 0, 0)) {I : zMem} {u : (Int × zMem)} (hf : fX12_goesDrain v1 I = some u) : zW X (some (vi u.1), u.2) mX12_goesDrain 0 [(0, .ref (zad X (50, 0, 0))), (1, vi v1)] [] I := by
  unfold fX12_goesDrain at hf
  refine zW_aload_n 0 dX12_goesDrain_0 rfl ?_
  refine zW_getR (q' := (51, 0, 0)) lk_RX12_13 (hw.1 _ o) rfl rfl (hw.2.1 _ _ _ o rfl) dX12_goesDrain_1 ?_
  refine zW_bipush dX12_goesDrain_4 rfl ?_
  refine zW_bipush dX12_goesDrain_6 rfl ?_
  refine zF_iast (hw.1 _ (zokM (r' := 51) o rfl rfl)) rfl (zin_lit _ _ rfl) (ix_lit _ rfl) dX12_goesDrain_8 hf (fun I1 hf => ?_)
  refine zW_iconst dX12_goesDrain_9 ?_
  refine zW_istore_n (lv' := [(2, vi 0), (0, .ref (zad X (50, 0, 0))), (1, vi v1)]) dX12_goesDrain_10 rfl rfl ?_
  refine zW_sub [1, 2, 0] rfl ?_
  refine tX12_goesDrain_l11 hw o (s0 := (0, I1)) hf (fun x4 hf => ?_) (fun z hz => by cases hz; rfl)
  refine zW_iconst dX12_goesDrain_47 ?_
  exact zR_i hw rfl dX12_goesDrain_48 hf
theorem kX12_goesDrain {X : zX} {e : Nat → Prop} (hw : zWf X e) {v1 : Int} (o : zOk e (50, 0, 0)) {I : zMem} {u : (Int × zMem)} (hf : fX12_goesDrain v1 I = some u) : zCn X mX12_goesDrain yX12_goesDrain [.ref (zad X (50, 0, 0)), vi v1] I (some (vi u.1), u.2) := zCn_of (by decide +kernel) rfl rfl ⟨rfl, rfl⟩ (tX12_goesDrain_0 hw.N o hf)
set_option maxRecDepth 100000 in
theorem tX12_stores_l2_y {X : zX} {e : Nat → Prop} (hw : zWf X e) {T : zT}  (o : zOk e (50, 0, 0)) (s : (Int × zMem)) {u : ((Int × zMem) ⊕ (Int × zMem))} (hf : fX12_stores_l2  s = some u) (hk : ∀ s', u = .inl s' → zW X T mX12_stores 2 [(0, .ref (zad X (50, 0, 0))), (1, vi s'.1)] [] s'.2) (hx : ∀ x, u = .inr x → zW X T mX12_stores 27 [] [] x.2) : zW X T mX12_stores 2 [(0, .ref (zad X (50, 0, 0))), (1, vi s.1)] [] s.2 := by
  unfold fX12_stores_l2 at hf
  refine zW_iload_n 1 dX12_stores_2 rfl ?_
  refine zW_sipush dX12_stores_3 rfl ?_
  refine zF_icmp_ge 27 dX12_stores_6 rfl rfl (w32_lit _ rfl) hf (fun c hf => ?_) (fun c hf => ?_)
  · refine zW_sub [] rfl ?_
    exact hx _ (Option.some.inj hf).symm
  · refine zW_aload_n 0 dX12_stores_9 rfl ?_
    refine zW_getR (q' := (52, 0, 0)) lk_RX12_17 (hw.1 _ o) rfl rfl (hw.2.1 _ _ _ o rfl) dX12_stores_10 ?_
    refine zW_iload_n 1 dX12_stores_13 rfl ?_
    refine zW_aload_n 0 dX12_stores_14 rfl ?_
    refine zW_getR (q' := (51, 0, 0)) lk_RX12_13 (hw.1 _ o) rfl rfl (hw.2.1 _ _ _ o rfl) dX12_stores_15 ?_
    refine zW_iload_n 1 dX12_stores_18 rfl ?_
    obtain ⟨c1, hf⟩ := zgd hf
    refine zF_iald (hw.1 _ (zokM (r' := 51) o rfl rfl)) rfl c1 rfl dX12_stores_19 ?_
    obtain ⟨c2, hf⟩ := zgd hf
    refine zF_iast (hw.1 _ (zokM (r' := 52) o rfl rfl)) rfl c2 rfl dX12_stores_20 hf (fun I3 hf => ?_)
    refine zW_iinc 1 (lv' := [(1, vi (s.1 + 1)), (0, .ref (zad X (50, 0, 0)))]) dX12_stores_21 rfl rfl rfl ?_
    refine zW_goto 2 dX12_stores_24 rfl ?_
    refine zW_sub [1, 0] rfl ?_
    exact hk _ (Option.some.inj hf).symm
theorem tX12_stores_l2 {X : zX} {e : Nat → Prop} (hw : zWf X e) {T : zT}  (o : zOk e (50, 0, 0)) {s0 : (Int × zMem)} {α : Type} {F : (Int × zMem) → Option α} {u : α} (hf : zb (zlp (fX12_stores_l2 ) 5000 s0) F = some u) (kx : ∀ x, F x = some u → zW X T mX12_stores 27 [] [] x.2) : zW X T mX12_stores 2 [(0, .ref (zad X (50, 0, 0))), (1, vi s0.1)] [] s0.2 := by
  obtain ⟨x, h, hf⟩ := zb_inv hf
  exact zlp_W (P := fun s => zW X T mX12_stores 2 [(0, .ref (zad X (50, 0, 0))), (1, vi s.1)] [] s.2) (E := fun x => zW X T mX12_stores 27 [] [] x.2) (fun s u h hk hx => tX12_stores_l2_y hw o s h hk hx) _ s0 x h (kx x hf)
set_option maxRecDepth 100000 in
theorem tX12_stores_0 {X : zX} {e : Nat → Prop} (hw : zWf X e)  (o : zOk e (50, 0, 0)) {I : zMem} {u : zMem} (hf : fX12_stores  I = some u) : zW X (none, u) mX12_stores 0 [(0, .ref (zad X (50, 0, 0)))] [] I := by
  unfold fX12_stores at hf
  refine zW_iconst dX12_stores_0 ?_
  refine zW_istore_n (lv' := [(1, vi 0), (0, .ref (zad X (50, 0, 0)))]) dX12_stores_1 rfl rfl ?_
  refine zW_sub [1, 0] rfl ?_
  refine tX12_stores_l2 hw o (s0 := (0, I)) hf (fun x4 hf => ?_)
  exact zR_v hw rfl dX12_stores_27 hf
theorem kX12_stores {X : zX} {e : Nat → Prop} (hw : zWf X e)  (o : zOk e (50, 0, 0)) {I : zMem} {u : zMem} (hf : fX12_stores  I = some u) : zCn X mX12_stores yX12_stores [.ref (zad X (50, 0, 0))] I (none, u) := zCn_of (by decide +kernel) rfl rfl ⟨rfl, rfl⟩ (tX12_stores_0 hw.N o hf)
set_option maxRecDepth 100000 in
theorem tX12_isAgain_l2_y {X : zX} {e : Nat → Prop} (hw : zWf X e) {T : zT}  (o : zOk e (50, 0, 0)) (s : (Int × zMem)) {u : ((Int × zMem) ⊕ (Int × zMem))} (hf : fX12_isAgain_l2  s = some u) (hk : ∀ s', u = .inl s' → zW X T mX12_isAgain 2 [(0, .ref (zad X (50, 0, 0))), (1, vi s'.1)] [] s'.2) (hx : ∀ x, u = .inr x → zW X T mX12_isAgain 27 [] [] x.2) : zW X T mX12_isAgain 2 [(0, .ref (zad X (50, 0, 0))), (1, vi s.1)] [] s.2 := by
  unfold fX12_isAgain_l2 at hf
  refine zW_iload_n 1 dX12_isAgain_2 rfl ?_
  refine zW_sipush dX12_isAgain_3 rfl ?_
  refine zF_icmp_ge 27 dX12_isAgain_6 rfl rfl (w32_lit _ rfl) hf (fun c hf => ?_) (fun c hf => ?_)
  · refine zW_sub [] rfl ?_
    exact hx _ (Option.some.inj hf).symm
  · refine zW_aload_n 0 dX12_isAgain_9 rfl ?_
    refine zW_getR (q' := (51, 0, 0)) lk_RX12_13 (hw.1 _ o) rfl rfl (hw.2.1 _ _ _ o rfl) dX12_isAgain_10 ?_
    refine zW_iload_n 1 dX12_isAgain_13 rfl ?_
    refine zW_aload_n 0 dX12_isAgain_14 rfl ?_
    refine zW_getR (q' := (52, 0, 0)) lk_RX12_17 (hw.1 _ o) rfl rfl (hw.2.1 _ _ _ o rfl) dX12_isAgain_15 ?_
    refine zW_iload_n 1 dX12_isAgain_18 rfl ?_
    obtain ⟨c1, hf⟩ := zgd hf
    refine zF_iald (hw.1 _ (zokM (r' := 52) o rfl rfl)) rfl c1 rfl dX12_isAgain_19 ?_
    obtain ⟨c2, hf⟩ := zgd hf
    refine zF_iast (hw.1 _ (zokM (r' := 51) o rfl rfl)) rfl c2 rfl dX12_isAgain_20 hf (fun I3 hf => ?_)
    refine zW_iinc 1 (lv' := [(1, vi (s.1 + 1)), (0, .ref (zad X (50, 0, 0)))]) dX12_isAgain_21 rfl rfl rfl ?_
    refine zW_goto 2 dX12_isAgain_24 rfl ?_
    refine zW_sub [1, 0] rfl ?_
    exact hk _ (Option.some.inj hf).symm
theorem tX12_isAgain_l2 {X : zX} {e : Nat → Prop} (hw : zWf X e) {T : zT}  (o : zOk e (50, 0, 0)) {s0 : (Int × zMem)} {α : Type} {F : (Int × zMem) → Option α} {u : α} (hf : zb (zlp (fX12_isAgain_l2 ) 5000 s0) F = some u) (kx : ∀ x, F x = some u → zW X T mX12_isAgain 27 [] [] x.2) : zW X T mX12_isAgain 2 [(0, .ref (zad X (50, 0, 0))), (1, vi s0.1)] [] s0.2 := by
  obtain ⟨x, h, hf⟩ := zb_inv hf
  exact zlp_W (P := fun s => zW X T mX12_isAgain 2 [(0, .ref (zad X (50, 0, 0))), (1, vi s.1)] [] s.2) (E := fun x => zW X T mX12_isAgain 27 [] [] x.2) (fun s u h hk hx => tX12_isAgain_l2_y hw o s h hk hx) _ s0 x h (kx x hf)
set_option maxRecDepth 100000 in
theorem tX12_isAgain_0 {X : zX} {e : Nat → Prop} (hw : zWf X e)  (o : zOk e (50, 0, 0)) {I : zMem} {u : zMem} (hf : fX12_isAgain  I = some u) : zW X (none, u) mX12_isAgain 0 [(0, .ref (zad X (50, 0, 0)))] [] I := by
  unfold fX12_isAgain at hf
  refine zW_iconst dX12_isAgain_0 ?_
  refine zW_istore_n (lv' := [(1, vi 0), (0, .ref (zad X (50, 0, 0)))]) dX12_isAgain_1 rfl rfl ?_
  refine zW_sub [1, 0] rfl ?_
  refine tX12_isAgain_l2 hw o (s0 := (0, I)) hf (fun x4 hf => ?_)
  exact zR_v hw rfl dX12_isAgain_27 hf
theorem kX12_isAgain {X : zX} {e : Nat → Prop} (hw : zWf X e)  (o : zOk e (50, 0, 0)) {I : zMem} {u : zMem} (hf : fX12_isAgain  I = some u) : zCn X mX12_isAgain yX12_isAgain [.ref (zad X (50, 0, 0))] I (none, u) := zCn_of (by decide +kernel) rfl rfl ⟨rfl, rfl⟩ (tX12_isAgain_0 hw.N o hf)
set_option maxRecDepth 100000 in
theorem tX12_drain_0 {X : zX} {e : Nat → Prop} (hw : zWf X e)  (o : zOk e (50, 0, 0)) {I : zMem} {u : (Int × zMem)} (hf : fX12_drain  I = some u) : zW X (some (vi u.1), u.2) mX12_drain 0 [(0, .ref (zad X (50, 0, 0)))] [] I := by
  unfold fX12_drain at hf
  refine zW_aload_n 0 dX12_drain_0 rfl ?_
  refine zW_iconst dX12_drain_1 ?_
  refine zF_put lk_RX12_1 (hw.1 _ o) rfl rfl (zn_int _) dX12_drain_2 hf (fun I1 hf => ?_)
  refine zW_aload_n 0 dX12_drain_5 rfl ?_
  refine zC_Vwv (As := []) (fun x hx => kX12_stores hw o hx) mv_RX12_267 (hw.1 _ o) rfl rfl rfl rfl rfl dX12_drain_6 hf (fun r2 hf => ?_)
  refine zW_aload_n 0 dX12_drain_9 rfl ?_
  refine zW_iconst dX12_drain_10 ?_
  refine zC_Vwi (As := [vi 0]) (fun x hx => kX12_goesDrain hw (v1 := 0) o hx) mv_RX12_270 (hw.1 _ o) rfl rfl rfl rfl rfl dX12_drain_11 hf (fun r3 hf => ?_)
  refine zW_istore_n (lv' := [(1, vi r3.1), (0, .ref (zad X (50, 0, 0)))]) dX12_drain_14 rfl rfl ?_
  refine zW_aload_n 1 dX12_drain_15 rfl ?_
  refine zC_Vwv (As := []) (fun x hx => kX12_isAgain hw o hx) mv_RX12_273 (hw.1 _ o) rfl rfl rfl rfl rfl dX12_drain_16 hf (fun r4 hf => ?_)
  refine zW_iload_n 0 dX12_drain_19 rfl ?_
  exact zR_i hw rfl dX12_drain_20 hf
theorem kX12_drain {X : zX} {e : Nat → Prop} (hw : zWf X e)  (o : zOk e (50, 0, 0)) {I : zMem} {u : (Int × zMem)} (hf : fX12_drain  I = some u) : zCn X mX12_drain yX12_drain [.ref (zad X (50, 0, 0))] I (some (vi u.1), u.2) := zCn_of (by decide +kernel) rfl rfl ⟨rfl, rfl⟩ (tX12_drain_0 hw.N o hf)
set_option maxRecDepth 100000 in
theorem tX12_drained_b62 {X : zX} {e : Nat → Prop} (hw : zWf X e) {v1 : Int} {k0 : Int} {I : zMem} (o : zOk e (50, 0, 0)) {u : (Int × zMem)} (hf : fX12_drained_b62 v1 k0 I = some u) : zW X (some (vi u.1), u.2) mX12_drained 62 [(0, .ref (zad X (50, 0, 0)))] [vi k0] I := by
  unfold fX12_drained_b62 at hf
  refine zW_istore_n (lv' := [(3, vi k0), (0, .ref (zad X (50, 0, 0)))]) dX12_drained_62 rfl rfl ?_
  refine zW_aload_n 1 dX12_drained_63 rfl ?_
  refine zC_Vwv (As := []) (fun x hx => kX12_isAgain hw o hx) mv_RX12_273 (hw.1 _ o) rfl rfl rfl rfl rfl dX12_drained_64 hf (fun r5 hf => ?_)
  refine zW_iload_n 0 dX12_drained_67 rfl ?_
  exact zR_i hw rfl dX12_drained_68 hf
set_option maxRecDepth 100000 in
theorem tX12_drained_0 {X : zX} {e : Nat → Prop} (hw : zWf X e) {v1 : Int} (o : zOk e (50, 0, 0)) {I : zMem} {u : (Int × zMem)} (hf : fX12_drained v1 I = some u) : zW X (some (vi u.1), u.2) mX12_drained 0 [(0, .ref (zad X (50, 0, 0))), (1, vi v1)] [] I := by
  unfold fX12_drained at hf
  refine zW_aload_n 0 dX12_drained_0 rfl ?_
  refine zW_iconst dX12_drained_1 ?_
  refine zF_put lk_RX12_1 (hw.1 _ o) rfl rfl (zn_int _) dX12_drained_2 hf (fun I1 hf => ?_)
  refine zW_iload_n 1 dX12_drained_5 rfl ?_
  refine zF_if_ge 12 dX12_drained_6 rfl rfl hf (fun c hf => ?_) (fun c hf => ?_)
  · refine zW_aload_n 0 dX12_drained_12 rfl ?_
    refine zC_Vwv (As := []) (fun x hx => kX12_stores hw o hx) mv_RX12_267 (hw.1 _ o) rfl rfl rfl rfl rfl dX12_drained_13 hf (fun r2 hf => ?_)
    refine zW_aload_n 0 dX12_drained_16 rfl ?_
    refine zW_getR (q' := (51, 0, 0)) lk_RX12_13 (hw.1 _ o) rfl rfl (hw.2.1 _ _ _ o rfl) dX12_drained_17 ?_
    refine zW_bipush dX12_drained_20 rfl ?_
    refine zF_iald (hw.1 _ (zokM (r' := 51) o rfl rfl)) rfl (zin_lit _ _ rfl) (ix_lit _ rfl) dX12_drained_22 ?_
    refine zF_istore_n (lv' := fun a3 => [(2, vi a3), (0, .ref (zad X (50, 0, 0))), (1, vi v1)]) dX12_drained_23 hf (fun _ => rfl) rfl (fun a3 hf => ?_)
    refine zW_aload_n 1 dX12_drained_24 rfl ?_
    refine zW_iconst dX12_drained_25 ?_
    refine zC_Vwi (As := [vi 0]) (fun x hx => kX12_goesDrain hw (v1 := 0) o hx) mv_RX12_270 (hw.1 _ o) rfl rfl rfl rfl rfl dX12_drained_26 hf (fun r4 hf => ?_)
    refine zW_pop dX12_drained_29 rfl ?_
    refine zW_iload_n 2 dX12_drained_30 rfl ?_
    refine zW_aload_n 1 dX12_drained_31 rfl ?_
    refine zW_getR (q' := (51, 0, 0)) lk_RX12_13 (hw.1 _ o) rfl rfl (hw.2.1 _ _ _ o rfl) dX12_drained_32 ?_
    refine zW_bipush dX12_drained_35 rfl ?_
    refine zF_iald (hw.1 _ (zokM (r' := 51) o rfl rfl)) rfl (zin_lit _ _ rfl) (ix_lit _ rfl) dX12_drained_37 ?_
    refine zW_iload_n 0 dX12_drained_38 rfl ?_
    refine zW_isub dX12_drained_39 ?_
    refine zF_icmp_ge 61 dX12_drained_40 rfl rfl rfl hf (fun c hf => ?_) (fun c hf => ?_)
    · refine zW_iconst dX12_drained_61 ?_
      refine zW_sub [1] rfl ?_
      exact tX12_drained_b62 hw o hf
    · refine zW_aload_n 1 dX12_drained_43 rfl ?_
      refine zW_getR (q' := (51, 0, 0)) lk_RX12_13 (hw.1 _ o) rfl rfl (hw.2.1 _ _ _ o rfl) dX12_drained_44 ?_
      refine zW_bipush dX12_drained_47 rfl ?_
      refine zW_iload_n 0 dX12_drained_49 rfl ?_
      refine zW_iload_n 2 dX12_drained_50 rfl ?_
      refine zW_iadd dX12_drained_51 ?_
      refine zW_sipush dX12_drained_52 rfl ?_
      refine zW_irem dX12_drained_55 (w32_ne0 _ rfl) ?_
      refine zW_iadd dX12_drained_56 ?_
      obtain ⟨c6, hf⟩ := zgd hf
      refine zF_iald (hw.1 _ (zokM (r' := 51) o rfl rfl)) rfl c6 rfl dX12_drained_57 ?_
      refine zW_goto 62 dX12_drained_58 rfl ?_
      refine zW_sub [1] rfl ?_
      exact tX12_drained_b62 hw o hf
  · refine zW_bipush dX12_drained_9 rfl ?_
    exact zR_i hw rfl dX12_drained_11 hf
theorem kX12_drained {X : zX} {e : Nat → Prop} (hw : zWf X e) {v1 : Int} (o : zOk e (50, 0, 0)) {I : zMem} {u : (Int × zMem)} (hf : fX12_drained v1 I = some u) : zCn X mX12_drained yX12_drained [.ref (zad X (50, 0, 0)), vi v1] I (some (vi u.1), u.2) := zCn_of (by decide +kernel) rfl rfl ⟨rfl, rfl⟩ (tX12_drained_0 hw.N o hf)
set_option maxRecDepth 100000 in
theorem tX12_worst_b45_91 {X : zX} {e : Nat → Prop} (hw : zWf X e) {T : zT} {v1 : Int} {v2 : Int} {w3 : Int} {w4 : Int} {w5 : Int} {I : zMem} (o : zOk e (50, 0, 0)) {u : ((Int × Int × Int × zMem) ⊕ (Int × Int × Int × zMem))} (hf : fX12_worst_b45_91 v1 v2 w3 w4 w5 I = some u) (hk : ∀ s', u = .inl s' → zW X T mX12_worst 45 [(0, .ref (zad X (50, 0, 0))), (1, vi v1), (2, vi v2), (3, vi s'.1), (4, vi s'.2.1), (5, vi s'.2.2.1)] [] s'.2.2.2) (hx : ∀ x, u = .inr x → zW X T mX12_worst 97 [(2, vi v2), (3, vi x.1), (4, vi x.2.1)] [] x.2.2.2) : zW X T mX12_worst 91 [(0, .ref (zad X (50, 0, 0))), (1, vi v1), (2, vi v2), (3, vi w3), (4, vi w4), (5, vi w5)] [] I := by
  unfold fX12_worst_b45_91 at hf
  refine zW_iinc 5 (lv' := [(5, vi (w5 + 1)), (0, .ref (zad X (50, 0, 0))), (1, vi v1), (2, vi v2), (3, vi w3), (4, vi w4)]) dX12_worst_91 rfl rfl rfl ?_
  refine zW_goto 45 dX12_worst_94 rfl ?_
  refine zW_sub [1, 2, 3, 4, 5, 0] rfl ?_
  exact hk _ (Option.some.inj hf).symm
set_option maxRecDepth 100000 in
theorem tX12_worst_b45_75 {X : zX} {e : Nat → Prop} (hw : zWf X e) {T : zT} {v1 : Int} {v2 : Int} {w3 : Int} {w4 : Int} {w5 : Int} {w6 : Int} {I : zMem} (o : zOk e (50, 0, 0)) {u : ((Int × Int × Int × zMem) ⊕ (Int × Int × Int × zMem))} (hf : fX12_worst_b45_75 v1 v2 w3 w4 w5 w6 I = some u) (hk : ∀ s', u = .inl s' → zW X T mX12_worst 45 [(0, .ref (zad X (50, 0, 0))), (1, vi v1), (2, vi v2), (3, vi s'.1), (4, vi s'.2.1), (5, vi s'.2.2.1)] [] s'.2.2.2) (hx : ∀ x, u = .inr x → zW X T mX12_worst 97 [(2, vi v2), (3, vi x.1), (4, vi x.2.1)] [] x.2.2.2) : zW X T mX12_worst 75 [(0, .ref (zad X (50, 0, 0))), (1, vi v1), (2, vi v2), (3, vi w3), (4, vi w4), (5, vi w5), (6, vi w6)] [] I := by
  unfold fX12_worst_b45_75 at hf
  refine zW_iload 6 dX12_worst_75 rfl ?_
  refine zW_iload_n 3 dX12_worst_77 rfl ?_
  refine zF_icmp_gt 84 dX12_worst_78 rfl rfl rfl hf (fun c hf => ?_) (fun c hf => ?_)
  · refine zW_iload 6 dX12_worst_84 rfl ?_
    refine zW_istore_n (lv' := [(3, vi w6), (0, .ref (zad X (50, 0, 0))), (1, vi v1), (2, vi v2), (4, vi w4), (5, vi w5), (6, vi w6)]) dX12_worst_86 rfl rfl ?_
    refine zW_iload 5 dX12_worst_87 rfl ?_
    refine zW_istore (lv' := [(4, vi w5), (3, vi w6), (0, .ref (zad X (50, 0, 0))), (1, vi v1), (2, vi v2), (5, vi w5), (6, vi w6)]) dX12_worst_89 rfl rfl ?_
    refine zW_sub [2, 3, 4, 1, 0, 5] rfl ?_
    exact tX12_worst_b45_91 hw o hf hk hx
  · refine zW_goto 91 dX12_worst_81 rfl ?_
    refine zW_sub [0, 1, 2, 3, 4, 5] rfl ?_
    exact tX12_worst_b45_91 hw o hf hk hx
set_option maxRecDepth 100000 in
theorem tX12_worst_l45_y {X : zX} {e : Nat → Prop} (hw : zWf X e) {T : zT} {v1 : Int} {v2 : Int} (o : zOk e (50, 0, 0)) (s : (Int × Int × Int × zMem)) {u : ((Int × Int × Int × zMem) ⊕ (Int × Int × Int × zMem))} (hf : fX12_worst_l45 v1 v2 s = some u) (hk : ∀ s', u = .inl s' → zW X T mX12_worst 45 [(0, .ref (zad X (50, 0, 0))), (1, vi v1), (2, vi v2), (3, vi s'.1), (4, vi s'.2.1), (5, vi s'.2.2.1)] [] s'.2.2.2) (hx : ∀ x, u = .inr x → zW X T mX12_worst 97 [(2, vi v2), (3, vi x.1), (4, vi x.2.1)] [] x.2.2.2) : zW X T mX12_worst 45 [(0, .ref (zad X (50, 0, 0))), (1, vi v1), (2, vi v2), (3, vi s.1), (4, vi s.2.1), (5, vi s.2.2.1)] [] s.2.2.2 := by
  unfold fX12_worst_l45 at hf
  refine zW_iload 5 dX12_worst_45 rfl ?_
  refine zW_iconst dX12_worst_47 ?_
  refine zW_iload_n 1 dX12_worst_48 rfl ?_
  refine zW_ishl dX12_worst_49 ?_
  refine zF_icmp_ge 97 dX12_worst_50 rfl rfl rfl hf (fun c hf => ?_) (fun c hf => ?_)
  · refine zW_sub [2, 3, 4] rfl ?_
    exact hx _ (Option.some.inj hf).symm
  · refine zW_aload_n 0 dX12_worst_53 rfl ?_
    refine zW_iload 5 dX12_worst_54 rfl ?_
    refine zC_Vwi (As := [vi s.2.2.1]) (fun x hx => kX12_goesDrain hw (v1 := s.2.2.1) o hx) mv_RX12_270 (hw.1 _ o) rfl rfl rfl rfl rfl dX12_worst_56 hf (fun r5 hf => ?_)
    refine zW_istore (lv' := [(6, vi r5.1), (0, .ref (zad X (50, 0, 0))), (1, vi v1), (2, vi v2), (3, vi s.1), (4, vi s.2.1), (5, vi s.2.2.1)]) dX12_worst_59 rfl rfl ?_
    refine zW_aload_n 1 dX12_worst_61 rfl ?_
    refine zC_Vwv (As := []) (fun x hx => kX12_isAgain hw o hx) mv_RX12_273 (hw.1 _ o) rfl rfl rfl rfl rfl dX12_worst_62 hf (fun r6 hf => ?_)
    refine zW_iload 0 dX12_worst_65 rfl ?_
    refine zW_iconst dX12_worst_67 ?_
    refine zF_icmp_ne 75 dX12_worst_68 rfl rfl (w32_lit _ rfl) hf (fun c hf => ?_) (fun c hf => ?_)
    · refine zW_bipush dX12_worst_71 rfl ?_
      refine zW_istore (lv' := [(6, vi 31), (0, .ref (zad X (50, 0, 0))), (1, vi v1), (2, vi v2), (3, vi s.1), (4, vi s.2.1), (5, vi s.2.2.1)]) dX12_worst_73 rfl rfl ?_
      refine zW_sub [1, 2, 3, 4, 5, 6, 0] rfl ?_
      exact tX12_worst_b45_75 hw o hf hk hx
    · refine zW_sub [1, 2, 3, 4, 5, 6, 0] rfl ?_
      exact tX12_worst_b45_75 hw o hf hk hx
theorem tX12_worst_l45 {X : zX} {e : Nat → Prop} (hw : zWf X e) {T : zT} {v1 : Int} {v2 : Int} (o : zOk e (50, 0, 0)) {s0 : (Int × Int × Int × zMem)} {α : Type} {F : (Int × Int × Int × zMem) → Option α} {u : α} (hf : zb (zlp (fX12_worst_l45 v1 v2) 5000 s0) F = some u) (kx : ∀ x, F x = some u → zW X T mX12_worst 97 [(2, vi v2), (3, vi x.1), (4, vi x.2.1)] [] x.2.2.2) : zW X T mX12_worst 45 [(0, .ref (zad X (50, 0, 0))), (1, vi v1), (2, vi v2), (3, vi s0.1), (4, vi s0.2.1), (5, vi s0.2.2.1)] [] s0.2.2.2 := by
  obtain ⟨x, h, hf⟩ := zb_inv hf
  exact zlp_W (P := fun s => zW X T mX12_worst 45 [(0, .ref (zad X (50, 0, 0))), (1, vi v1), (2, vi v2), (3, vi s.1), (4, vi s.2.1), (5, vi s.2.2.1)] [] s.2.2.2) (E := fun x => zW X T mX12_worst 97 [(2, vi v2), (3, vi x.1), (4, vi x.2.1)] [] x.2.2.2) (fun s u h hk hx => tX12_worst_l45_y hw o s h hk hx) _ s0 x h (kx x hf)
set_option maxRecDepth 100000 in
theorem tX12_worst_0 {X : zX} {e : Nat → Prop} (hw : zWf X e) {v1 : Int} {v2 : Int} (o : zOk e (50, 0, 0)) {I : zMem} {u : (Int × zMem)} (hf : fX12_worst v1 v2 I = some u) : zW X (some (vi u.1), u.2) mX12_worst 0 [(0, .ref (zad X (50, 0, 0))), (1, vi v1), (2, vi v2)] [] I := by
  unfold fX12_worst at hf
  refine zW_aload_n 0 dX12_worst_0 rfl ?_
  refine zW_iconst dX12_worst_1 ?_
  refine zF_put lk_RX12_1 (hw.1 _ o) rfl rfl (zn_int _) dX12_worst_2 hf (fun I1 hf => ?_)
  refine zW_iload_n 2 dX12_worst_5 rfl ?_
  refine zW_i2l dX12_worst_6 ?_
  refine zW_lconst0 dX12_worst_7 ?_
  refine zW_lconst1 dX12_worst_8 ?_
  refine zC_Sri (As := [vl (w32 v2), vl 0, vl 1]) (fun x hx => kX12_within hw (v0 := w32 v2) (v2 := 0) (v4 := 1)  hx) ms_RX12_94 rfl rfl rfl rfl dX12_worst_9 hf (fun r2 hf => ?_)
  refine zF_if_ne 18 dX12_worst_12 rfl rfl hf (fun c hf => ?_) (fun c hf => ?_)
  · refine zW_bipush dX12_worst_15 rfl ?_
    exact zR_i hw rfl dX12_worst_17 hf
  · refine zW_iload_n 1 dX12_worst_18 rfl ?_
    refine zW_i2l dX12_worst_19 ?_
    refine zW_lconst0 dX12_worst_20 ?_
    refine zW_ldc2 dX12_worst_21 wc_RX12_132 ?_
    refine zC_Sri (As := [vl (w32 v1), vl 0, vl 3]) (fun x hx => kX12_within hw (v0 := w32 v1) (v2 := 0) (v4 := 3)  hx) ms_RX12_94 rfl rfl rfl rfl dX12_worst_24 hf (fun r3 hf => ?_)
    refine zF_if_ne 33 dX12_worst_27 rfl rfl hf (fun c hf => ?_) (fun c hf => ?_)
    · refine zW_bipush dX12_worst_30 rfl ?_
      exact zR_i hw rfl dX12_worst_32 hf
    · refine zW_aload_n 0 dX12_worst_33 rfl ?_
      refine zC_Vwv (As := []) (fun x hx => kX12_stores hw o hx) mv_RX12_267 (hw.1 _ o) rfl rfl rfl rfl rfl dX12_worst_34 hf (fun r4 hf => ?_)
      refine zW_iconst dX12_worst_37 ?_
      refine zW_istore_n (lv' := [(3, vi (-1)), (0, .ref (zad X (50, 0, 0))), (1, vi v1), (2, vi v2)]) dX12_worst_38 rfl rfl ?_
      refine zW_iconst dX12_worst_39 ?_
      refine zW_istore (lv' := [(4, vi 0), (3, vi (-1)), (0, .ref (zad X (50, 0, 0))), (1, vi v1), (2, vi v2)]) dX12_worst_40 rfl rfl ?_
      refine zW_iconst dX12_worst_42 ?_
      refine zW_istore (lv' := [(5, vi 0), (4, vi 0), (3, vi (-1)), (0, .ref (zad X (50, 0, 0))), (1, vi v1), (2, vi v2)]) dX12_worst_43 rfl rfl ?_
      refine zW_sub [3, 4, 5, 2, 1, 0] rfl ?_
      refine tX12_worst_l45 hw o (s0 := ((-1), 0, 0, r4)) hf (fun x7 hf => ?_)
      refine zW_iload_n 0 dX12_worst_97 rfl ?_
      refine zW_iconst dX12_worst_98 ?_
      refine zF_icmp_ne 107 dX12_worst_99 rfl rfl (w32_lit _ rfl) hf (fun c hf => ?_) (fun c hf => ?_)
      · refine zW_iload 2 dX12_worst_102 rfl ?_
        refine zW_goto 118 dX12_worst_104 rfl ?_
        exact zR_i hw rfl dX12_worst_118 hf
      · refine zW_iload_n 1 dX12_worst_107 rfl ?_
        refine zW_bipush dX12_worst_108 rfl ?_
        refine zF_icmp_le 117 dX12_worst_110 rfl rfl (w32_lit _ rfl) hf (fun c hf => ?_) (fun c hf => ?_)
        · refine zW_iload_n 1 dX12_worst_117 rfl ?_
          exact zR_i hw rfl dX12_worst_118 hf
        · refine zW_iconst dX12_worst_113 ?_
          refine zW_goto 118 dX12_worst_114 rfl ?_
          exact zR_i hw rfl dX12_worst_118 hf
theorem kX12_worst {X : zX} {e : Nat → Prop} (hw : zWf X e) {v1 : Int} {v2 : Int} (o : zOk e (50, 0, 0)) {I : zMem} {u : (Int × zMem)} (hf : fX12_worst v1 v2 I = some u) : zCn X mX12_worst yX12_worst [.ref (zad X (50, 0, 0)), vi v1, vi v2] I (some (vi u.1), u.2) := zCn_of (by decide +kernel) rfl rfl ⟨rfl, rfl⟩ (tX12_worst_0 hw.N o hf)
set_option maxRecDepth 100000 in
theorem tX12_process_0 {X : zX} {e : Nat → Prop} (hw : zWf X e) {v1 : Int} {v2 : Int} (o : zOk e (50, 0, 0)) {I : zMem} {u : (Int × zMem)} (hf : fX12_process v1 v2 I = some u) : zW X (some (vi u.1), u.2) mX12_process 0 [(0, .ref (zad X (50, 0, 0))), (1, vi v1), (2, vi v2)] [] I := by
  unfold fX12_process at hf
  refine zW_aload_n 0 dX12_process_0 rfl ?_
  refine zW_iconst dX12_process_1 ?_
  refine zF_put lk_RX12_1 (hw.1 _ o) rfl rfl (zn_int _) dX12_process_2 hf (fun I1 hf => ?_)
  refine zW_aload_n 0 dX12_process_5 rfl ?_
  refine zW_iload_n 1 dX12_process_6 rfl ?_
  refine zC_Vri (As := [vi v1]) (fun x hx => kX12_isProcess hw (v1 := v1) o hx) mv_RX12_222 (hw.1 _ o) rfl rfl rfl rfl rfl dX12_process_7 hf (fun r2 hf => ?_)
  refine zF_if_eq 25 dX12_process_10 rfl rfl hf (fun c hf => ?_) (fun c hf => ?_)
  · refine zW_bipush dX12_process_25 rfl ?_
    exact zR_i hw rfl dX12_process_27 hf
  · refine zW_iload_n 2 dX12_process_13 rfl ?_
    refine zW_i2l dX12_process_14 ?_
    refine zW_lconst0 dX12_process_15 ?_
    refine zW_ldc2 dX12_process_16 wc_RX12_276 ?_
    refine zC_Sri (As := [vl (w32 v2), vl 0, vl 5]) (fun x hx => kX12_within hw (v0 := w32 v2) (v2 := 0) (v4 := 5)  hx) ms_RX12_94 rfl rfl rfl rfl dX12_process_19 hf (fun r3 hf => ?_)
    refine zF_if_ne 28 dX12_process_22 rfl rfl hf (fun c hf => ?_) (fun c hf => ?_)
    · refine zW_bipush dX12_process_25 rfl ?_
      exact zR_i hw rfl dX12_process_27 hf
    · refine zW_aload_n 0 dX12_process_28 rfl ?_
      refine zW_iload_n 1 dX12_process_29 rfl ?_
      refine zC_Vri (As := [vi v1]) (fun x hx => kX12_own hw (v1 := v1) o hx) mv_RX12_188 (hw.1 _ o) rfl rfl rfl rfl rfl dX12_process_30 hf (fun r4 hf => ?_)
      refine zW_istore_n (lv' := [(3, vi r4), (0, .ref (zad X (50, 0, 0))), (1, vi v1), (2, vi v2)]) dX12_process_33 rfl rfl ?_
      refine zW_iload_n 3 dX12_process_34 rfl ?_
      rcases zif hf with ⟨ts0, hf⟩ | ⟨ts0, hf⟩
      · refine zW_tab 0 68 dX12_process_35 (by rw [ts0]; rfl) rfl rfl rfl ?_
        refine zW_aload_n 1 dX12_process_68 rfl ?_
        refine zW_getR (q' := (51, 0, 0)) lk_RX12_13 (hw.1 _ o) rfl rfl (hw.2.1 _ _ _ o rfl) dX12_process_69 ?_
        refine zW_iload_n 0 dX12_process_72 rfl ?_
        refine zW_iconst dX12_process_73 ?_
        refine zW_iadd dX12_process_74 ?_
        obtain ⟨c5, hf⟩ := zgd hf
        refine zF_iald (hw.1 _ (zokM (r' := 51) o rfl rfl)) rfl c5 rfl dX12_process_75 ?_
        exact zR_i hw rfl dX12_process_76 hf
      · rcases zif hf with ⟨ts1, hf⟩ | ⟨ts1, hf⟩
        · refine zW_tab 1 77 dX12_process_35 (by rw [ts1]; rfl) rfl rfl rfl ?_
          refine zW_aload_n 1 dX12_process_77 rfl ?_
          refine zW_getR (q' := (51, 0, 0)) lk_RX12_13 (hw.1 _ o) rfl rfl (hw.2.1 _ _ _ o rfl) dX12_process_78 ?_
          refine zW_iload_n 0 dX12_process_81 rfl ?_
          refine zW_iconst dX12_process_82 ?_
          refine zW_iadd dX12_process_83 ?_
          obtain ⟨c6, hf⟩ := zgd hf
          refine zF_iald (hw.1 _ (zokM (r' := 51) o rfl rfl)) rfl c6 rfl dX12_process_84 ?_
          refine zW_iconst dX12_process_85 ?_
          refine zF_icmp_ne 93 dX12_process_86 rfl rfl (w32_lit _ rfl) hf (fun c hf => ?_) (fun c hf => ?_)
          · refine zW_iconst dX12_process_89 ?_
            refine zW_goto 101 dX12_process_90 rfl ?_
            exact zR_i hw rfl dX12_process_101 hf
          · refine zW_aload_n 1 dX12_process_93 rfl ?_
            refine zW_getR (q' := (51, 0, 0)) lk_RX12_13 (hw.1 _ o) rfl rfl (hw.2.1 _ _ _ o rfl) dX12_process_94 ?_
            refine zW_iload_n 0 dX12_process_97 rfl ?_
            refine zW_iconst dX12_process_98 ?_
            refine zW_iadd dX12_process_99 ?_
            obtain ⟨c7, hf⟩ := zgd hf
            refine zF_iald (hw.1 _ (zokM (r' := 51) o rfl rfl)) rfl c7 rfl dX12_process_100 ?_
            exact zR_i hw rfl dX12_process_101 hf
        · rcases zif hf with ⟨ts2, hf⟩ | ⟨ts2, hf⟩
          · refine zW_tab 2 102 dX12_process_35 (by rw [ts2]; rfl) rfl rfl rfl ?_
            refine zW_aload_n 1 dX12_process_102 rfl ?_
            refine zW_getR (q' := (51, 0, 0)) lk_RX12_13 (hw.1 _ o) rfl rfl (hw.2.1 _ _ _ o rfl) dX12_process_103 ?_
            refine zW_iload_n 0 dX12_process_106 rfl ?_
            refine zW_iconst dX12_process_107 ?_
            refine zW_iadd dX12_process_108 ?_
            obtain ⟨c8, hf⟩ := zgd hf
            refine zF_iald (hw.1 _ (zokM (r' := 51) o rfl rfl)) rfl c8 rfl dX12_process_109 ?_
            exact zR_i hw rfl dX12_process_110 hf
          · rcases zif hf with ⟨ts3, hf⟩ | ⟨ts3, hf⟩
            · refine zW_tab 3 111 dX12_process_35 (by rw [ts3]; rfl) rfl rfl rfl ?_
              refine zW_aload_n 1 dX12_process_111 rfl ?_
              refine zW_getR (q' := (51, 0, 0)) lk_RX12_13 (hw.1 _ o) rfl rfl (hw.2.1 _ _ _ o rfl) dX12_process_112 ?_
              refine zW_iload_n 0 dX12_process_115 rfl ?_
              refine zW_iconst dX12_process_116 ?_
              refine zW_iadd dX12_process_117 ?_
              obtain ⟨c9, hf⟩ := zgd hf
              refine zF_iald (hw.1 _ (zokM (r' := 51) o rfl rfl)) rfl c9 rfl dX12_process_118 ?_
              exact zR_i hw rfl dX12_process_119 hf
            · rcases zif hf with ⟨ts4, hf⟩ | ⟨ts4, hf⟩
              · refine zW_tab 4 120 dX12_process_35 (by rw [ts4]; rfl) rfl rfl rfl ?_
                refine zW_aload_n 1 dX12_process_120 rfl ?_
                refine zW_getR (q' := (51, 0, 0)) lk_RX12_13 (hw.1 _ o) rfl rfl (hw.2.1 _ _ _ o rfl) dX12_process_121 ?_
                refine zW_iload_n 0 dX12_process_124 rfl ?_
                refine zW_iconst dX12_process_125 ?_
                refine zW_iadd dX12_process_126 ?_
                obtain ⟨c10, hf⟩ := zgd hf
                refine zF_iald (hw.1 _ (zokM (r' := 51) o rfl rfl)) rfl c10 rfl dX12_process_127 ?_
                exact zR_i hw rfl dX12_process_128 hf
              · refine zW_tabd 129 dX12_process_35 (by omega) rfl ?_
                refine zW_aload_n 1 dX12_process_129 rfl ?_
                refine zW_getR (q' := (51, 0, 0)) lk_RX12_13 (hw.1 _ o) rfl rfl (hw.2.1 _ _ _ o rfl) dX12_process_130 ?_
                refine zW_iload_n 0 dX12_process_133 rfl ?_
                refine zW_iconst dX12_process_134 ?_
                refine zW_iadd dX12_process_135 ?_
                obtain ⟨c11, hf⟩ := zgd hf
                refine zF_iald (hw.1 _ (zokM (r' := 51) o rfl rfl)) rfl c11 rfl dX12_process_136 ?_
                refine zW_iconst dX12_process_137 ?_
                refine zF_icmp_ne 145 dX12_process_138 rfl rfl (w32_lit _ rfl) hf (fun c hf => ?_) (fun c hf => ?_)
                · refine zW_iconst dX12_process_141 ?_
                  refine zW_goto 156 dX12_process_142 rfl ?_
                  exact zR_i hw rfl dX12_process_156 hf
                · refine zW_aload_n 1 dX12_process_145 rfl ?_
                  refine zW_getR (q' := (51, 0, 0)) lk_RX12_13 (hw.1 _ o) rfl rfl (hw.2.1 _ _ _ o rfl) dX12_process_146 ?_
                  refine zW_iload_n 0 dX12_process_149 rfl ?_
                  refine zW_iconst dX12_process_150 ?_
                  refine zW_iadd dX12_process_151 ?_
                  obtain ⟨c12, hf⟩ := zgd hf
                  refine zF_iald (hw.1 _ (zokM (r' := 51) o rfl rfl)) rfl c12 rfl dX12_process_152 ?_
                  refine zC_Sri (As := [vi (I1 (51, 0, 0) (ix (r4 + 3)))]) (fun x hx => kX12_versionOf hw (v0 := I1 (51, 0, 0) (ix (r4 + 3)))  hx) ms_RX12_207 rfl rfl rfl rfl dX12_process_153 hf (fun r13 hf => ?_)
                  exact zR_i hw rfl dX12_process_156 hf
theorem kX12_process {X : zX} {e : Nat → Prop} (hw : zWf X e) {v1 : Int} {v2 : Int} (o : zOk e (50, 0, 0)) {I : zMem} {u : (Int × zMem)} (hf : fX12_process v1 v2 I = some u) : zCn X mX12_process yX12_process [.ref (zad X (50, 0, 0)), vi v1, vi v2] I (some (vi u.1), u.2) := zCn_of (by decide +kernel) rfl rfl ⟨rfl, rfl⟩ (tX12_process_0 hw.N o hf)
set_option maxRecDepth 100000 in
theorem tX12_kept_0 {X : zX} {e : Nat → Prop} (hw : zWf X e) {v1 : Int} {v2 : Int} (o : zOk e (50, 0, 0)) {I : zMem} {u : (Int × zMem)} (hf : fX12_kept v1 v2 I = some u) : zW X (some (vi u.1), u.2) mX12_kept 0 [(0, .ref (zad X (50, 0, 0))), (1, vi v1), (2, vi v2)] [] I := by
  unfold fX12_kept at hf
  refine zW_aload_n 0 dX12_kept_0 rfl ?_
  refine zW_iconst dX12_kept_1 ?_
  refine zF_put lk_RX12_1 (hw.1 _ o) rfl rfl (zn_int _) dX12_kept_2 hf (fun I1 hf => ?_)
  refine zW_iload_n 1 dX12_kept_5 rfl ?_
  refine zW_i2l dX12_kept_6 ?_
  refine zW_lconst0 dX12_kept_7 ?_
  refine zW_ldc2 dX12_kept_8 wc_RX12_123 ?_
  refine zC_Sri (As := [vl (w32 v1), vl 0, vl 7]) (fun x hx => kX12_within hw (v0 := w32 v1) (v2 := 0) (v4 := 7)  hx) ms_RX12_94 rfl rfl rfl rfl dX12_kept_11 hf (fun r2 hf => ?_)
  refine zF_if_eq 27 dX12_kept_14 rfl rfl hf (fun c hf => ?_) (fun c hf => ?_)
  · refine zW_bipush dX12_kept_27 rfl ?_
    exact zR_i hw rfl dX12_kept_29 hf
  · refine zW_iload_n 2 dX12_kept_17 rfl ?_
    refine zW_i2l dX12_kept_18 ?_
    refine zW_lconst0 dX12_kept_19 ?_
    refine zW_lconst1 dX12_kept_20 ?_
    refine zC_Sri (As := [vl (w32 v2), vl 0, vl 1]) (fun x hx => kX12_within hw (v0 := w32 v2) (v2 := 0) (v4 := 1)  hx) ms_RX12_94 rfl rfl rfl rfl dX12_kept_21 hf (fun r3 hf => ?_)
    refine zF_if_ne 30 dX12_kept_24 rfl rfl hf (fun c hf => ?_) (fun c hf => ?_)
    · refine zW_bipush dX12_kept_27 rfl ?_
      exact zR_i hw rfl dX12_kept_29 hf
    · refine zW_aload_n 0 dX12_kept_30 rfl ?_
      refine zW_getR (q' := (51, 0, 0)) lk_RX12_13 (hw.1 _ o) rfl rfl (hw.2.1 _ _ _ o rfl) dX12_kept_31 ?_
      refine zW_bipush dX12_kept_34 rfl ?_
      refine zW_iload_n 1 dX12_kept_36 rfl ?_
      refine zW_iadd dX12_kept_37 ?_
      obtain ⟨c4, hf⟩ := zgd hf
      refine zF_iald (hw.1 _ (zokM (r' := 51) o rfl rfl)) rfl c4 rfl dX12_kept_38 ?_
      refine zW_iconst dX12_kept_39 ?_
      refine zF_icmp_ne 45 dX12_kept_40 rfl rfl (w32_lit _ rfl) hf (fun c hf => ?_) (fun c hf => ?_)
      · refine zW_iconst dX12_kept_43 ?_
        exact zR_i hw rfl dX12_kept_44 hf
      · refine zW_iload_n 2 dX12_kept_45 rfl ?_
        refine zF_if_ne 61 dX12_kept_46 rfl rfl hf (fun c hf => ?_) (fun c hf => ?_)
        · refine zW_aload_n 0 dX12_kept_49 rfl ?_
          refine zW_getR (q' := (51, 0, 0)) lk_RX12_13 (hw.1 _ o) rfl rfl (hw.2.1 _ _ _ o rfl) dX12_kept_50 ?_
          refine zW_bipush dX12_kept_53 rfl ?_
          refine zW_iload_n 1 dX12_kept_55 rfl ?_
          refine zW_iadd dX12_kept_56 ?_
          refine zF_iald (hw.1 _ (zokM (r' := 51) o rfl rfl)) rfl c4 rfl dX12_kept_57 ?_
          refine zW_goto 70 dX12_kept_58 rfl ?_
          exact zR_i hw rfl dX12_kept_70 hf
        · refine zW_aload_n 0 dX12_kept_61 rfl ?_
          refine zW_getR (q' := (51, 0, 0)) lk_RX12_13 (hw.1 _ o) rfl rfl (hw.2.1 _ _ _ o rfl) dX12_kept_62 ?_
          refine zW_bipush dX12_kept_65 rfl ?_
          refine zW_iload_n 1 dX12_kept_67 rfl ?_
          refine zW_iadd dX12_kept_68 ?_
          obtain ⟨c5, hf⟩ := zgd hf
          refine zF_iald (hw.1 _ (zokM (r' := 51) o rfl rfl)) rfl c5 rfl dX12_kept_69 ?_
          exact zR_i hw rfl dX12_kept_70 hf
theorem kX12_kept {X : zX} {e : Nat → Prop} (hw : zWf X e) {v1 : Int} {v2 : Int} (o : zOk e (50, 0, 0)) {I : zMem} {u : (Int × zMem)} (hf : fX12_kept v1 v2 I = some u) : zCn X mX12_kept yX12_kept [.ref (zad X (50, 0, 0)), vi v1, vi v2] I (some (vi u.1), u.2) := zCn_of (by decide +kernel) rfl rfl ⟨rfl, rfl⟩ (tX12_kept_0 hw.N o hf)
set_option maxRecDepth 100000 in
theorem tX12_again_0 {X : zX} {e : Nat → Prop} (hw : zWf X e) {v1 : Int} (o : zOk e (50, 0, 0)) {I : zMem} {u : (Int × zMem)} (hf : fX12_again v1 I = some u) : zW X (some (vi u.1), u.2) mX12_again 0 [(0, .ref (zad X (50, 0, 0))), (1, vi v1)] [] I := by
  unfold fX12_again at hf
  refine zW_aload_n 0 dX12_again_0 rfl ?_
  refine zW_iconst dX12_again_1 ?_
  refine zF_put lk_RX12_1 (hw.1 _ o) rfl rfl (zn_int _) dX12_again_2 hf (fun I1 hf => ?_)
  refine zW_iload_n 1 dX12_again_5 rfl ?_
  refine zF_if_ge 12 dX12_again_6 rfl rfl hf (fun c hf => ?_) (fun c hf => ?_)
  · refine zW_iload_n 1 dX12_again_12 rfl ?_
    refine zW_aload_n 0 dX12_again_13 rfl ?_
    refine zW_getR (q' := (51, 0, 0)) lk_RX12_13 (hw.1 _ o) rfl rfl (hw.2.1 _ _ _ o rfl) dX12_again_14 ?_
    refine zW_bipush dX12_again_17 rfl ?_
    refine zF_iald (hw.1 _ (zokM (r' := 51) o rfl rfl)) rfl (zin_lit _ _ rfl) (ix_lit _ rfl) dX12_again_19 ?_
    refine zF_icmp_ge 35 dX12_again_20 rfl rfl rfl hf (fun c hf => ?_) (fun c hf => ?_)
    · refine zW_iconst dX12_again_35 ?_
      exact zR_i hw rfl dX12_again_36 hf
    · refine zW_aload_n 0 dX12_again_23 rfl ?_
      refine zW_getR (q' := (51, 0, 0)) lk_RX12_13 (hw.1 _ o) rfl rfl (hw.2.1 _ _ _ o rfl) dX12_again_24 ?_
      refine zW_bipush dX12_again_27 rfl ?_
      refine zW_iload_n 1 dX12_again_29 rfl ?_
      refine zW_iadd dX12_again_30 ?_
      obtain ⟨c2, hf⟩ := zgd hf
      refine zF_iald (hw.1 _ (zokM (r' := 51) o rfl rfl)) rfl c2 rfl dX12_again_31 ?_
      refine zW_goto 36 dX12_again_32 rfl ?_
      exact zR_i hw rfl dX12_again_36 hf
  · refine zW_bipush dX12_again_9 rfl ?_
    exact zR_i hw rfl dX12_again_11 hf
theorem kX12_again {X : zX} {e : Nat → Prop} (hw : zWf X e) {v1 : Int} (o : zOk e (50, 0, 0)) {I : zMem} {u : (Int × zMem)} (hf : fX12_again v1 I = some u) : zCn X mX12_again yX12_again [.ref (zad X (50, 0, 0)), vi v1] I (some (vi u.1), u.2) := zCn_of (by decide +kernel) rfl rfl ⟨rfl, rfl⟩ (tX12_again_0 hw.N o hf)
set_option maxRecDepth 100000 in
theorem tX12_waiting_0 {X : zX} {e : Nat → Prop} (hw : zWf X e) {v1 : Int} (o : zOk e (50, 0, 0)) {I : zMem} {u : (Int × zMem)} (hf : fX12_waiting v1 I = some u) : zW X (some (vi u.1), u.2) mX12_waiting 0 [(0, .ref (zad X (50, 0, 0))), (1, vi v1)] [] I := by
  unfold fX12_waiting at hf
  refine zW_aload_n 0 dX12_waiting_0 rfl ?_
  refine zW_iconst dX12_waiting_1 ?_
  refine zF_put lk_RX12_1 (hw.1 _ o) rfl rfl (zn_int _) dX12_waiting_2 hf (fun I1 hf => ?_)
  refine zW_iload_n 1 dX12_waiting_5 rfl ?_
  refine zF_if_ge 12 dX12_waiting_6 rfl rfl hf (fun c hf => ?_) (fun c hf => ?_)
  · refine zW_iload_n 1 dX12_waiting_12 rfl ?_
    refine zW_aload_n 0 dX12_waiting_13 rfl ?_
    refine zW_getR (q' := (51, 0, 0)) lk_RX12_13 (hw.1 _ o) rfl rfl (hw.2.1 _ _ _ o rfl) dX12_waiting_14 ?_
    refine zW_bipush dX12_waiting_17 rfl ?_
    refine zF_iald (hw.1 _ (zokM (r' := 51) o rfl rfl)) rfl (zin_lit _ _ rfl) (ix_lit _ rfl) dX12_waiting_19 ?_
    refine zF_icmp_ge 35 dX12_waiting_20 rfl rfl rfl hf (fun c hf => ?_) (fun c hf => ?_)
    · refine zW_iconst dX12_waiting_35 ?_
      exact zR_i hw rfl dX12_waiting_36 hf
    · refine zW_aload_n 0 dX12_waiting_23 rfl ?_
      refine zW_getR (q' := (51, 0, 0)) lk_RX12_13 (hw.1 _ o) rfl rfl (hw.2.1 _ _ _ o rfl) dX12_waiting_24 ?_
      refine zW_bipush dX12_waiting_27 rfl ?_
      refine zW_iload_n 1 dX12_waiting_29 rfl ?_
      refine zW_iadd dX12_waiting_30 ?_
      obtain ⟨c2, hf⟩ := zgd hf
      refine zF_iald (hw.1 _ (zokM (r' := 51) o rfl rfl)) rfl c2 rfl dX12_waiting_31 ?_
      refine zW_goto 36 dX12_waiting_32 rfl ?_
      exact zR_i hw rfl dX12_waiting_36 hf
  · refine zW_bipush dX12_waiting_9 rfl ?_
    exact zR_i hw rfl dX12_waiting_11 hf
theorem kX12_waiting {X : zX} {e : Nat → Prop} (hw : zWf X e) {v1 : Int} (o : zOk e (50, 0, 0)) {I : zMem} {u : (Int × zMem)} (hf : fX12_waiting v1 I = some u) : zCn X mX12_waiting yX12_waiting [.ref (zad X (50, 0, 0)), vi v1] I (some (vi u.1), u.2) := zCn_of (by decide +kernel) rfl rfl ⟨rfl, rfl⟩ (tX12_waiting_0 hw.N o hf)
set_option maxRecDepth 100000 in
theorem tX12_next_l62_y {X : zX} {e : Nat → Prop} (hw : zWf X e) {T : zT} {v1 : Int} {v2 : Int} {w3 : Int} {w4 : Int} {w5 : Int} (o : zOk e (50, 0, 0)) (s : (Int × zMem)) {u : ((Int × zMem) ⊕ (Int × zMem))} (hf : fX12_next_l62 v1 v2 w3 w4 w5 s = some u) (hk : ∀ s', u = .inl s' → zW X T mX12_next 62 [(0, .ref (zad X (50, 0, 0))), (1, vi v1), (2, vi v2), (3, vi w3), (4, vi w4), (5, vi w5), (6, vi s'.1)] [] s'.2) (hx : ∀ x, u = .inr x → zW X T mX12_next 98 [(0, .ref (zad X (50, 0, 0))), (1, vi v1), (2, vi v2), (3, vi w3), (4, vi w4), (5, vi w5)] [] x.2) : zW X T mX12_next 62 [(0, .ref (zad X (50, 0, 0))), (1, vi v1), (2, vi v2), (3, vi w3), (4, vi w4), (5, vi w5), (6, vi s.1)] [] s.2 := by
  unfold fX12_next_l62 at hf
  refine zW_iload 6 dX12_next_62 rfl ?_
  refine zW_bipush dX12_next_64 rfl ?_
  refine zF_icmp_ge 98 dX12_next_66 rfl rfl (w32_lit _ rfl) hf (fun c hf => ?_) (fun c hf => ?_)
  · refine zW_sub [0, 1, 2, 3, 4, 5] rfl ?_
    exact hx _ (Option.some.inj hf).symm
  · refine zW_aload_n 0 dX12_next_69 rfl ?_
    refine zW_getR (q' := (57, 0, 0)) lk_RX12_34 (hw.1 _ o) rfl rfl (hw.2.1 _ _ _ o rfl) dX12_next_70 ?_
    refine zW_iload 6 dX12_next_73 rfl ?_
    refine zW_aload_n 0 dX12_next_75 rfl ?_
    refine zW_getR (q' := (51, 0, 0)) lk_RX12_13 (hw.1 _ o) rfl rfl (hw.2.1 _ _ _ o rfl) dX12_next_76 ?_
    refine zW_aload_n 0 dX12_next_79 rfl ?_
    refine zW_iload_n 1 dX12_next_80 rfl ?_
    refine zC_Vri (As := [vi v1]) (fun x hx => kX12_own hw (v1 := v1) o hx) mv_RX12_188 (hw.1 _ o) rfl rfl rfl rfl rfl dX12_next_81 hf (fun r6 hf => ?_)
    refine zW_bipush dX12_next_84 rfl ?_
    refine zW_iadd dX12_next_86 ?_
    refine zW_iload 6 dX12_next_87 rfl ?_
    refine zW_iadd dX12_next_89 ?_
    obtain ⟨c7, hf⟩ := zgd hf
    refine zF_iald (hw.1 _ (zokM (r' := 51) o rfl rfl)) rfl c7 rfl dX12_next_90 ?_
    obtain ⟨c8, hf⟩ := zgd hf
    refine zF_iast (hw.1 _ (zokM (r' := 57) o rfl rfl)) rfl c8 rfl dX12_next_91 hf (fun I9 hf => ?_)
    refine zW_iinc 6 (lv' := [(6, vi (s.1 + 1)), (0, .ref (zad X (50, 0, 0))), (1, vi v1), (2, vi v2), (3, vi w3), (4, vi w4), (5, vi w5)]) dX12_next_92 rfl rfl rfl ?_
    refine zW_goto 62 dX12_next_95 rfl ?_
    refine zW_sub [1, 2, 3, 4, 5, 6, 0] rfl ?_
    exact hk _ (Option.some.inj hf).symm
theorem tX12_next_l62 {X : zX} {e : Nat → Prop} (hw : zWf X e) {T : zT} {v1 : Int} {v2 : Int} {w3 : Int} {w4 : Int} {w5 : Int} (o : zOk e (50, 0, 0)) {s0 : (Int × zMem)} {α : Type} {F : (Int × zMem) → Option α} {u : α} (hf : zb (zlp (fX12_next_l62 v1 v2 w3 w4 w5) 5000 s0) F = some u) (kx : ∀ x, F x = some u → zW X T mX12_next 98 [(0, .ref (zad X (50, 0, 0))), (1, vi v1), (2, vi v2), (3, vi w3), (4, vi w4), (5, vi w5)] [] x.2) : zW X T mX12_next 62 [(0, .ref (zad X (50, 0, 0))), (1, vi v1), (2, vi v2), (3, vi w3), (4, vi w4), (5, vi w5), (6, vi s0.1)] [] s0.2 := by
  obtain ⟨x, h, hf⟩ := zb_inv hf
  exact zlp_W (P := fun s => zW X T mX12_next 62 [(0, .ref (zad X (50, 0, 0))), (1, vi v1), (2, vi v2), (3, vi w3), (4, vi w4), (5, vi w5), (6, vi s.1)] [] s.2) (E := fun x => zW X T mX12_next 98 [(0, .ref (zad X (50, 0, 0))), (1, vi v1), (2, vi v2), (3, vi w3), (4, vi w4), (5, vi w5)] [] x.2) (fun s u h hk hx => tX12_next_l62_y hw o s h hk hx) _ s0 x h (kx x hf)
set_option maxRecDepth 100000 in
theorem tX12_next_b53_129 {X : zX} {e : Nat → Prop} (hw : zWf X e) {T : zT} {v1 : Int} {v2 : Int} {w3 : Int} {w4 : Int} {w5 : Int} {I : zMem} (o : zOk e (50, 0, 0)) {u : ((Int × Int × Int × zMem) ⊕ (Int × Int × Int × zMem))} (hf : fX12_next_b53_129 v1 v2 w3 w4 w5 I = some u) (hk : ∀ s', u = .inl s' → zW X T mX12_next 53 [(0, .ref (zad X (50, 0, 0))), (1, vi v1), (2, vi v2), (3, vi s'.1), (4, vi s'.2.1), (5, vi s'.2.2.1)] [] s'.2.2.2) (hx : ∀ x, u = .inr x → zW X T mX12_next 135 [(3, vi x.1)] [] x.2.2.2) : zW X T mX12_next 129 [(0, .ref (zad X (50, 0, 0))), (1, vi v1), (2, vi v2), (3, vi w3), (4, vi w4), (5, vi w5)] [] I := by
  unfold fX12_next_b53_129 at hf
  refine zW_iinc 5 (lv' := [(5, vi (w5 + 1)), (0, .ref (zad X (50, 0, 0))), (1, vi v1), (2, vi v2), (3, vi w3), (4, vi w4)]) dX12_next_129 rfl rfl rfl ?_
  refine zW_goto 53 dX12_next_132 rfl ?_
  refine zW_sub [1, 2, 3, 4, 5, 0] rfl ?_
  exact hk _ (Option.some.inj hf).symm
set_option maxRecDepth 100000 in
theorem tX12_next_l53_y {X : zX} {e : Nat → Prop} (hw : zWf X e) {T : zT} {v1 : Int} {v2 : Int} (o : zOk e (50, 0, 0)) (s : (Int × Int × Int × zMem)) {u : ((Int × Int × Int × zMem) ⊕ (Int × Int × Int × zMem))} (hf : fX12_next_l53 v1 v2 s = some u) (hk : ∀ s', u = .inl s' → zW X T mX12_next 53 [(0, .ref (zad X (50, 0, 0))), (1, vi v1), (2, vi v2), (3, vi s'.1), (4, vi s'.2.1), (5, vi s'.2.2.1)] [] s'.2.2.2) (hx : ∀ x, u = .inr x → zW X T mX12_next 135 [(3, vi x.1)] [] x.2.2.2) : zW X T mX12_next 53 [(0, .ref (zad X (50, 0, 0))), (1, vi v1), (2, vi v2), (3, vi s.1), (4, vi s.2.1), (5, vi s.2.2.1)] [] s.2.2.2 := by
  unfold fX12_next_l53 at hf
  refine zW_iload 5 dX12_next_53 rfl ?_
  refine zW_iconst dX12_next_55 ?_
  refine zF_icmp_ge 135 dX12_next_56 rfl rfl (w32_lit _ rfl) hf (fun c hf => ?_) (fun c hf => ?_)
  · refine zW_sub [3] rfl ?_
    exact hx _ (Option.some.inj hf).symm
  · refine zW_iconst dX12_next_59 ?_
    refine zW_istore (lv' := [(6, vi 0), (0, .ref (zad X (50, 0, 0))), (1, vi v1), (2, vi v2), (3, vi s.1), (4, vi s.2.1), (5, vi s.2.2.1)]) dX12_next_60 rfl rfl ?_
    refine zW_sub [1, 2, 3, 4, 5, 6, 0] rfl ?_
    refine tX12_next_l62 hw o (s0 := (0, s.2.2.2)) hf (fun x10 hf => ?_)
    refine zW_aload_n 0 dX12_next_98 rfl ?_
    refine zW_iload 5 dX12_next_99 rfl ?_
    refine zW_iload_n 2 dX12_next_101 rfl ?_
    refine zC_Vwv (As := [vi s.2.2.1, vi v2]) (fun x hx => kX12_addsOften hw (v1 := s.2.2.1) (v2 := v2) o hx) mv_RX12_109 (hw.1 _ o) rfl rfl rfl rfl rfl dX12_next_102 hf (fun r11 hf => ?_)
    refine zW_aload_n 0 dX12_next_105 rfl ?_
    refine zW_iconst dX12_next_106 ?_
    refine zC_Vri (As := [vi 1]) (fun x hx => kX12_leastApart hw (v1 := 1) o hx) mv_RX12_143 (hw.1 _ o) rfl rfl rfl rfl rfl dX12_next_107 hf (fun r12 hf => ?_)
    refine zW_istore (lv' := [(6, vi r12), (0, .ref (zad X (50, 0, 0))), (1, vi v1), (2, vi v2), (3, vi s.1), (4, vi s.2.1), (5, vi s.2.2.1)]) dX12_next_110 rfl rfl ?_
    refine zW_iload 0 dX12_next_112 rfl ?_
    refine zW_iload 5 dX12_next_114 rfl ?_
    refine zF_icmp_gt 122 dX12_next_116 rfl rfl rfl hf (fun c hf => ?_) (fun c hf => ?_)
    · refine zW_iload 0 dX12_next_122 rfl ?_
      refine zW_istore (lv' := [(4, vi r12), (6, vi r12), (0, .ref (zad X (50, 0, 0))), (1, vi v1), (2, vi v2), (3, vi s.1), (5, vi s.2.2.1)]) dX12_next_124 rfl rfl ?_
      refine zW_iload 6 dX12_next_126 rfl ?_
      refine zW_istore_n (lv' := [(3, vi s.2.2.1), (4, vi r12), (6, vi r12), (0, .ref (zad X (50, 0, 0))), (1, vi v1), (2, vi v2), (5, vi s.2.2.1)]) dX12_next_128 rfl rfl ?_
      refine zW_sub [3, 4, 5, 0, 1, 6] rfl ?_
      exact tX12_next_b53_129 hw o hf hk hx
    · refine zW_goto 129 dX12_next_119 rfl ?_
      refine zW_sub [1, 2, 3, 4, 5, 6] rfl ?_
      exact tX12_next_b53_129 hw o hf hk hx
theorem tX12_next_l53 {X : zX} {e : Nat → Prop} (hw : zWf X e) {T : zT} {v1 : Int} {v2 : Int} (o : zOk e (50, 0, 0)) {s0 : (Int × Int × Int × zMem)} {α : Type} {F : (Int × Int × Int × zMem) → Option α} {u : α} (hf : zb (zlp (fX12_next_l53 v1 v2) 5000 s0) F = some u) (kx : ∀ x, F x = some u → zW X T mX12_next 135 [(3, vi x.1)] [] x.2.2.2) : zW X T mX12_next 53 [(0, .ref (zad X (50, 0, 0))), (1, vi v1), (2, vi v2), (3, vi s0.1), (4, vi s0.2.1), (5, vi s0.2.2.1)] [] s0.2.2.2 := by
  obtain ⟨x, h, hf⟩ := zb_inv hf
  exact zlp_W (P := fun s => zW X T mX12_next 53 [(0, .ref (zad X (50, 0, 0))), (1, vi v1), (2, vi v2), (3, vi s.1), (4, vi s.2.1), (5, vi s.2.2.1)] [] s.2.2.2) (E := fun x => zW X T mX12_next 135 [(3, vi x.1)] [] x.2.2.2) (fun s u h hk hx => tX12_next_l53_y hw o s h hk hx) _ s0 x h (kx x hf)
set_option maxRecDepth 100000 in
theorem tX12_next_0 {X : zX} {e : Nat → Prop} (hw : zWf X e) {v1 : Int} {v2 : Int} (o : zOk e (50, 0, 0)) {I : zMem} {u : (Int × zMem)} (hf : fX12_next v1 v2 I = some u) : zW X (some (vi u.1), u.2) mX12_next 0 [(0, .ref (zad X (50, 0, 0))), (1, vi v1), (2, vi v2)] [] I := by
  unfold fX12_next at hf
  refine zW_aload_n 0 dX12_next_0 rfl ?_
  refine zW_iconst dX12_next_1 ?_
  refine zF_put lk_RX12_1 (hw.1 _ o) rfl rfl (zn_int _) dX12_next_2 hf (fun I1 hf => ?_)
  refine zW_aload_n 0 dX12_next_5 rfl ?_
  refine zW_iload_n 1 dX12_next_6 rfl ?_
  refine zC_Vri (As := [vi v1]) (fun x hx => kX12_isProcess hw (v1 := v1) o hx) mv_RX12_222 (hw.1 _ o) rfl rfl rfl rfl rfl dX12_next_7 hf (fun r2 hf => ?_)
  refine zF_if_ne 16 dX12_next_10 rfl rfl hf (fun c hf => ?_) (fun c hf => ?_)
  · refine zW_bipush dX12_next_13 rfl ?_
    exact zR_i hw rfl dX12_next_15 hf
  · refine zW_iload_n 2 dX12_next_16 rfl ?_
    refine zC_Sri (As := [vi v2]) (fun x hx => kX12_isLength hw (v0 := v2)  hx) ms_RX12_134 rfl rfl rfl rfl dX12_next_17 hf (fun r3 hf => ?_)
    refine zF_if_ne 26 dX12_next_20 rfl rfl hf (fun c hf => ?_) (fun c hf => ?_)
    · refine zW_bipush dX12_next_23 rfl ?_
      exact zR_i hw rfl dX12_next_25 hf
    · refine zW_aload_n 0 dX12_next_26 rfl ?_
      refine zW_getR (q' := (51, 0, 0)) lk_RX12_13 (hw.1 _ o) rfl rfl (hw.2.1 _ _ _ o rfl) dX12_next_27 ?_
      refine zW_aload_n 0 dX12_next_30 rfl ?_
      refine zW_iload_n 1 dX12_next_31 rfl ?_
      refine zC_Vri (As := [vi v1]) (fun x hx => kX12_own hw (v1 := v1) o hx) mv_RX12_188 (hw.1 _ o) rfl rfl rfl rfl rfl dX12_next_32 hf (fun r4 hf => ?_)
      refine zW_iconst dX12_next_35 ?_
      refine zW_iadd dX12_next_36 ?_
      obtain ⟨c5, hf⟩ := zgd hf
      refine zF_iald (hw.1 _ (zokM (r' := 51) o rfl rfl)) rfl c5 rfl dX12_next_37 ?_
      refine zW_iconst dX12_next_38 ?_
      refine zF_icmp_ne 45 dX12_next_39 rfl rfl (w32_lit _ rfl) hf (fun c hf => ?_) (fun c hf => ?_)
      · refine zW_bipush dX12_next_42 rfl ?_
        exact zR_i hw rfl dX12_next_44 hf
      · refine zW_iconst dX12_next_45 ?_
        refine zW_istore_n (lv' := [(3, vi (-1)), (0, .ref (zad X (50, 0, 0))), (1, vi v1), (2, vi v2)]) dX12_next_46 rfl rfl ?_
        refine zW_iconst dX12_next_47 ?_
        refine zW_istore (lv' := [(4, vi (-1)), (3, vi (-1)), (0, .ref (zad X (50, 0, 0))), (1, vi v1), (2, vi v2)]) dX12_next_48 rfl rfl ?_
        refine zW_iconst dX12_next_50 ?_
        refine zW_istore (lv' := [(5, vi 0), (4, vi (-1)), (3, vi (-1)), (0, .ref (zad X (50, 0, 0))), (1, vi v1), (2, vi v2)]) dX12_next_51 rfl rfl ?_
        refine zW_sub [3, 4, 5, 2, 1, 0] rfl ?_
        refine tX12_next_l53 hw o (s0 := ((-1), (-1), 0, I1)) hf (fun x13 hf => ?_)
        refine zW_iload_n 0 dX12_next_135 rfl ?_
        exact zR_i hw rfl dX12_next_136 hf
theorem kX12_next {X : zX} {e : Nat → Prop} (hw : zWf X e) {v1 : Int} {v2 : Int} (o : zOk e (50, 0, 0)) {I : zMem} {u : (Int × zMem)} (hf : fX12_next v1 v2 I = some u) : zCn X mX12_next yX12_next [.ref (zad X (50, 0, 0)), vi v1, vi v2] I (some (vi u.1), u.2) := zCn_of (by decide +kernel) rfl rfl ⟨rfl, rfl⟩ (tX12_next_0 hw.N o hf)
set_option maxRecDepth 100000 in
theorem tX12_enough_b87_139 {X : zX} {e : Nat → Prop} (hw : zWf X e) {T : zT} {v1 : Int} {v2 : Int} {v3 : Int} {w4 : Int} {w5 : Int} {w6 : Int} {k0 : Int} {k1 : Int} {I : zMem} (o : zOk e (50, 0, 0)) (ko2 : zOk e (58, 0, 0)) {u : ((Int × zMem) ⊕ (Int × zMem))} (hf : fX12_enough_b87_139 v1 v2 v3 w4 w5 w6 k0 k1 I = some u) (hk : ∀ s', u = .inl s' → zW X T mX12_enough 87 [(0, .ref (zad X (50, 0, 0))), (2, vi v2), (3, vi v3), (4, vi w4), (5, vi w5), (6, vi s'.1)] [] s'.2) (hx : ∀ x, u = .inr x → zW X T mX12_enough 146 [(0, .ref (zad X (50, 0, 0))), (2, vi v2), (3, vi v3), (4, vi w4), (5, vi w5)] [] x.2) : zW X T mX12_enough 139 [(0, .ref (zad X (50, 0, 0))), (2, vi v2), (3, vi v3), (4, vi w4), (5, vi w5), (6, vi w6)] [vi k0, vi k1, .ref (zad X (58, 0, 0))] I := by
  unfold fX12_enough_b87_139 at hf
  obtain ⟨c12, hf⟩ := zgd hf
  refine zF_iast (hw.1 _ ko2) rfl c12 rfl dX12_enough_139 hf (fun I13 hf => ?_)
  refine zW_iinc 5 (lv' := [(6, vi (w6 + 1)), (0, .ref (zad X (50, 0, 0))), (2, vi v2), (3, vi v3), (4, vi w4), (5, vi w5)]) dX12_enough_140 rfl rfl rfl ?_
  refine zW_goto 87 dX12_enough_143 rfl ?_
  refine zW_sub [1, 2, 3, 4, 5, 0] rfl ?_
  exact hk _ (Option.some.inj hf).symm
set_option maxRecDepth 100000 in
theorem tX12_enough_l87_y {X : zX} {e : Nat → Prop} (hw : zWf X e) {T : zT} {v1 : Int} {v2 : Int} {v3 : Int} {w4 : Int} {w5 : Int} (o : zOk e (50, 0, 0)) (s : (Int × zMem)) {u : ((Int × zMem) ⊕ (Int × zMem))} (hf : fX12_enough_l87 v1 v2 v3 w4 w5 s = some u) (hk : ∀ s', u = .inl s' → zW X T mX12_enough 87 [(0, .ref (zad X (50, 0, 0))), (2, vi v2), (3, vi v3), (4, vi w4), (5, vi w5), (6, vi s'.1)] [] s'.2) (hx : ∀ x, u = .inr x → zW X T mX12_enough 146 [(0, .ref (zad X (50, 0, 0))), (2, vi v2), (3, vi v3), (4, vi w4), (5, vi w5)] [] x.2) : zW X T mX12_enough 87 [(0, .ref (zad X (50, 0, 0))), (2, vi v2), (3, vi v3), (4, vi w4), (5, vi w5), (6, vi s.1)] [] s.2 := by
  unfold fX12_enough_l87 at hf
  refine zW_iload 5 dX12_enough_87 rfl ?_
  refine zW_bipush dX12_enough_89 rfl ?_
  refine zF_icmp_ge 146 dX12_enough_91 rfl rfl (w32_lit _ rfl) hf (fun c hf => ?_) (fun c hf => ?_)
  · refine zW_sub [0, 1, 2, 3, 4] rfl ?_
    exact hx _ (Option.some.inj hf).symm
  · refine zW_aload_n 0 dX12_enough_94 rfl ?_
    refine zW_getR (q' := (58, 0, 0)) lk_RX12_37 (hw.1 _ o) rfl rfl (hw.2.1 _ _ _ o rfl) dX12_enough_95 ?_
    refine zW_iload 5 dX12_enough_98 rfl ?_
    refine zW_aload_n 0 dX12_enough_100 rfl ?_
    refine zW_getR (q' := (51, 0, 0)) lk_RX12_13 (hw.1 _ o) rfl rfl (hw.2.1 _ _ _ o rfl) dX12_enough_101 ?_
    refine zW_iload 3 dX12_enough_104 rfl ?_
    refine zW_bipush dX12_enough_106 rfl ?_
    refine zW_iadd dX12_enough_108 ?_
    obtain ⟨c9, hf⟩ := zgd hf
    refine zF_iald (hw.1 _ (zokM (r' := 51) o rfl rfl)) rfl c9 rfl dX12_enough_109 ?_
    refine zW_aload_n 0 dX12_enough_110 rfl ?_
    refine zW_getR (q' := (51, 0, 0)) lk_RX12_13 (hw.1 _ o) rfl rfl (hw.2.1 _ _ _ o rfl) dX12_enough_111 ?_
    refine zW_iload 3 dX12_enough_114 rfl ?_
    refine zW_iconst dX12_enough_116 ?_
    refine zW_iadd dX12_enough_117 ?_
    obtain ⟨c10, hf⟩ := zgd hf
    refine zF_iald (hw.1 _ (zokM (r' := 51) o rfl rfl)) rfl c10 rfl dX12_enough_118 ?_
    refine zF_icmp_ne 138 dX12_enough_119 rfl rfl rfl hf (fun c hf => ?_) (fun c hf => ?_)
    · refine zW_aload_n 0 dX12_enough_122 rfl ?_
      refine zW_getR (q' := (51, 0, 0)) lk_RX12_13 (hw.1 _ o) rfl rfl (hw.2.1 _ _ _ o rfl) dX12_enough_123 ?_
      refine zW_iload 3 dX12_enough_126 rfl ?_
      refine zW_bipush dX12_enough_128 rfl ?_
      refine zW_iadd dX12_enough_130 ?_
      refine zW_iload 5 dX12_enough_131 rfl ?_
      refine zW_iadd dX12_enough_133 ?_
      obtain ⟨c11, hf⟩ := zgd hf
      refine zF_iald (hw.1 _ (zokM (r' := 51) o rfl rfl)) rfl c11 rfl dX12_enough_134 ?_
      refine zW_goto 139 dX12_enough_135 rfl ?_
      refine zW_sub [0, 1, 2, 3, 4, 5] rfl ?_
      exact tX12_enough_b87_139 hw o (zokM (r' := 58) o rfl rfl) hf hk hx
    · refine zW_iconst dX12_enough_138 ?_
      refine zW_sub [0, 1, 2, 3, 4, 5] rfl ?_
      exact tX12_enough_b87_139 hw o (zokM (r' := 58) o rfl rfl) hf hk hx
theorem tX12_enough_l87 {X : zX} {e : Nat → Prop} (hw : zWf X e) {T : zT} {v1 : Int} {v2 : Int} {v3 : Int} {w4 : Int} {w5 : Int} (o : zOk e (50, 0, 0)) {s0 : (Int × zMem)} {α : Type} {F : (Int × zMem) → Option α} {u : α} (hf : zb (zlp (fX12_enough_l87 v1 v2 v3 w4 w5) 5000 s0) F = some u) (kx : ∀ x, F x = some u → zW X T mX12_enough 146 [(0, .ref (zad X (50, 0, 0))), (2, vi v2), (3, vi v3), (4, vi w4), (5, vi w5)] [] x.2) : zW X T mX12_enough 87 [(0, .ref (zad X (50, 0, 0))), (2, vi v2), (3, vi v3), (4, vi w4), (5, vi w5), (6, vi s0.1)] [] s0.2 := by
  obtain ⟨x, h, hf⟩ := zb_inv hf
  exact zlp_W (P := fun s => zW X T mX12_enough 87 [(0, .ref (zad X (50, 0, 0))), (2, vi v2), (3, vi v3), (4, vi w4), (5, vi w5), (6, vi s.1)] [] s.2) (E := fun x => zW X T mX12_enough 146 [(0, .ref (zad X (50, 0, 0))), (2, vi v2), (3, vi v3), (4, vi w4), (5, vi w5)] [] x.2) (fun s u h hk hx => tX12_enough_l87_y hw o s h hk hx) _ s0 x h (kx x hf)
set_option maxRecDepth 100000 in
theorem tX12_enough_l181_y {X : zX} {e : Nat → Prop} (hw : zWf X e) {T : zT} {v1 : Int} {v2 : Int} {v3 : Int} {w4 : Int} {w5 : Int} {w6 : Int} (o : zOk e (50, 0, 0)) (s : (Int × zMem)) {u : ((Int × zMem) ⊕ (Int × zMem))} (hf : fX12_enough_l181 v1 v2 v3 w4 w5 w6 s = some u) (hk : ∀ s', u = .inl s' → zW X T mX12_enough 181 [(0, .ref (zad X (50, 0, 0))), (2, vi v2), (3, vi v3), (4, vi w4), (5, vi w5), (6, vi w6), (7, vi s'.1)] [] s'.2) (hx : ∀ x, u = .inr x → zW X T mX12_enough 237 [(0, .ref (zad X (50, 0, 0))), (2, vi v2), (3, vi v3), (4, vi w4), (5, vi w5), (6, vi w6)] [] x.2) : zW X T mX12_enough 181 [(0, .ref (zad X (50, 0, 0))), (2, vi v2), (3, vi v3), (4, vi w4), (5, vi w5), (6, vi w6), (7, vi s.1)] [] s.2 := by
  unfold fX12_enough_l181 at hf
  refine zW_iload 6 dX12_enough_181 rfl ?_
  refine zW_iload_n 1 dX12_enough_183 rfl ?_
  refine zF_icmp_ge 237 dX12_enough_184 rfl rfl rfl hf (fun c hf => ?_) (fun c hf => ?_)
  · refine zW_sub [0, 1, 2, 3, 4, 5] rfl ?_
    exact hx _ (Option.some.inj hf).symm
  · refine zW_aload_n 0 dX12_enough_187 rfl ?_
    refine zW_getR (q' := (56, 0, 0)) lk_RX12_31 (hw.1 _ o) rfl rfl (hw.2.1 _ _ _ o rfl) dX12_enough_188 ?_
    refine zW_iload 6 dX12_enough_191 rfl ?_
    obtain ⟨c18, hf⟩ := zgd hf
    refine zF_iald (hw.1 _ (zokM (r' := 56) o rfl rfl)) rfl c18 rfl dX12_enough_193 ?_
    refine zF_istore (lv' := fun a19 => [(8, vi a19), (0, .ref (zad X (50, 0, 0))), (2, vi v2), (3, vi v3), (4, vi w4), (5, vi w5), (6, vi w6), (7, vi s.1)]) dX12_enough_194 hf (fun _ => rfl) rfl (fun a19 hf => ?_)
    refine zW_aload_n 1 dX12_enough_196 rfl ?_
    refine zW_getR (q' := (58, 0, 0)) lk_RX12_37 (hw.1 _ o) rfl rfl (hw.2.1 _ _ _ o rfl) dX12_enough_197 ?_
    refine zW_iload 0 dX12_enough_200 rfl ?_
    refine zW_aload_n 1 dX12_enough_202 rfl ?_
    refine zW_getR (q' := (58, 0, 0)) lk_RX12_37 (hw.1 _ o) rfl rfl (hw.2.1 _ _ _ o rfl) dX12_enough_203 ?_
    refine zW_iload 0 dX12_enough_206 rfl ?_
    obtain ⟨c20, hf⟩ := zgd hf
    refine zF_iald (hw.1 _ (zokM (r' := 58) o rfl rfl)) rfl c20 rfl dX12_enough_208 ?_
    refine zW_iload 5 dX12_enough_209 rfl ?_
    refine zW_iload 0 dX12_enough_211 rfl ?_
    refine zC_Sri (As := [vi w5, vi a19]) (fun x hx => kX12_codeBit hw (v0 := w5) (v1 := a19)  hx) ms_RX12_82 rfl rfl rfl rfl dX12_enough_213 hf (fun r21 hf => ?_)
    refine zW_iload_n 3 dX12_enough_216 rfl ?_
    refine zC_Sri (As := [vi r21, vi v3]) (fun x hx => kX12_signed hw (v0 := r21) (v1 := v3)  hx) ms_RX12_154 rfl rfl rfl rfl dX12_enough_217 hf (fun r22 hf => ?_)
    refine zW_iadd dX12_enough_220 ?_
    refine zW_aload_n 1 dX12_enough_221 rfl ?_
    refine zW_getR (q' := (51, 0, 0)) lk_RX12_13 (hw.1 _ o) rfl rfl (hw.2.1 _ _ _ o rfl) dX12_enough_222 ?_
    refine zW_iconst dX12_enough_225 ?_
    refine zF_iald (hw.1 _ (zokM (r' := 51) o rfl rfl)) rfl (zin_lit _ _ rfl) (ix_lit _ rfl) dX12_enough_226 ?_
    refine zC_Sri (As := [vi ((s.2 (58, 0, 0) (ix a19)) + r22), vi (s.2 (51, 0, 0) 5)]) (fun x hx => kX12_held hw (v0 := (s.2 (58, 0, 0) (ix a19)) + r22) (v1 := s.2 (51, 0, 0) 5)  hx) ms_RX12_191 rfl rfl rfl rfl dX12_enough_227 hf (fun r23 hf => ?_)
    refine zF_iast (hw.1 _ (zokM (r' := 58) o rfl rfl)) rfl c20 rfl dX12_enough_230 hf (fun I24 hf => ?_)
    refine zW_iinc 7 (lv' := [(7, vi (s.1 + 1)), (8, vi a19), (0, .ref (zad X (50, 0, 0))), (2, vi v2), (3, vi v3), (4, vi w4), (5, vi w5), (6, vi w6)]) dX12_enough_231 rfl rfl rfl ?_
    refine zW_goto 181 dX12_enough_234 rfl ?_
    refine zW_sub [2, 3, 4, 5, 6, 7, 0] rfl ?_
    exact hk _ (Option.some.inj hf).symm
theorem tX12_enough_l181 {X : zX} {e : Nat → Prop} (hw : zWf X e) {T : zT} {v1 : Int} {v2 : Int} {v3 : Int} {w4 : Int} {w5 : Int} {w6 : Int} (o : zOk e (50, 0, 0)) {s0 : (Int × zMem)} {α : Type} {F : (Int × zMem) → Option α} {u : α} (hf : zb (zlp (fX12_enough_l181 v1 v2 v3 w4 w5 w6) 5000 s0) F = some u) (kx : ∀ x, F x = some u → zW X T mX12_enough 237 [(0, .ref (zad X (50, 0, 0))), (2, vi v2), (3, vi v3), (4, vi w4), (5, vi w5), (6, vi w6)] [] x.2) : zW X T mX12_enough 181 [(0, .ref (zad X (50, 0, 0))), (2, vi v2), (3, vi v3), (4, vi w4), (5, vi w5), (6, vi w6), (7, vi s0.1)] [] s0.2 := by
  obtain ⟨x, h, hf⟩ := zb_inv hf
  exact zlp_W (P := fun s => zW X T mX12_enough 181 [(0, .ref (zad X (50, 0, 0))), (2, vi v2), (3, vi v3), (4, vi w4), (5, vi w5), (6, vi w6), (7, vi s.1)] [] s.2) (E := fun x => zW X T mX12_enough 237 [(0, .ref (zad X (50, 0, 0))), (2, vi v2), (3, vi v3), (4, vi w4), (5, vi w5), (6, vi w6)] [] x.2) (fun s u h hk hx => tX12_enough_l181_y hw o s h hk hx) _ s0 x h (kx x hf)
set_option maxRecDepth 100000 in
theorem tX12_enough_l149_y {X : zX} {e : Nat → Prop} (hw : zWf X e) {T : zT} {v1 : Int} {v2 : Int} {v3 : Int} {w4 : Int} {w5 : Int} (o : zOk e (50, 0, 0)) (s : (Int × zMem)) {u : ((Int × zMem) ⊕ ((Int × zMem) ⊕ (Int × zMem)))} (hf : fX12_enough_l149 v1 v2 v3 w4 w5 s = some u) (hk : ∀ s', u = .inl s' → zW X T mX12_enough 149 [(0, .ref (zad X (50, 0, 0))), (2, vi v2), (3, vi v3), (4, vi w4), (5, vi w5), (6, vi s'.1)] [] s'.2) (hx : ∀ x, u = .inr (.inl x) → zW X T mX12_enough 255 [] [] x.2) (hr : ∀ z : (Int × zMem), u = .inr (.inr z) → T = (some (vi z.1), z.2)) : zW X T mX12_enough 149 [(0, .ref (zad X (50, 0, 0))), (2, vi v2), (3, vi v3), (4, vi w4), (5, vi w5), (6, vi s.1)] [] s.2 := by
  unfold fX12_enough_l149 at hf
  refine zW_iload 5 dX12_enough_149 rfl ?_
  refine zW_bipush dX12_enough_151 rfl ?_
  refine zF_icmp_gt 255 dX12_enough_153 rfl rfl (w32_lit _ rfl) hf (fun c hf => ?_) (fun c hf => ?_)
  · refine zW_sub [] rfl ?_
    exact hx _ (Option.some.inj hf).symm
  · refine zW_aload_n 0 dX12_enough_156 rfl ?_
    refine zW_aload_n 0 dX12_enough_157 rfl ?_
    refine zW_getR (q' := (51, 0, 0)) lk_RX12_13 (hw.1 _ o) rfl rfl (hw.2.1 _ _ _ o rfl) dX12_enough_158 ?_
    refine zW_iload 3 dX12_enough_161 rfl ?_
    refine zW_iconst dX12_enough_163 ?_
    refine zW_iadd dX12_enough_164 ?_
    obtain ⟨c15, hf⟩ := zgd hf
    refine zF_iald (hw.1 _ (zokM (r' := 51) o rfl rfl)) rfl c15 rfl dX12_enough_165 ?_
    refine zW_iload 5 dX12_enough_166 rfl ?_
    refine zW_iadd dX12_enough_168 ?_
    refine zW_iconst dX12_enough_169 ?_
    refine zW_isub dX12_enough_170 ?_
    refine zC_Sri (As := [vi (((s.2 (51, 0, 0) (ix (w4 + 3))) + s.1) - 1)]) (fun x hx => kX12_versionOf hw (v0 := ((s.2 (51, 0, 0) (ix (w4 + 3))) + s.1) - 1)  hx) ms_RX12_207 rfl rfl rfl rfl dX12_enough_171 hf (fun r16 hf => ?_)
    refine zW_iload_n 1 dX12_enough_174 rfl ?_
    refine zC_Vwv (As := [vi r16, vi v2]) (fun x hx => kX12_laysSending hw (v1 := r16) (v2 := v2) o hx) mv_RX12_102 (hw.1 _ o) rfl rfl rfl rfl rfl dX12_enough_175 hf (fun r17 hf => ?_)
    refine zW_iconst dX12_enough_178 ?_
    refine zW_istore (lv' := [(7, vi 0), (0, .ref (zad X (50, 0, 0))), (2, vi v2), (3, vi v3), (4, vi w4), (5, vi w5), (6, vi s.1)]) dX12_enough_179 rfl rfl ?_
    refine zW_sub [1, 2, 3, 4, 5, 6, 0] rfl ?_
    refine tX12_enough_l181 hw o (s0 := (0, r17)) hf (fun x25 hf => ?_)
    refine zW_aload_n 0 dX12_enough_237 rfl ?_
    refine zC_Vwi (As := []) (fun x hx => kX12_bestNow hw o hx) mv_RX12_162 (hw.1 _ o) rfl rfl rfl rfl rfl dX12_enough_238 hf (fun r26 hf => ?_)
    refine zW_iload 4 dX12_enough_241 rfl ?_
    refine zF_icmp_ne 249 dX12_enough_243 rfl rfl rfl hf (fun c hf => ?_) (fun c hf => ?_)
    · refine zW_iload 5 dX12_enough_246 rfl ?_
      exact zQ_i hw rfl dX12_enough_248 (hr _ (Option.some.inj hf).symm)
    · refine zW_iinc 5 (lv' := [(6, vi (s.1 + 1)), (0, .ref (zad X (50, 0, 0))), (2, vi v2), (3, vi v3), (4, vi w4), (5, vi w5)]) dX12_enough_249 rfl rfl rfl ?_
      refine zW_goto 149 dX12_enough_252 rfl ?_
      refine zW_sub [1, 2, 3, 4, 5, 0] rfl ?_
      exact hk _ (Option.some.inj hf).symm
theorem tX12_enough_l149 {X : zX} {e : Nat → Prop} (hw : zWf X e) {T : zT} {v1 : Int} {v2 : Int} {v3 : Int} {w4 : Int} {w5 : Int} (o : zOk e (50, 0, 0)) {s0 : (Int × zMem)} {α : Type} {F : (Int × zMem) → Option α} {Gr : (Int × zMem) → α} {u : α} (hf : zbr (zlp (fX12_enough_l149 v1 v2 v3 w4 w5) 5000 s0) F Gr = some u) (kx : ∀ x, F x = some u → zW X T mX12_enough 255 [] [] x.2) (kr : ∀ z, Gr z = u → T = (some (vi z.1), z.2)) : zW X T mX12_enough 149 [(0, .ref (zad X (50, 0, 0))), (2, vi v2), (3, vi v3), (4, vi w4), (5, vi w5), (6, vi s0.1)] [] s0.2 := by
  have hb := zlp_W (body := fX12_enough_l149 v1 v2 v3 w4 w5) (P := fun s => zW X T mX12_enough 149 [(0, .ref (zad X (50, 0, 0))), (2, vi v2), (3, vi v3), (4, vi w4), (5, vi w5), (6, vi s.1)] [] s.2) (E := fun x => (∀ a, x = .inl a → zW X T mX12_enough 255 [] [] a.2) ∧ ∀ z, x = .inr z → T = (some (vi z.1), z.2)) (fun s u h hk hx => tX12_enough_l149_y hw o s h hk (fun x hu => (hx _ hu).1 x rfl) (fun z hu => (hx _ hu).2 z rfl))
  rcases zbr_inv hf with ⟨x, h, hf⟩ | ⟨z, h, hz⟩
  · exact hb _ s0 _ h ⟨fun a ea => (by cases ea; exact kx _ hf), fun z ez => (by cases ez)⟩
  · exact hb _ s0 _ h ⟨fun a ea => (by cases ea), fun z ez => (by cases ez; exact kr _ hz)⟩
set_option maxRecDepth 100000 in
theorem tX12_enough_0 {X : zX} {e : Nat → Prop} (hw : zWf X e) {v1 : Int} {v2 : Int} {v3 : Int} (o : zOk e (50, 0, 0)) {I : zMem} {u : (Int × zMem)} (hf : fX12_enough v1 v2 v3 I = some u) : zW X (some (vi u.1), u.2) mX12_enough 0 [(0, .ref (zad X (50, 0, 0))), (1, vi v1), (2, vi v2), (3, vi v3)] [] I := by
  unfold fX12_enough at hf
  refine zW_aload_n 0 dX12_enough_0 rfl ?_
  refine zW_iconst dX12_enough_1 ?_
  refine zF_put lk_RX12_1 (hw.1 _ o) rfl rfl (zn_int _) dX12_enough_2 hf (fun I1 hf => ?_)
  refine zW_aload_n 0 dX12_enough_5 rfl ?_
  refine zW_iload_n 1 dX12_enough_6 rfl ?_
  refine zC_Vri (As := [vi v1]) (fun x hx => kX12_isProcess hw (v1 := v1) o hx) mv_RX12_222 (hw.1 _ o) rfl rfl rfl rfl rfl dX12_enough_7 hf (fun r2 hf => ?_)
  refine zF_if_ne 16 dX12_enough_10 rfl rfl hf (fun c hf => ?_) (fun c hf => ?_)
  · refine zW_bipush dX12_enough_13 rfl ?_
    exact zR_i hw rfl dX12_enough_15 hf
  · refine zW_iload_n 2 dX12_enough_16 rfl ?_
    refine zC_Sri (As := [vi v2]) (fun x hx => kX12_isLength hw (v0 := v2)  hx) ms_RX12_134 rfl rfl rfl rfl dX12_enough_17 hf (fun r3 hf => ?_)
    refine zF_if_eq 35 dX12_enough_20 rfl rfl hf (fun c hf => ?_) (fun c hf => ?_)
    · refine zW_bipush dX12_enough_35 rfl ?_
      exact zR_i hw rfl dX12_enough_37 hf
    · refine zW_iload_n 3 dX12_enough_23 rfl ?_
      refine zW_i2l dX12_enough_24 ?_
      refine zW_lconst1 dX12_enough_25 ?_
      refine zW_ldc2 dX12_enough_26 wc_RX12_98 ?_
      refine zC_Sri (As := [vl (w32 v3), vl 1, vl 60]) (fun x hx => kX12_within hw (v0 := w32 v3) (v2 := 1) (v4 := 60)  hx) ms_RX12_94 rfl rfl rfl rfl dX12_enough_29 hf (fun r4 hf => ?_)
      refine zF_if_ne 38 dX12_enough_32 rfl rfl hf (fun c hf => ?_) (fun c hf => ?_)
      · refine zW_bipush dX12_enough_35 rfl ?_
        exact zR_i hw rfl dX12_enough_37 hf
      · refine zW_aload_n 0 dX12_enough_38 rfl ?_
        refine zW_iload_n 1 dX12_enough_39 rfl ?_
        refine zC_Vri (As := [vi v1]) (fun x hx => kX12_own hw (v1 := v1) o hx) mv_RX12_188 (hw.1 _ o) rfl rfl rfl rfl rfl dX12_enough_40 hf (fun r5 hf => ?_)
        refine zW_istore (lv' := [(4, vi r5), (0, .ref (zad X (50, 0, 0))), (1, vi v1), (2, vi v2), (3, vi v3)]) dX12_enough_43 rfl rfl ?_
        refine zW_aload_n 1 dX12_enough_45 rfl ?_
        refine zW_getR (q' := (51, 0, 0)) lk_RX12_13 (hw.1 _ o) rfl rfl (hw.2.1 _ _ _ o rfl) dX12_enough_46 ?_
        refine zW_iload 0 dX12_enough_49 rfl ?_
        refine zW_iconst dX12_enough_51 ?_
        refine zW_iadd dX12_enough_52 ?_
        obtain ⟨c6, hf⟩ := zgd hf
        refine zF_iald (hw.1 _ (zokM (r' := 51) o rfl rfl)) rfl c6 rfl dX12_enough_53 ?_
        refine zW_iconst dX12_enough_54 ?_
        refine zF_icmp_ne 61 dX12_enough_55 rfl rfl (w32_lit _ rfl) hf (fun c hf => ?_) (fun c hf => ?_)
        · refine zW_bipush dX12_enough_58 rfl ?_
          exact zR_i hw rfl dX12_enough_60 hf
        · refine zW_aload_n 1 dX12_enough_61 rfl ?_
          refine zW_getR (q' := (51, 0, 0)) lk_RX12_13 (hw.1 _ o) rfl rfl (hw.2.1 _ _ _ o rfl) dX12_enough_62 ?_
          refine zW_iload 0 dX12_enough_65 rfl ?_
          refine zW_iconst dX12_enough_67 ?_
          refine zW_iadd dX12_enough_68 ?_
          refine zF_iald (hw.1 _ (zokM (r' := 51) o rfl rfl)) rfl c6 rfl dX12_enough_69 ?_
          refine zW_aload_n 1 dX12_enough_70 rfl ?_
          refine zW_getR (q' := (51, 0, 0)) lk_RX12_13 (hw.1 _ o) rfl rfl (hw.2.1 _ _ _ o rfl) dX12_enough_71 ?_
          refine zW_iload 0 dX12_enough_74 rfl ?_
          refine zW_iconst dX12_enough_76 ?_
          refine zW_iadd dX12_enough_77 ?_
          obtain ⟨c7, hf⟩ := zgd hf
          refine zF_iald (hw.1 _ (zokM (r' := 51) o rfl rfl)) rfl c7 rfl dX12_enough_78 ?_
          refine zC_Sri (As := [vi (I1 (51, 0, 0) (ix (r5 + 0))), vi (I1 (51, 0, 0) (ix (r5 + 1)))]) (fun x hx => kX12_wordOf hw (v0 := I1 (51, 0, 0) (ix (r5 + 0))) (v1 := I1 (51, 0, 0) (ix (r5 + 1)))  hx) ms_RX12_112 rfl rfl rfl rfl dX12_enough_79 hf (fun r8 hf => ?_)
          refine zW_istore (lv' := [(5, vi r8), (4, vi r5), (0, .ref (zad X (50, 0, 0))), (1, vi v1), (2, vi v2), (3, vi v3)]) dX12_enough_82 rfl rfl ?_
          refine zW_iconst dX12_enough_84 ?_
          refine zW_istore (lv' := [(6, vi 0), (5, vi r8), (4, vi r5), (0, .ref (zad X (50, 0, 0))), (1, vi v1), (2, vi v2), (3, vi v3)]) dX12_enough_85 rfl rfl ?_
          refine zW_sub [3, 5, 6, 2, 1, 0] rfl ?_
          refine tX12_enough_l87 hw o (s0 := (0, I1)) hf (fun x14 hf => ?_)
          refine zW_iconst dX12_enough_146 ?_
          refine zW_istore (lv' := [(6, vi 1), (0, .ref (zad X (50, 0, 0))), (2, vi v2), (3, vi v3), (4, vi r5), (5, vi r8)]) dX12_enough_147 rfl rfl ?_
          refine zW_sub [1, 2, 3, 4, 5, 0] rfl ?_
          refine tX12_enough_l149 hw o (s0 := (1, x14.2)) hf (fun x27 hf => ?_) (fun z hz => by cases hz; rfl)
          refine zW_iconst dX12_enough_255 ?_
          exact zR_i hw rfl dX12_enough_256 hf
theorem kX12_enough {X : zX} {e : Nat → Prop} (hw : zWf X e) {v1 : Int} {v2 : Int} {v3 : Int} (o : zOk e (50, 0, 0)) {I : zMem} {u : (Int × zMem)} (hf : fX12_enough v1 v2 v3 I = some u) : zCn X mX12_enough yX12_enough [.ref (zad X (50, 0, 0)), vi v1, vi v2, vi v3] I (some (vi u.1), u.2) := zCn_of (by decide +kernel) rfl rfl ⟨rfl, rfl⟩ (tX12_enough_0 hw.N o hf)
set_option maxRecDepth 100000 in
theorem tX12_sumNow_l4_y {X : zX} {e : Nat → Prop} (hw : zWf X e) {T : zT} {v1 : Int} {I : zMem} (o : zOk e (50, 0, 0)) (s : (Int × Int)) {u : ((Int × Int) ⊕ (Int × Int))} (hf : fX12_sumNow_l4 v1 I s = some u) (hk : ∀ s', u = .inl s' → zW X T mX12_sumNow 4 [(0, .ref (zad X (50, 0, 0))), (1, vi v1), (2, vi s'.1), (3, vi s'.2)] [] I) (hx : ∀ x, u = .inr x → zW X T mX12_sumNow 39 [(2, vi x.1)] [] I) : zW X T mX12_sumNow 4 [(0, .ref (zad X (50, 0, 0))), (1, vi v1), (2, vi s.1), (3, vi s.2)] [] I := by
  unfold fX12_sumNow_l4 at hf
  refine zW_iload_n 3 dX12_sumNow_4 rfl ?_
  refine zW_bipush dX12_sumNow_5 rfl ?_
  refine zF_icmp_ge 39 dX12_sumNow_7 rfl rfl (w32_lit _ rfl) hf (fun c hf => ?_) (fun c hf => ?_)
  · refine zW_sub [2] rfl ?_
    exact hx _ (Option.some.inj hf).symm
  · refine zW_iload_n 2 dX12_sumNow_10 rfl ?_
    refine zW_aload_n 0 dX12_sumNow_11 rfl ?_
    refine zW_getR (q' := (54, 0, 0)) lk_RX12_24 (hw.1 _ o) rfl rfl (hw.2.1 _ _ _ o rfl) dX12_sumNow_12 ?_
    refine zW_iload_n 1 dX12_sumNow_15 rfl ?_
    obtain ⟨c1, hf⟩ := zgd hf
    refine zF_lald (hw.1 _ (zokM (r' := 54) o rfl rfl)) rfl c1 rfl dX12_sumNow_16 ?_
    refine zW_iload_n 3 dX12_sumNow_17 rfl ?_
    refine zW_lshr dX12_sumNow_18 ?_
    refine zW_lconst1 dX12_sumNow_19 ?_
    refine zW_land dX12_sumNow_20 ?_
    refine zW_l2i dX12_sumNow_21 ?_
    refine zW_aload_n 0 dX12_sumNow_22 rfl ?_
    refine zW_getR (q' := (58, 0, 0)) lk_RX12_37 (hw.1 _ o) rfl rfl (hw.2.1 _ _ _ o rfl) dX12_sumNow_23 ?_
    refine zW_iload_n 3 dX12_sumNow_26 rfl ?_
    obtain ⟨c2, hf⟩ := zgd hf
    refine zF_iald (hw.1 _ (zokM (r' := 58) o rfl rfl)) rfl c2 rfl dX12_sumNow_27 ?_
    refine zC_Sri (As := [vi (land (lshr (I (54, 0, 0) (ix v1)) s.2) 1), vi (I (58, 0, 0) (ix s.2))]) (fun x hx => kX12_signed hw (v0 := land (lshr (I (54, 0, 0) (ix v1)) s.2) 1) (v1 := I (58, 0, 0) (ix s.2))  hx) ms_RX12_154 rfl rfl rfl rfl dX12_sumNow_28 hf (fun r3 hf => ?_)
    refine zW_iadd dX12_sumNow_31 ?_
    refine zF_istore_n (lv' := fun a4 => [(2, vi a4), (0, .ref (zad X (50, 0, 0))), (1, vi v1), (3, vi s.2)]) dX12_sumNow_32 hf (fun _ => rfl) rfl (fun a4 hf => ?_)
    refine zW_iinc 3 (lv' := [(3, vi (s.2 + 1)), (2, vi a4), (0, .ref (zad X (50, 0, 0))), (1, vi v1)]) dX12_sumNow_33 rfl rfl rfl ?_
    refine zW_goto 4 dX12_sumNow_36 rfl ?_
    refine zW_sub [2, 3, 1, 0] rfl ?_
    exact hk _ (Option.some.inj hf).symm
theorem tX12_sumNow_l4 {X : zX} {e : Nat → Prop} (hw : zWf X e) {T : zT} {v1 : Int} {I : zMem} (o : zOk e (50, 0, 0)) {s0 : (Int × Int)} {α : Type} {F : (Int × Int) → Option α} {u : α} (hf : zb (zlp (fX12_sumNow_l4 v1 I) 5000 s0) F = some u) (kx : ∀ x, F x = some u → zW X T mX12_sumNow 39 [(2, vi x.1)] [] I) : zW X T mX12_sumNow 4 [(0, .ref (zad X (50, 0, 0))), (1, vi v1), (2, vi s0.1), (3, vi s0.2)] [] I := by
  obtain ⟨x, h, hf⟩ := zb_inv hf
  exact zlp_W (P := fun s => zW X T mX12_sumNow 4 [(0, .ref (zad X (50, 0, 0))), (1, vi v1), (2, vi s.1), (3, vi s.2)] [] I) (E := fun x => zW X T mX12_sumNow 39 [(2, vi x.1)] [] I) (fun s u h hk hx => tX12_sumNow_l4_y hw o s h hk hx) _ s0 x h (kx x hf)
set_option maxRecDepth 100000 in
theorem tX12_sumNow_0 {X : zX} {e : Nat → Prop} (hw : zWf X e) {v1 : Int} (o : zOk e (50, 0, 0)) {I : zMem} {u : Int} (hf : fX12_sumNow v1 I = some u) : zW X (some (vi u), I) mX12_sumNow 0 [(0, .ref (zad X (50, 0, 0))), (1, vi v1)] [] I := by
  unfold fX12_sumNow at hf
  refine zW_iconst dX12_sumNow_0 ?_
  refine zW_istore_n (lv' := [(2, vi 0), (0, .ref (zad X (50, 0, 0))), (1, vi v1)]) dX12_sumNow_1 rfl rfl ?_
  refine zW_iconst dX12_sumNow_2 ?_
  refine zW_istore_n (lv' := [(3, vi 0), (2, vi 0), (0, .ref (zad X (50, 0, 0))), (1, vi v1)]) dX12_sumNow_3 rfl rfl ?_
  refine zW_sub [2, 3, 1, 0] rfl ?_
  refine tX12_sumNow_l4 hw o (s0 := (0, 0)) hf (fun x5 hf => ?_)
  refine zW_iload_n 0 dX12_sumNow_39 rfl ?_
  exact zS_i hw rfl dX12_sumNow_40 hf
theorem kX12_sumNow {X : zX} {e : Nat → Prop} (hw : zWf X e) {v1 : Int} (o : zOk e (50, 0, 0)) {I : zMem} {u : Int} (hf : fX12_sumNow v1 I = some u) : zCn X mX12_sumNow yX12_sumNow [.ref (zad X (50, 0, 0)), vi v1] I (some (vi u), I) := zCn_of (by decide +kernel) rfl rfl ⟨rfl, rfl⟩ (tX12_sumNow_0 hw.N o hf)
set_option maxRecDepth 100000 in
theorem tX12_noSoft_0 {X : zX} {e : Nat → Prop} (hw : zWf X e) {v1 : Int} (o : zOk e (50, 0, 0)) {I : zMem} {u : (Int × zMem)} (hf : fX12_noSoft v1 I = some u) : zW X (some (vi u.1), u.2) mX12_noSoft 0 [(0, .ref (zad X (50, 0, 0))), (1, vi v1)] [] I := by
  unfold fX12_noSoft at hf
  refine zW_aload_n 0 dX12_noSoft_0 rfl ?_
  refine zW_iload_n 1 dX12_noSoft_1 rfl ?_
  refine zC_Vri (As := [vi v1]) (fun x hx => kX12_isProcess hw (v1 := v1) o hx) mv_RX12_222 (hw.1 _ o) rfl rfl rfl rfl rfl dX12_noSoft_2 hf (fun r1 hf => ?_)
  refine zF_if_ne 11 dX12_noSoft_5 rfl rfl hf (fun c hf => ?_) (fun c hf => ?_)
  · refine zW_bipush dX12_noSoft_8 rfl ?_
    exact zR_i hw rfl dX12_noSoft_10 hf
  · refine zW_aload_n 0 dX12_noSoft_11 rfl ?_
    refine zW_getR (q' := (51, 0, 0)) lk_RX12_13 (hw.1 _ o) rfl rfl (hw.2.1 _ _ _ o rfl) dX12_noSoft_12 ?_
    refine zW_aload_n 0 dX12_noSoft_15 rfl ?_
    refine zW_iload_n 1 dX12_noSoft_16 rfl ?_
    refine zC_Vri (As := [vi v1]) (fun x hx => kX12_own hw (v1 := v1) o hx) mv_RX12_188 (hw.1 _ o) rfl rfl rfl rfl rfl dX12_noSoft_17 hf (fun r2 hf => ?_)
    refine zW_bipush dX12_noSoft_20 rfl ?_
    refine zW_iadd dX12_noSoft_22 ?_
    obtain ⟨c3, hf⟩ := zgd hf
    refine zF_iald (hw.1 _ (zokM (r' := 51) o rfl rfl)) rfl c3 rfl dX12_noSoft_23 ?_
    refine zF_if_ne 30 dX12_noSoft_24 rfl rfl hf (fun c hf => ?_) (fun c hf => ?_)
    · refine zW_bipush dX12_noSoft_27 rfl ?_
      exact zR_i hw rfl dX12_noSoft_29 hf
    · refine zW_aload_n 0 dX12_noSoft_30 rfl ?_
      refine zW_iload_n 1 dX12_noSoft_31 rfl ?_
      refine zC_Vwv (As := [vi v1]) (fun x hx => kX12_laysSoft hw (v1 := v1) o hx) mv_RX12_194 (hw.1 _ o) rfl rfl rfl rfl rfl dX12_noSoft_32 hf (fun r4 hf => ?_)
      refine zW_iconst dX12_noSoft_35 ?_
      exact zR_i hw rfl dX12_noSoft_36 hf
theorem kX12_noSoft {X : zX} {e : Nat → Prop} (hw : zWf X e) {v1 : Int} (o : zOk e (50, 0, 0)) {I : zMem} {u : (Int × zMem)} (hf : fX12_noSoft v1 I = some u) : zCn X mX12_noSoft yX12_noSoft [.ref (zad X (50, 0, 0)), vi v1] I (some (vi u.1), u.2) := zCn_of (by decide +kernel) rfl rfl ⟨rfl, rfl⟩ (tX12_noSoft_0 hw.N o hf)
set_option maxRecDepth 100000 in
theorem tX12_secondNow_b7_52 {X : zX} {e : Nat → Prop} (hw : zWf X e) {T : zT} {v1 : Int} {I : zMem} {w2 : Int} {w3 : Int} {w4 : Int} (o : zOk e (50, 0, 0)) {u : ((Int × Int × Int) ⊕ (Int × Int × Int))} (hf : fX12_secondNow_b7_52 v1 I w2 w3 w4 = some u) (hk : ∀ s', u = .inl s' → zW X T mX12_secondNow 7 [(0, .ref (zad X (50, 0, 0))), (1, vi v1), (2, vi s'.1), (3, vi s'.2.1), (4, vi s'.2.2)] [] I) (hx : ∀ x, u = .inr x → zW X T mX12_secondNow 58 [(2, vi x.1)] [] I) : zW X T mX12_secondNow 52 [(0, .ref (zad X (50, 0, 0))), (1, vi v1), (2, vi w2), (3, vi w3), (4, vi w4)] [] I := by
  unfold fX12_secondNow_b7_52 at hf
  refine zW_iinc 4 (lv' := [(4, vi (w4 + 1)), (0, .ref (zad X (50, 0, 0))), (1, vi v1), (2, vi w2), (3, vi w3)]) dX12_secondNow_52 rfl rfl rfl ?_
  refine zW_goto 7 dX12_secondNow_55 rfl ?_
  refine zW_sub [1, 2, 3, 4, 0] rfl ?_
  exact hk _ (Option.some.inj hf).symm
set_option maxRecDepth 100000 in
theorem tX12_secondNow_b7_46 {X : zX} {e : Nat → Prop} (hw : zWf X e) {T : zT} {v1 : Int} {I : zMem} {w4 : Int} {w5 : Int} (o : zOk e (50, 0, 0)) {u : ((Int × Int × Int) ⊕ (Int × Int × Int))} (hf : fX12_secondNow_b7_46 v1 I w4 w5 = some u) (hk : ∀ s', u = .inl s' → zW X T mX12_secondNow 7 [(0, .ref (zad X (50, 0, 0))), (1, vi v1), (2, vi s'.1), (3, vi s'.2.1), (4, vi s'.2.2)] [] I) (hx : ∀ x, u = .inr x → zW X T mX12_secondNow 58 [(2, vi x.1)] [] I) : zW X T mX12_secondNow 46 [(0, .ref (zad X (50, 0, 0))), (1, vi v1), (4, vi w4), (5, vi w5)] [] I := by
  unfold fX12_secondNow_b7_46 at hf
  refine zW_iload 2 dX12_secondNow_46 rfl ?_
  refine zW_istore_n (lv' := [(2, vi w4), (0, .ref (zad X (50, 0, 0))), (1, vi v1), (4, vi w4), (5, vi w5)]) dX12_secondNow_48 rfl rfl ?_
  refine zW_iload 4 dX12_secondNow_49 rfl ?_
  refine zW_istore_n (lv' := [(3, vi w5), (2, vi w4), (0, .ref (zad X (50, 0, 0))), (1, vi v1), (4, vi w4), (5, vi w5)]) dX12_secondNow_51 rfl rfl ?_
  refine zW_sub [2, 3, 1, 0, 4] rfl ?_
  exact tX12_secondNow_b7_52 hw o hf hk hx
set_option maxRecDepth 100000 in
theorem tX12_secondNow_l7_y {X : zX} {e : Nat → Prop} (hw : zWf X e) {T : zT} {v1 : Int} {I : zMem} (o : zOk e (50, 0, 0)) (s : (Int × Int × Int)) {u : ((Int × Int × Int) ⊕ (Int × Int × Int))} (hf : fX12_secondNow_l7 v1 I s = some u) (hk : ∀ s', u = .inl s' → zW X T mX12_secondNow 7 [(0, .ref (zad X (50, 0, 0))), (1, vi v1), (2, vi s'.1), (3, vi s'.2.1), (4, vi s'.2.2)] [] I) (hx : ∀ x, u = .inr x → zW X T mX12_secondNow 58 [(2, vi x.1)] [] I) : zW X T mX12_secondNow 7 [(0, .ref (zad X (50, 0, 0))), (1, vi v1), (2, vi s.1), (3, vi s.2.1), (4, vi s.2.2)] [] I := by
  unfold fX12_secondNow_l7 at hf
  refine zW_iload 4 dX12_secondNow_7 rfl ?_
  refine zW_sipush dX12_secondNow_9 rfl ?_
  refine zF_icmp_ge 58 dX12_secondNow_12 rfl rfl (w32_lit _ rfl) hf (fun c hf => ?_) (fun c hf => ?_)
  · refine zW_sub [2] rfl ?_
    exact hx _ (Option.some.inj hf).symm
  · refine zW_iload 4 dX12_secondNow_15 rfl ?_
    refine zW_iload_n 1 dX12_secondNow_17 rfl ?_
    refine zF_icmp_ne 24 dX12_secondNow_18 rfl rfl rfl hf (fun c hf => ?_) (fun c hf => ?_)
    · refine zW_goto 52 dX12_secondNow_21 rfl ?_
      refine zW_sub [0, 1, 2, 3, 4] rfl ?_
      exact tX12_secondNow_b7_52 hw o hf hk hx
    · refine zW_aload_n 0 dX12_secondNow_24 rfl ?_
      refine zW_iload 4 dX12_secondNow_25 rfl ?_
      refine zC_Vri (As := [vi s.2.2]) (fun x hx => kX12_sumNow hw (v1 := s.2.2) o hx) mv_RX12_278 (hw.1 _ o) rfl rfl rfl rfl rfl dX12_secondNow_27 hf (fun r1 hf => ?_)
      refine zW_istore (lv' := [(5, vi r1), (0, .ref (zad X (50, 0, 0))), (1, vi v1), (2, vi s.1), (3, vi s.2.1), (4, vi s.2.2)]) dX12_secondNow_30 rfl rfl ?_
      refine zW_iload_n 3 dX12_secondNow_32 rfl ?_
      refine zW_iconst dX12_secondNow_33 ?_
      refine zF_icmp_eq 46 dX12_secondNow_34 rfl rfl (w32_lit _ rfl) hf (fun c hf => ?_) (fun c hf => ?_)
      · refine zW_sub [1, 2, 5, 0] rfl ?_
        exact tX12_secondNow_b7_46 hw o hf hk hx
      · refine zW_iload 0 dX12_secondNow_37 rfl ?_
        refine zW_iload_n 4 dX12_secondNow_39 rfl ?_
        refine zF_icmp_gt 46 dX12_secondNow_40 rfl rfl rfl hf (fun c hf => ?_) (fun c hf => ?_)
        · refine zW_sub [1, 2, 5, 0] rfl ?_
          exact tX12_secondNow_b7_46 hw o hf hk hx
        · refine zW_goto 52 dX12_secondNow_43 rfl ?_
          refine zW_sub [1, 2, 3, 4, 5] rfl ?_
          exact tX12_secondNow_b7_52 hw o hf hk hx
theorem tX12_secondNow_l7 {X : zX} {e : Nat → Prop} (hw : zWf X e) {T : zT} {v1 : Int} {I : zMem} (o : zOk e (50, 0, 0)) {s0 : (Int × Int × Int)} {α : Type} {F : (Int × Int × Int) → Option α} {u : α} (hf : zb (zlp (fX12_secondNow_l7 v1 I) 5000 s0) F = some u) (kx : ∀ x, F x = some u → zW X T mX12_secondNow 58 [(2, vi x.1)] [] I) : zW X T mX12_secondNow 7 [(0, .ref (zad X (50, 0, 0))), (1, vi v1), (2, vi s0.1), (3, vi s0.2.1), (4, vi s0.2.2)] [] I := by
  obtain ⟨x, h, hf⟩ := zb_inv hf
  exact zlp_W (P := fun s => zW X T mX12_secondNow 7 [(0, .ref (zad X (50, 0, 0))), (1, vi v1), (2, vi s.1), (3, vi s.2.1), (4, vi s.2.2)] [] I) (E := fun x => zW X T mX12_secondNow 58 [(2, vi x.1)] [] I) (fun s u h hk hx => tX12_secondNow_l7_y hw o s h hk hx) _ s0 x h (kx x hf)
set_option maxRecDepth 100000 in
theorem tX12_secondNow_0 {X : zX} {e : Nat → Prop} (hw : zWf X e) {v1 : Int} (o : zOk e (50, 0, 0)) {I : zMem} {u : Int} (hf : fX12_secondNow v1 I = some u) : zW X (some (vi u), I) mX12_secondNow 0 [(0, .ref (zad X (50, 0, 0))), (1, vi v1)] [] I := by
  unfold fX12_secondNow at hf
  refine zW_iconst dX12_secondNow_0 ?_
  refine zW_istore_n (lv' := [(2, vi (-1)), (0, .ref (zad X (50, 0, 0))), (1, vi v1)]) dX12_secondNow_1 rfl rfl ?_
  refine zW_iconst dX12_secondNow_2 ?_
  refine zW_istore_n (lv' := [(3, vi 0), (2, vi (-1)), (0, .ref (zad X (50, 0, 0))), (1, vi v1)]) dX12_secondNow_3 rfl rfl ?_
  refine zW_iconst dX12_secondNow_4 ?_
  refine zW_istore (lv' := [(4, vi 0), (3, vi 0), (2, vi (-1)), (0, .ref (zad X (50, 0, 0))), (1, vi v1)]) dX12_secondNow_5 rfl rfl ?_
  refine zW_sub [3, 4, 2, 1, 0] rfl ?_
  refine tX12_secondNow_l7 hw o (s0 := ((-1), 0, 0)) hf (fun x2 hf => ?_)
  refine zW_iload_n 0 dX12_secondNow_58 rfl ?_
  exact zS_i hw rfl dX12_secondNow_59 hf
theorem kX12_secondNow {X : zX} {e : Nat → Prop} (hw : zWf X e) {v1 : Int} (o : zOk e (50, 0, 0)) {I : zMem} {u : Int} (hf : fX12_secondNow v1 I = some u) : zCn X mX12_secondNow yX12_secondNow [.ref (zad X (50, 0, 0)), vi v1] I (some (vi u), I) := zCn_of (by decide +kernel) rfl rfl ⟨rfl, rfl⟩ (tX12_secondNow_0 hw.N o hf)
set_option maxRecDepth 100000 in
theorem tX12_soft_0 {X : zX} {e : Nat → Prop} (hw : zWf X e) {v1 : Int} {v2 : Int} (o : zOk e (50, 0, 0)) {I : zMem} {u : (Int × zMem)} (hf : fX12_soft v1 v2 I = some u) : zW X (some (vi u.1), u.2) mX12_soft 0 [(0, .ref (zad X (50, 0, 0))), (1, vi v1), (2, vi v2)] [] I := by
  unfold fX12_soft at hf
  refine zW_aload_n 0 dX12_soft_0 rfl ?_
  refine zW_iconst dX12_soft_1 ?_
  refine zF_put lk_RX12_1 (hw.1 _ o) rfl rfl (zn_int _) dX12_soft_2 hf (fun I1 hf => ?_)
  refine zW_aload_n 0 dX12_soft_5 rfl ?_
  refine zW_iload_n 1 dX12_soft_6 rfl ?_
  refine zC_Vwi (As := [vi v1]) (fun x hx => kX12_noSoft hw (v1 := v1) o hx) mv_RX12_281 (hw.1 _ o) rfl rfl rfl rfl rfl dX12_soft_7 hf (fun r2 hf => ?_)
  refine zW_istore_n (lv' := [(3, vi r2.1), (0, .ref (zad X (50, 0, 0))), (1, vi v1), (2, vi v2)]) dX12_soft_10 rfl rfl ?_
  refine zW_iload_n 0 dX12_soft_11 rfl ?_
  refine zF_if_eq 21 dX12_soft_12 rfl rfl hf (fun c hf => ?_) (fun c hf => ?_)
  · refine zW_iload_n 3 dX12_soft_21 rfl ?_
    refine zW_i2l dX12_soft_22 ?_
    refine zW_lconst0 dX12_soft_23 ?_
    refine zW_ldc2 dX12_soft_24 wc_RX12_285 ?_
    refine zC_Sri (As := [vl (w32 v2), vl 0, vl 38]) (fun x hx => kX12_within hw (v0 := w32 v2) (v2 := 0) (v4 := 38)  hx) ms_RX12_94 rfl rfl rfl rfl dX12_soft_27 hf (fun r3 hf => ?_)
    refine zF_if_eq 42 dX12_soft_30 rfl rfl hf (fun c hf => ?_) (fun c hf => ?_)
    · refine zW_ldcw dX12_soft_42 wc_RX12_287 ?_
      exact zR_i hw rfl dX12_soft_45 hf
    · refine zW_aload_n 1 dX12_soft_33 rfl ?_
      refine zW_getR (q' := (58, 0, 0)) lk_RX12_37 (hw.1 _ o) rfl rfl (hw.2.1 _ _ _ o rfl) dX12_soft_34 ?_
      refine zW_iload_n 3 dX12_soft_37 rfl ?_
      obtain ⟨c4, hf⟩ := zgd hf
      refine zF_iald (hw.1 _ (zokM (r' := 58) o rfl rfl)) rfl c4 rfl dX12_soft_38 ?_
      refine zW_goto 45 dX12_soft_39 rfl ?_
      exact zR_i hw rfl dX12_soft_45 hf
  · refine zW_ldcw dX12_soft_15 wc_RX12_284 ?_
    refine zW_iload_n 0 dX12_soft_18 rfl ?_
    refine zW_iadd dX12_soft_19 ?_
    exact zR_i hw rfl dX12_soft_20 hf
theorem kX12_soft {X : zX} {e : Nat → Prop} (hw : zWf X e) {v1 : Int} {v2 : Int} (o : zOk e (50, 0, 0)) {I : zMem} {u : (Int × zMem)} (hf : fX12_soft v1 v2 I = some u) : zCn X mX12_soft yX12_soft [.ref (zad X (50, 0, 0)), vi v1, vi v2] I (some (vi u.1), u.2) := zCn_of (by decide +kernel) rfl rfl ⟨rfl, rfl⟩ (tX12_soft_0 hw.N o hf)
set_option maxRecDepth 100000 in
theorem tX12_heard_0 {X : zX} {e : Nat → Prop} (hw : zWf X e) {v1 : Int} {v2 : Int} (o : zOk e (50, 0, 0)) {I : zMem} {u : (Int × zMem)} (hf : fX12_heard v1 v2 I = some u) : zW X (some (vi u.1), u.2) mX12_heard 0 [(0, .ref (zad X (50, 0, 0))), (1, vi v1), (2, vi v2)] [] I := by
  unfold fX12_heard at hf
  refine zW_aload_n 0 dX12_heard_0 rfl ?_
  refine zW_iconst dX12_heard_1 ?_
  refine zF_put lk_RX12_1 (hw.1 _ o) rfl rfl (zn_int _) dX12_heard_2 hf (fun I1 hf => ?_)
  refine zW_aload_n 0 dX12_heard_5 rfl ?_
  refine zW_iload_n 1 dX12_heard_6 rfl ?_
  refine zC_Vri (As := [vi v1]) (fun x hx => kX12_isProcess hw (v1 := v1) o hx) mv_RX12_222 (hw.1 _ o) rfl rfl rfl rfl rfl dX12_heard_7 hf (fun r2 hf => ?_)
  refine zF_if_eq 25 dX12_heard_10 rfl rfl hf (fun c hf => ?_) (fun c hf => ?_)
  · refine zW_bipush dX12_heard_25 rfl ?_
    exact zR_i hw rfl dX12_heard_27 hf
  · refine zW_iload_n 2 dX12_heard_13 rfl ?_
    refine zW_i2l dX12_heard_14 ?_
    refine zW_lconst0 dX12_heard_15 ?_
    refine zW_ldc2 dX12_heard_16 wc_RX12_237 ?_
    refine zC_Sri (As := [vl (w32 v2), vl 0, vl 2]) (fun x hx => kX12_within hw (v0 := w32 v2) (v2 := 0) (v4 := 2)  hx) ms_RX12_94 rfl rfl rfl rfl dX12_heard_19 hf (fun r3 hf => ?_)
    refine zF_if_ne 28 dX12_heard_22 rfl rfl hf (fun c hf => ?_) (fun c hf => ?_)
    · refine zW_bipush dX12_heard_25 rfl ?_
      exact zR_i hw rfl dX12_heard_27 hf
    · refine zW_aload_n 0 dX12_heard_28 rfl ?_
      refine zW_getR (q' := (51, 0, 0)) lk_RX12_13 (hw.1 _ o) rfl rfl (hw.2.1 _ _ _ o rfl) dX12_heard_29 ?_
      refine zW_aload_n 0 dX12_heard_32 rfl ?_
      refine zW_iload_n 1 dX12_heard_33 rfl ?_
      refine zC_Vri (As := [vi v1]) (fun x hx => kX12_own hw (v1 := v1) o hx) mv_RX12_188 (hw.1 _ o) rfl rfl rfl rfl rfl dX12_heard_34 hf (fun r4 hf => ?_)
      refine zW_bipush dX12_heard_37 rfl ?_
      refine zW_iadd dX12_heard_39 ?_
      refine zW_iload_n 2 dX12_heard_40 rfl ?_
      refine zW_iadd dX12_heard_41 ?_
      obtain ⟨c5, hf⟩ := zgd hf
      refine zF_iald (hw.1 _ (zokM (r' := 51) o rfl rfl)) rfl c5 rfl dX12_heard_42 ?_
      exact zR_i hw rfl dX12_heard_43 hf
theorem kX12_heard {X : zX} {e : Nat → Prop} (hw : zWf X e) {v1 : Int} {v2 : Int} (o : zOk e (50, 0, 0)) {I : zMem} {u : (Int × zMem)} (hf : fX12_heard v1 v2 I = some u) : zCn X mX12_heard yX12_heard [.ref (zad X (50, 0, 0)), vi v1, vi v2] I (some (vi u.1), u.2) := zCn_of (by decide +kernel) rfl rfl ⟨rfl, rfl⟩ (tX12_heard_0 hw.N o hf)
set_option maxRecDepth 100000 in
theorem tX12_best_0 {X : zX} {e : Nat → Prop} (hw : zWf X e) {v1 : Int} (o : zOk e (50, 0, 0)) {I : zMem} {u : (Int × zMem)} (hf : fX12_best v1 I = some u) : zW X (some (vi u.1), u.2) mX12_best 0 [(0, .ref (zad X (50, 0, 0))), (1, vi v1)] [] I := by
  unfold fX12_best at hf
  refine zW_aload_n 0 dX12_best_0 rfl ?_
  refine zW_iconst dX12_best_1 ?_
  refine zF_put lk_RX12_1 (hw.1 _ o) rfl rfl (zn_int _) dX12_best_2 hf (fun I1 hf => ?_)
  refine zW_aload_n 0 dX12_best_5 rfl ?_
  refine zW_iload_n 1 dX12_best_6 rfl ?_
  refine zC_Vwi (As := [vi v1]) (fun x hx => kX12_noSoft hw (v1 := v1) o hx) mv_RX12_281 (hw.1 _ o) rfl rfl rfl rfl rfl dX12_best_7 hf (fun r2 hf => ?_)
  refine zW_istore_n (lv' := [(2, vi r2.1), (0, .ref (zad X (50, 0, 0))), (1, vi v1)]) dX12_best_10 rfl rfl ?_
  refine zW_iload_n 0 dX12_best_11 rfl ?_
  refine zF_if_eq 19 dX12_best_12 rfl rfl hf (fun c hf => ?_) (fun c hf => ?_)
  · refine zW_aload_n 1 dX12_best_19 rfl ?_
    refine zC_Vwi (As := []) (fun x hx => kX12_bestNow hw o hx) mv_RX12_162 (hw.1 _ o) rfl rfl rfl rfl rfl dX12_best_20 hf (fun r3 hf => ?_)
    exact zR_i hw rfl dX12_best_23 hf
  · refine zW_iload_n 0 dX12_best_15 rfl ?_
    refine zW_goto 23 dX12_best_16 rfl ?_
    exact zR_i hw rfl dX12_best_23 hf
theorem kX12_best {X : zX} {e : Nat → Prop} (hw : zWf X e) {v1 : Int} (o : zOk e (50, 0, 0)) {I : zMem} {u : (Int × zMem)} (hf : fX12_best v1 I = some u) : zCn X mX12_best yX12_best [.ref (zad X (50, 0, 0)), vi v1] I (some (vi u.1), u.2) := zCn_of (by decide +kernel) rfl rfl ⟨rfl, rfl⟩ (tX12_best_0 hw.N o hf)
set_option maxRecDepth 100000 in
theorem tX12_sum_0 {X : zX} {e : Nat → Prop} (hw : zWf X e) {v1 : Int} {v2 : Int} (o : zOk e (50, 0, 0)) {I : zMem} {u : (Int × zMem)} (hf : fX12_sum v1 v2 I = some u) : zW X (some (vi u.1), u.2) mX12_sum 0 [(0, .ref (zad X (50, 0, 0))), (1, vi v1), (2, vi v2)] [] I := by
  unfold fX12_sum at hf
  refine zW_aload_n 0 dX12_sum_0 rfl ?_
  refine zW_iconst dX12_sum_1 ?_
  refine zF_put lk_RX12_1 (hw.1 _ o) rfl rfl (zn_int _) dX12_sum_2 hf (fun I1 hf => ?_)
  refine zW_aload_n 0 dX12_sum_5 rfl ?_
  refine zW_iload_n 1 dX12_sum_6 rfl ?_
  refine zC_Vri (As := [vi v1]) (fun x hx => kX12_isProcess hw (v1 := v1) o hx) mv_RX12_222 (hw.1 _ o) rfl rfl rfl rfl rfl dX12_sum_7 hf (fun r2 hf => ?_)
  refine zF_if_ne 17 dX12_sum_10 rfl rfl hf (fun c hf => ?_) (fun c hf => ?_)
  · refine zW_ldcw dX12_sum_13 wc_RX12_288 ?_
    exact zR_i hw rfl dX12_sum_16 hf
  · refine zW_iload_n 2 dX12_sum_17 rfl ?_
    refine zC_Sri (As := [vi v2]) (fun x hx => kX12_isWord hw (v0 := v2)  hx) ms_RX12_127 rfl rfl rfl rfl dX12_sum_18 hf (fun r3 hf => ?_)
    refine zF_if_ne 28 dX12_sum_21 rfl rfl hf (fun c hf => ?_) (fun c hf => ?_)
    · refine zW_ldcw dX12_sum_24 wc_RX12_289 ?_
      exact zR_i hw rfl dX12_sum_27 hf
    · refine zW_aload_n 0 dX12_sum_28 rfl ?_
      refine zW_iload_n 1 dX12_sum_29 rfl ?_
      refine zC_Vwi (As := [vi v1]) (fun x hx => kX12_noSoft hw (v1 := v1) o hx) mv_RX12_281 (hw.1 _ o) rfl rfl rfl rfl rfl dX12_sum_30 hf (fun r4 hf => ?_)
      refine zW_istore_n (lv' := [(3, vi r4.1), (0, .ref (zad X (50, 0, 0))), (1, vi v1), (2, vi v2)]) dX12_sum_33 rfl rfl ?_
      refine zW_iload_n 0 dX12_sum_34 rfl ?_
      refine zF_if_eq 46 dX12_sum_35 rfl rfl hf (fun c hf => ?_) (fun c hf => ?_)
      · refine zW_aload_n 1 dX12_sum_46 rfl ?_
        refine zW_iload_n 3 dX12_sum_47 rfl ?_
        refine zC_Vri (As := [vi v2]) (fun x hx => kX12_sumNow hw (v1 := v2) o hx) mv_RX12_278 (hw.1 _ o) rfl rfl rfl rfl rfl dX12_sum_48 hf (fun r5 hf => ?_)
        exact zR_i hw rfl dX12_sum_51 hf
      · refine zW_ldcw dX12_sum_38 wc_RX12_284 ?_
        refine zW_iload_n 0 dX12_sum_41 rfl ?_
        refine zW_iadd dX12_sum_42 ?_
        refine zW_goto 51 dX12_sum_43 rfl ?_
        exact zR_i hw rfl dX12_sum_51 hf
theorem kX12_sum {X : zX} {e : Nat → Prop} (hw : zWf X e) {v1 : Int} {v2 : Int} (o : zOk e (50, 0, 0)) {I : zMem} {u : (Int × zMem)} (hf : fX12_sum v1 v2 I = some u) : zCn X mX12_sum yX12_sum [.ref (zad X (50, 0, 0)), vi v1, vi v2] I (some (vi u.1), u.2) := zCn_of (by decide +kernel) rfl rfl ⟨rfl, rfl⟩ (tX12_sum_0 hw.N o hf)
set_option maxRecDepth 100000 in
theorem tX12_margin_0 {X : zX} {e : Nat → Prop} (hw : zWf X e) {v1 : Int} (o : zOk e (50, 0, 0)) {I : zMem} {u : (Int × zMem)} (hf : fX12_margin v1 I = some u) : zW X (some (vi u.1), u.2) mX12_margin 0 [(0, .ref (zad X (50, 0, 0))), (1, vi v1)] [] I := by
  unfold fX12_margin at hf
  refine zW_aload_n 0 dX12_margin_0 rfl ?_
  refine zW_iconst dX12_margin_1 ?_
  refine zF_put lk_RX12_1 (hw.1 _ o) rfl rfl (zn_int _) dX12_margin_2 hf (fun I1 hf => ?_)
  refine zW_aload_n 0 dX12_margin_5 rfl ?_
  refine zW_iload_n 1 dX12_margin_6 rfl ?_
  refine zC_Vwi (As := [vi v1]) (fun x hx => kX12_noSoft hw (v1 := v1) o hx) mv_RX12_281 (hw.1 _ o) rfl rfl rfl rfl rfl dX12_margin_7 hf (fun r2 hf => ?_)
  refine zW_istore_n (lv' := [(2, vi r2.1), (0, .ref (zad X (50, 0, 0))), (1, vi v1)]) dX12_margin_10 rfl rfl ?_
  refine zW_iload_n 0 dX12_margin_11 rfl ?_
  refine zF_if_eq 17 dX12_margin_12 rfl rfl hf (fun c hf => ?_) (fun c hf => ?_)
  · refine zW_aload_n 1 dX12_margin_17 rfl ?_
    refine zC_Vwi (As := []) (fun x hx => kX12_bestNow hw o hx) mv_RX12_162 (hw.1 _ o) rfl rfl rfl rfl rfl dX12_margin_18 hf (fun r3 hf => ?_)
    refine zW_istore_n (lv' := [(3, vi r3.1), (2, vi r2.1), (0, .ref (zad X (50, 0, 0))), (1, vi v1)]) dX12_margin_21 rfl rfl ?_
    refine zW_aload_n 2 dX12_margin_22 rfl ?_
    refine zW_iload_n 0 dX12_margin_23 rfl ?_
    refine zC_Vri (As := [vi r3.1]) (fun x hx => kX12_sumNow hw (v1 := r3.1) o hx) mv_RX12_278 (hw.1 _ o) rfl rfl rfl rfl rfl dX12_margin_24 hf (fun r4 hf => ?_)
    refine zW_aload_n 2 dX12_margin_27 rfl ?_
    refine zW_aload_n 2 dX12_margin_28 rfl ?_
    refine zW_iload_n 0 dX12_margin_29 rfl ?_
    refine zC_Vri (As := [vi r3.1]) (fun x hx => kX12_secondNow hw (v1 := r3.1) o hx) mv_RX12_290 (hw.1 _ o) rfl rfl rfl rfl rfl dX12_margin_30 hf (fun r5 hf => ?_)
    refine zC_Vri (As := [vi r5]) (fun x hx => kX12_sumNow hw (v1 := r5) o hx) mv_RX12_278 (hw.1 _ o) rfl rfl rfl rfl rfl dX12_margin_33 hf (fun r6 hf => ?_)
    refine zW_isub dX12_margin_36 ?_
    exact zR_i hw rfl dX12_margin_37 hf
  · refine zW_iload_n 0 dX12_margin_15 rfl ?_
    exact zR_i hw rfl dX12_margin_16 hf
theorem kX12_margin {X : zX} {e : Nat → Prop} (hw : zWf X e) {v1 : Int} (o : zOk e (50, 0, 0)) {I : zMem} {u : (Int × zMem)} (hf : fX12_margin v1 I = some u) : zCn X mX12_margin yX12_margin [.ref (zad X (50, 0, 0)), vi v1] I (some (vi u.1), u.2) := zCn_of (by decide +kernel) rfl rfl ⟨rfl, rfl⟩ (tX12_margin_0 hw.N o hf)
set_option maxRecDepth 100000 in
theorem tX12_second_0 {X : zX} {e : Nat → Prop} (hw : zWf X e) {v1 : Int} (o : zOk e (50, 0, 0)) {I : zMem} {u : (Int × zMem)} (hf : fX12_second v1 I = some u) : zW X (some (vi u.1), u.2) mX12_second 0 [(0, .ref (zad X (50, 0, 0))), (1, vi v1)] [] I := by
  unfold fX12_second at hf
  refine zW_aload_n 0 dX12_second_0 rfl ?_
  refine zW_iconst dX12_second_1 ?_
  refine zF_put lk_RX12_1 (hw.1 _ o) rfl rfl (zn_int _) dX12_second_2 hf (fun I1 hf => ?_)
  refine zW_aload_n 0 dX12_second_5 rfl ?_
  refine zW_iload_n 1 dX12_second_6 rfl ?_
  refine zC_Vwi (As := [vi v1]) (fun x hx => kX12_noSoft hw (v1 := v1) o hx) mv_RX12_281 (hw.1 _ o) rfl rfl rfl rfl rfl dX12_second_7 hf (fun r2 hf => ?_)
  refine zW_istore_n (lv' := [(2, vi r2.1), (0, .ref (zad X (50, 0, 0))), (1, vi v1)]) dX12_second_10 rfl rfl ?_
  refine zW_iload_n 0 dX12_second_11 rfl ?_
  refine zF_if_eq 19 dX12_second_12 rfl rfl hf (fun c hf => ?_) (fun c hf => ?_)
  · refine zW_aload_n 1 dX12_second_19 rfl ?_
    refine zW_aload_n 1 dX12_second_20 rfl ?_
    refine zC_Vwi (As := []) (fun x hx => kX12_bestNow hw o hx) mv_RX12_162 (hw.1 _ o) rfl rfl rfl rfl rfl dX12_second_21 hf (fun r3 hf => ?_)
    refine zC_Vri (As := [vi r3.1]) (fun x hx => kX12_secondNow hw (v1 := r3.1) o hx) mv_RX12_290 (hw.1 _ o) rfl rfl rfl rfl rfl dX12_second_24 hf (fun r4 hf => ?_)
    exact zR_i hw rfl dX12_second_27 hf
  · refine zW_iload_n 0 dX12_second_15 rfl ?_
    refine zW_goto 27 dX12_second_16 rfl ?_
    exact zR_i hw rfl dX12_second_27 hf
theorem kX12_second {X : zX} {e : Nat → Prop} (hw : zWf X e) {v1 : Int} (o : zOk e (50, 0, 0)) {I : zMem} {u : (Int × zMem)} (hf : fX12_second v1 I = some u) : zCn X mX12_second yX12_second [.ref (zad X (50, 0, 0)), vi v1] I (some (vi u.1), u.2) := zCn_of (by decide +kernel) rfl rfl ⟨rfl, rfl⟩ (tX12_second_0 hw.N o hf)
set_option maxRecDepth 100000 in
theorem tX12_greatestOf_b6_48 {X : zX} {e : Nat → Prop} (hw : zWf X e) {T : zT} {v1 : Int} {v2 : Int} {I : zMem} {w3 : Int} {w4 : Int} (o : zOk e (50, 0, 0)) {u : ((Int × Int) ⊕ (Int × Int))} (hf : fX12_greatestOf_b6_48 v1 v2 I w3 w4 = some u) (hk : ∀ s', u = .inl s' → zW X T mX12_greatestOf 6 [(0, .ref (zad X (50, 0, 0))), (1, vi v1), (2, vi v2), (3, vi s'.1), (4, vi s'.2)] [] I) (hx : ∀ x, u = .inr x → zW X T mX12_greatestOf 54 [(3, vi x.1)] [] I) : zW X T mX12_greatestOf 48 [(0, .ref (zad X (50, 0, 0))), (1, vi v1), (2, vi v2), (3, vi w3), (4, vi w4)] [] I := by
  unfold fX12_greatestOf_b6_48 at hf
  refine zW_iinc 4 (lv' := [(4, vi (w4 + 1)), (0, .ref (zad X (50, 0, 0))), (1, vi v1), (2, vi v2), (3, vi w3)]) dX12_greatestOf_48 rfl rfl rfl ?_
  refine zW_goto 6 dX12_greatestOf_51 rfl ?_
  refine zW_sub [1, 2, 3, 4, 0] rfl ?_
  exact hk _ (Option.some.inj hf).symm
set_option maxRecDepth 100000 in
theorem tX12_greatestOf_b6_47 {X : zX} {e : Nat → Prop} (hw : zWf X e) {T : zT} {v1 : Int} {v2 : Int} {I : zMem} {w4 : Int} {k0 : Int} (o : zOk e (50, 0, 0)) {u : ((Int × Int) ⊕ (Int × Int))} (hf : fX12_greatestOf_b6_47 v1 v2 I w4 k0 = some u) (hk : ∀ s', u = .inl s' → zW X T mX12_greatestOf 6 [(0, .ref (zad X (50, 0, 0))), (1, vi v1), (2, vi v2), (3, vi s'.1), (4, vi s'.2)] [] I) (hx : ∀ x, u = .inr x → zW X T mX12_greatestOf 54 [(3, vi x.1)] [] I) : zW X T mX12_greatestOf 47 [(0, .ref (zad X (50, 0, 0))), (1, vi v1), (2, vi v2), (4, vi w4)] [vi k0] I := by
  unfold fX12_greatestOf_b6_47 at hf
  refine zW_istore_n (lv' := [(3, vi k0), (0, .ref (zad X (50, 0, 0))), (1, vi v1), (2, vi v2), (4, vi w4)]) dX12_greatestOf_47 rfl rfl ?_
  refine zW_sub [1, 2, 3, 0, 4] rfl ?_
  exact tX12_greatestOf_b6_48 hw o hf hk hx
set_option maxRecDepth 100000 in
theorem tX12_greatestOf_l6_y {X : zX} {e : Nat → Prop} (hw : zWf X e) {T : zT} {v1 : Int} {v2 : Int} {I : zMem} (o : zOk e (50, 0, 0)) (s : (Int × Int)) {u : ((Int × Int) ⊕ (Int × Int))} (hf : fX12_greatestOf_l6 v1 v2 I s = some u) (hk : ∀ s', u = .inl s' → zW X T mX12_greatestOf 6 [(0, .ref (zad X (50, 0, 0))), (1, vi v1), (2, vi v2), (3, vi s'.1), (4, vi s'.2)] [] I) (hx : ∀ x, u = .inr x → zW X T mX12_greatestOf 54 [(3, vi x.1)] [] I) : zW X T mX12_greatestOf 6 [(0, .ref (zad X (50, 0, 0))), (1, vi v1), (2, vi v2), (3, vi s.1), (4, vi s.2)] [] I := by
  unfold fX12_greatestOf_l6 at hf
  refine zW_iload 4 dX12_greatestOf_6 rfl ?_
  refine zW_sipush dX12_greatestOf_8 rfl ?_
  refine zF_icmp_ge 54 dX12_greatestOf_11 rfl rfl (w32_lit _ rfl) hf (fun c hf => ?_) (fun c hf => ?_)
  · refine zW_sub [3] rfl ?_
    exact hx _ (Option.some.inj hf).symm
  · refine zW_iload 4 dX12_greatestOf_14 rfl ?_
    refine zW_iload_n 1 dX12_greatestOf_16 rfl ?_
    refine zC_Sri (As := [vi s.2, vi v1]) (fun x hx => kX12_bitAt hw (v0 := s.2) (v1 := v1)  hx) ms_RX12_78 rfl rfl rfl rfl dX12_greatestOf_17 hf (fun r1 hf => ?_)
    refine zW_iload_n 2 dX12_greatestOf_20 rfl ?_
    refine zF_icmp_eq 27 dX12_greatestOf_21 rfl rfl rfl hf (fun c hf => ?_) (fun c hf => ?_)
    · refine zW_aload_n 0 dX12_greatestOf_27 rfl ?_
      refine zW_iload 4 dX12_greatestOf_28 rfl ?_
      refine zC_Vri (As := [vi s.2]) (fun x hx => kX12_sumNow hw (v1 := s.2) o hx) mv_RX12_278 (hw.1 _ o) rfl rfl rfl rfl rfl dX12_greatestOf_30 hf (fun r2 hf => ?_)
      refine zW_istore (lv' := [(5, vi r2), (0, .ref (zad X (50, 0, 0))), (1, vi v1), (2, vi v2), (3, vi s.1), (4, vi s.2)]) dX12_greatestOf_33 rfl rfl ?_
      refine zW_iload 0 dX12_greatestOf_35 rfl ?_
      refine zW_iload_n 4 dX12_greatestOf_37 rfl ?_
      refine zF_icmp_le 46 dX12_greatestOf_38 rfl rfl rfl hf (fun c hf => ?_) (fun c hf => ?_)
      · refine zW_iload_n 4 dX12_greatestOf_46 rfl ?_
        refine zW_sub [1, 2, 3, 5] rfl ?_
        exact tX12_greatestOf_b6_47 hw o hf hk hx
      · refine zW_iload 0 dX12_greatestOf_41 rfl ?_
        refine zW_goto 47 dX12_greatestOf_43 rfl ?_
        refine zW_sub [1, 2, 3, 5] rfl ?_
        exact tX12_greatestOf_b6_47 hw o hf hk hx
    · refine zW_goto 48 dX12_greatestOf_24 rfl ?_
      refine zW_sub [0, 1, 2, 3, 4] rfl ?_
      exact tX12_greatestOf_b6_48 hw o hf hk hx
theorem tX12_greatestOf_l6 {X : zX} {e : Nat → Prop} (hw : zWf X e) {T : zT} {v1 : Int} {v2 : Int} {I : zMem} (o : zOk e (50, 0, 0)) {s0 : (Int × Int)} {α : Type} {F : (Int × Int) → Option α} {u : α} (hf : zb (zlp (fX12_greatestOf_l6 v1 v2 I) 5000 s0) F = some u) (kx : ∀ x, F x = some u → zW X T mX12_greatestOf 54 [(3, vi x.1)] [] I) : zW X T mX12_greatestOf 6 [(0, .ref (zad X (50, 0, 0))), (1, vi v1), (2, vi v2), (3, vi s0.1), (4, vi s0.2)] [] I := by
  obtain ⟨x, h, hf⟩ := zb_inv hf
  exact zlp_W (P := fun s => zW X T mX12_greatestOf 6 [(0, .ref (zad X (50, 0, 0))), (1, vi v1), (2, vi v2), (3, vi s.1), (4, vi s.2)] [] I) (E := fun x => zW X T mX12_greatestOf 54 [(3, vi x.1)] [] I) (fun s u h hk hx => tX12_greatestOf_l6_y hw o s h hk hx) _ s0 x h (kx x hf)
set_option maxRecDepth 100000 in
theorem tX12_greatestOf_0 {X : zX} {e : Nat → Prop} (hw : zWf X e) {v1 : Int} {v2 : Int} (o : zOk e (50, 0, 0)) {I : zMem} {u : Int} (hf : fX12_greatestOf v1 v2 I = some u) : zW X (some (vi u), I) mX12_greatestOf 0 [(0, .ref (zad X (50, 0, 0))), (1, vi v1), (2, vi v2)] [] I := by
  unfold fX12_greatestOf at hf
  refine zW_ldc dX12_greatestOf_0 wc_RX12_157 ?_
  refine zW_istore_n (lv' := [(3, vi (-1073741824)), (0, .ref (zad X (50, 0, 0))), (1, vi v1), (2, vi v2)]) dX12_greatestOf_2 rfl rfl ?_
  refine zW_iconst dX12_greatestOf_3 ?_
  refine zW_istore (lv' := [(4, vi 0), (3, vi (-1073741824)), (0, .ref (zad X (50, 0, 0))), (1, vi v1), (2, vi v2)]) dX12_greatestOf_4 rfl rfl ?_
  refine zW_sub [2, 3, 4, 1, 0] rfl ?_
  refine tX12_greatestOf_l6 hw o (s0 := ((-1073741824), 0)) hf (fun x3 hf => ?_)
  refine zW_iload_n 0 dX12_greatestOf_54 rfl ?_
  exact zS_i hw rfl dX12_greatestOf_55 hf
theorem kX12_greatestOf {X : zX} {e : Nat → Prop} (hw : zWf X e) {v1 : Int} {v2 : Int} (o : zOk e (50, 0, 0)) {I : zMem} {u : Int} (hf : fX12_greatestOf v1 v2 I = some u) : zCn X mX12_greatestOf yX12_greatestOf [.ref (zad X (50, 0, 0)), vi v1, vi v2] I (some (vi u), I) := zCn_of (by decide +kernel) rfl rfl ⟨rfl, rfl⟩ (tX12_greatestOf_0 hw.N o hf)
