set_option maxRecDepth 100000 in
theorem tX5_moveOn_b62 {X : zX} {e : Nat → Prop} (hw : zWf X e) {L : Nat} {I : zMem} (o : zOk e (9, L, 0)) {u : zMem} (hf : fX5_moveOn_b62 L I = some u) : zW X (none, u) mX5_moveOn 62 [(0, .ref (zad X (9, L, 0)))] [] I := by
  unfold fX5_moveOn_b62 at hf
  refine zW_aload_n 0 dX5_moveOn_62 rfl ?_
  refine zW_aload_n 0 dX5_moveOn_63 rfl ?_
  refine zW_getI lk_RX5_35 (hw.1 _ o) rfl rfl dX5_moveOn_64 ?_
  refine zW_iconst dX5_moveOn_67 ?_
  refine zW_iadd dX5_moveOn_68 ?_
  refine zW_bipush dX5_moveOn_69 rfl ?_
  refine zW_iand_7 dX5_moveOn_71 ?_
  refine zF_put lk_RX5_35 (hw.1 _ o) rfl rfl (zn_int _) dX5_moveOn_72 hf (fun I4 hf => ?_)
  refine zW_aload_n 0 dX5_moveOn_75 rfl ?_
  refine zW_getI lk_RX5_39 (hw.1 _ o) rfl rfl dX5_moveOn_76 ?_
  refine zF_if_le 104 dX5_moveOn_79 rfl rfl hf (fun c hf => ?_) (fun c hf => ?_)
  · exact zR_v rfl dX5_moveOn_104 hf
  · refine zW_aload_n 0 dX5_moveOn_82 rfl ?_
    refine zW_dup dX5_moveOn_83 rfl ?_
    refine zW_getI lk_RX5_42 (hw.1 _ o) rfl rfl dX5_moveOn_84 ?_
    refine zW_iconst dX5_moveOn_87 ?_
    refine zW_isub dX5_moveOn_88 ?_
    refine zF_put lk_RX5_42 (hw.1 _ o) rfl rfl (zn_int _) dX5_moveOn_89 hf (fun I5 hf => ?_)
    refine zW_aload_n 0 dX5_moveOn_92 rfl ?_
    refine zW_getI lk_RX5_42 (hw.1 _ o) rfl rfl dX5_moveOn_93 ?_
    refine zF_if_gt 104 dX5_moveOn_96 rfl rfl hf (fun c hf => ?_) (fun c hf => ?_)
    · exact zR_v rfl dX5_moveOn_104 hf
    · refine zW_aload_n 0 dX5_moveOn_99 rfl ?_
      refine zW_iconst dX5_moveOn_100 ?_
      refine zF_put lk_RX5_39 (hw.1 _ o) rfl rfl (zn_int _) dX5_moveOn_101 hf (fun I6 hf => ?_)
      exact zR_v rfl dX5_moveOn_104 hf
set_option maxRecDepth 100000 in
theorem kX5_moveOn {X : zX} {e : Nat → Prop} (hw : zWf X e) {L : Nat} (o : zOk e (9, L, 0)) {I : zMem} {u : zMem} (hf : fX5_moveOn L I = some u) : zCn X mX5_moveOn yX5_moveOn [.ref (zad X (9, L, 0))] I (none, u) := by
  refine zCn_of (by decide +kernel) rfl rfl ?_
  show zW X (none, u) mX5_moveOn 0 [(0, .ref (zad X (9, L, 0)))] [] I
  unfold fX5_moveOn at hf
  refine zW_aload_n 0 dX5_moveOn_0 rfl ?_
  refine zW_getR (q' := (39, L, 0)) lk_RX5_17 (hw.1 _ o) rfl rfl (hw.2 _ _ _ o rfl) dX5_moveOn_1 ?_
  refine zW_aload_n 0 dX5_moveOn_4 rfl ?_
  refine zW_getI lk_RX5_35 (hw.1 _ o) rfl rfl dX5_moveOn_5 ?_
  obtain ⟨c1, hf⟩ := zgd hf
  refine zF_iald (hw.1 _ (zokB o rfl rfl)) rfl c1 rfl dX5_moveOn_8 ?_
  refine zF_istore_n (lv' := fun a2 => [(1, vi a2), (0, .ref (zad X (9, L, 0)))]) dX5_moveOn_9 hf (fun _ => rfl) rfl (fun a2 hf => ?_)
  refine zW_iload_n 0 dX5_moveOn_10 rfl ?_
  refine zW_iconst dX5_moveOn_11 ?_
  refine zF_icmp_ne 28 dX5_moveOn_12 rfl rfl (w32_lit _ rfl) hf (fun c hf => ?_) (fun c hf => ?_)
  · refine zW_aload_n 1 dX5_moveOn_15 rfl ?_
    refine zW_dup dX5_moveOn_16 rfl ?_
    refine zW_getI lk_RX5_48 (hw.1 _ o) rfl rfl dX5_moveOn_17 ?_
    refine zW_iconst dX5_moveOn_20 ?_
    refine zW_iadd dX5_moveOn_21 ?_
    refine zF_put lk_RX5_48 (hw.1 _ o) rfl rfl (zn_int _) dX5_moveOn_22 hf (fun I3 hf => ?_)
    refine zW_goto 62 dX5_moveOn_25 rfl ?_
    refine zW_sub [1] rfl ?_
    exact tX5_moveOn_b62 hw o hf
  · refine zW_aload_n 1 dX5_moveOn_28 rfl ?_
    refine zW_getR (q' := (40, L, 0)) lk_RX5_21 (hw.1 _ o) rfl rfl (hw.2 _ _ _ o rfl) dX5_moveOn_29 ?_
    refine zW_aload_n 1 dX5_moveOn_32 rfl ?_
    refine zW_getI lk_RX5_45 (hw.1 _ o) rfl rfl dX5_moveOn_33 ?_
    refine zW_sipush dX5_moveOn_36 rfl ?_
    refine zW_iand_255 dX5_moveOn_39 ?_
    refine zW_iload_n 0 dX5_moveOn_40 rfl ?_
    obtain ⟨c7, hf⟩ := zgd hf
    refine zF_iast (hw.1 _ (zokB o rfl rfl)) rfl c7 rfl dX5_moveOn_41 hf (fun I8 hf => ?_)
    refine zW_aload_n 1 dX5_moveOn_42 rfl ?_
    refine zW_dup dX5_moveOn_43 rfl ?_
    refine zW_getI lk_RX5_45 (hw.1 _ o) rfl rfl dX5_moveOn_44 ?_
    refine zW_iconst dX5_moveOn_47 ?_
    refine zW_iadd dX5_moveOn_48 ?_
    refine zF_put lk_RX5_45 (hw.1 _ o) rfl rfl (zn_int _) dX5_moveOn_49 hf (fun I9 hf => ?_)
    refine zW_aload_n 1 dX5_moveOn_52 rfl ?_
    refine zW_getR (q' := (39, L, 0)) lk_RX5_17 (hw.1 _ o) rfl rfl (hw.2 _ _ _ o rfl) dX5_moveOn_53 ?_
    refine zW_aload_n 1 dX5_moveOn_56 rfl ?_
    refine zW_getI lk_RX5_35 (hw.1 _ o) rfl rfl dX5_moveOn_57 ?_
    refine zW_iconst dX5_moveOn_60 ?_
    obtain ⟨c10, hf⟩ := zgd hf
    refine zF_iast (hw.1 _ (zokB o rfl rfl)) rfl c10 rfl dX5_moveOn_61 hf (fun I11 hf => ?_)
    refine zW_sub [1] rfl ?_
    exact tX5_moveOn_b62 hw o hf
