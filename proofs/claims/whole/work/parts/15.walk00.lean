set_option maxRecDepth 100000 in
theorem tX0_within_0 {X : zX} {e : Nat → Prop} (hw : zWf X e) {v0 : Int} {v1 : Int}  {I : zMem} {u : Int} (hf : fX0_within v0 v1 = some u) : zW X (some (vi u), I) mX0_within 0 [(0, vi v0), (1, vi v1)] [] I := by
  unfold fX0_within at hf
  refine zW_iload_n 1 dX0_within_0 rfl ?_
  refine zW_ineg dX0_within_1 ?_
  refine zW_iload_n 1 dX0_within_2 rfl ?_
  refine zW_iload_n 0 dX0_within_3 rfl ?_
  refine zW_min mm_RX0_34 rfl dX0_within_4 ?_
  refine zW_max mm_RX0_40 rfl dX0_within_7 ?_
  exact zS_i hw rfl dX0_within_10 hf
theorem kX0_within {X : zX} {e : Nat → Prop} (hw : zWf X e) {v0 : Int} {v1 : Int}  {I : zMem} {u : Int} (hf : fX0_within v0 v1 = some u) : zCn X mX0_within yX0_within [vi v0, vi v1] I (some (vi u), I) := zCn_of (by decide +kernel) rfl rfl ⟨rfl, rfl⟩ (tX0_within_0 hw.N  hf)
set_option maxRecDepth 100000 in
theorem tJ7_fill_53178_l5_y {X : zX} {e : Nat → Prop} (hw : zWf X e) {T : zT} {q0 : zPl} {n0 : Nat} {v1 : Int} {w3 : Int} (hq0 : zDom X q0) (hk0 : zkd q0.1 = (14, n0)) (s : (Int × zMem)) {u : ((Int × zMem) ⊕ (Int × zMem))} (hf : fJ7_fill_53178_l5 q0 n0 v1 w3 s = some u) (hk : ∀ s', u = .inl s' → zW X T mJ7_fill_53178 5 [(0, .ref (zad X q0)), (1, vi v1), (2, vi s'.1), (3, vi w3)] [] s'.2) (hx : ∀ x, u = .inr x → zW X T mJ7_fill_53178 20 [] [] x.2) : zW X T mJ7_fill_53178 5 [(0, .ref (zad X q0)), (1, vi v1), (2, vi s.1), (3, vi w3)] [] s.2 := by
  unfold fJ7_fill_53178_l5 at hf
  refine zW_iload_n 2 dJ7_fill_53178_5 rfl ?_
  refine zW_iload_n 3 dJ7_fill_53178_6 rfl ?_
  refine zF_icmp_ge 20 dJ7_fill_53178_7 rfl rfl rfl hf (fun c hf => ?_) (fun c hf => ?_)
  · refine zW_sub [] rfl ?_
    exact hx _ (Option.some.inj hf).symm
  · refine zW_aload_n 0 dJ7_fill_53178_10 rfl ?_
    refine zW_iload_n 2 dJ7_fill_53178_11 rfl ?_
    refine zW_iload_n 1 dJ7_fill_53178_12 rfl ?_
    obtain ⟨c2, hf⟩ := zgd hf
    refine zF_iast hq0 hk0 c2 rfl dJ7_fill_53178_13 hf (fun I3 hf => ?_)
    refine zW_iinc 2 (lv' := [(2, vi (s.1 + 1)), (0, .ref (zad X q0)), (1, vi v1), (3, vi w3)]) dJ7_fill_53178_14 rfl rfl rfl ?_
    refine zW_goto 5 dJ7_fill_53178_17 rfl ?_
    refine zW_sub [1, 2, 0, 3] rfl ?_
    exact hk _ (Option.some.inj hf).symm
theorem tJ7_fill_53178_l5 {X : zX} {e : Nat → Prop} (hw : zWf X e) {T : zT} {q0 : zPl} {n0 : Nat} {v1 : Int} {w3 : Int} (hq0 : zDom X q0) (hk0 : zkd q0.1 = (14, n0)) {s0 : (Int × zMem)} {α : Type} {F : (Int × zMem) → Option α} {u : α} (hf : zb (zlp (fJ7_fill_53178_l5 q0 n0 v1 w3) 5000 s0) F = some u) (kx : ∀ x, F x = some u → zW X T mJ7_fill_53178 20 [] [] x.2) : zW X T mJ7_fill_53178 5 [(0, .ref (zad X q0)), (1, vi v1), (2, vi s0.1), (3, vi w3)] [] s0.2 := by
  obtain ⟨x, h, hf⟩ := zb_inv hf
  exact zlp_W (P := fun s => zW X T mJ7_fill_53178 5 [(0, .ref (zad X q0)), (1, vi v1), (2, vi s.1), (3, vi w3)] [] s.2) (E := fun x => zW X T mJ7_fill_53178 20 [] [] x.2) (fun s u h hk hx => tJ7_fill_53178_l5_y hw hq0 hk0 s h hk hx) _ s0 x h (kx x hf)
set_option maxRecDepth 100000 in
theorem tJ7_fill_53178_0 {X : zX} {e : Nat → Prop} (hw : zWf X e) {q0 : zPl} {n0 : Nat} {v1 : Int} (hq0 : zDom X q0) (hk0 : zkd q0.1 = (14, n0)) {I : zMem} {u : zMem} (hf : fJ7_fill_53178 q0 n0 v1 I = some u) : zW X (none, u) mJ7_fill_53178 0 [(0, .ref (zad X q0)), (1, vi v1)] [] I := by
  unfold fJ7_fill_53178 at hf
  refine zW_iconst dJ7_fill_53178_0 ?_
  refine zW_istore_n (lv' := [(2, vi 0), (0, .ref (zad X q0)), (1, vi v1)]) dJ7_fill_53178_1 rfl rfl ?_
  refine zW_aload_n 1 dJ7_fill_53178_2 rfl ?_
  refine zW_alen 1 rfl hq0 hk0 rfl dJ7_fill_53178_3 ?_
  refine zF_istore_n (lv' := fun a1 => [(3, vi a1), (2, vi 0), (0, .ref (zad X q0)), (1, vi v1)]) dJ7_fill_53178_4 hf (fun _ => rfl) rfl (fun a1 hf => ?_)
  refine zW_sub [2, 3, 1, 0] rfl ?_
  refine tJ7_fill_53178_l5 hw hq0 hk0 (s0 := (0, I)) hf (fun x4 hf => ?_)
  exact zR_v hw rfl dJ7_fill_53178_20 hf
theorem kJ7_fill_53178 {X : zX} {e : Nat → Prop} (hw : zWf X e) {q0 : zPl} {n0 : Nat} {v1 : Int} (hq0 : zDom X q0) (hk0 : zkd q0.1 = (14, n0)) {I : zMem} {u : zMem} (hf : fJ7_fill_53178 q0 n0 v1 I = some u) : zCn X mJ7_fill_53178 yJ7_fill_53178 [.ref (zad X q0), vi v1] I (none, u) := zCn_of (by decide +kernel) rfl rfl ⟨rfl, rfl⟩ (tJ7_fill_53178_0 hw.N hq0 hk0 hf)
set_option maxRecDepth 100000 in
theorem tX0_quiet_0 {X : zX} {e : Nat → Prop} (hw : zWf X e)  (o : zOk e (5, 0, 0)) {I : zMem} {u : zMem} (hf : fX0_quiet  I = some u) : zW X (none, u) mX0_quiet 0 [(0, .ref (zad X (5, 0, 0)))] [] I := by
  unfold fX0_quiet at hf
  refine zW_aload_n 0 dX0_quiet_0 rfl ?_
  refine zW_getR (q' := (28, 0, 0)) lk_RX0_9 (hw.1 _ o) rfl rfl (hw.2.1 _ _ _ o rfl) dX0_quiet_1 ?_
  refine zW_iconst dX0_quiet_4 ?_
  refine zC_Swv (As := [.ref (zad X (28, 0, 0)), vi 0]) (fun x hx => kJ7_fill_53178 hw (q0 := (28, 0, 0)) (n0 := 60) (v1 := 0) (hw.1 _ (zokA (r' := 28) o rfl rfl)) rfl hx) ms_RX0_43 rfl rfl rfl rfl dX0_quiet_5 hf (fun r1 hf => ?_)
  exact zR_v hw rfl dX0_quiet_8 hf
theorem kX0_quiet {X : zX} {e : Nat → Prop} (hw : zWf X e)  (o : zOk e (5, 0, 0)) {I : zMem} {u : zMem} (hf : fX0_quiet  I = some u) : zCn X mX0_quiet yX0_quiet [.ref (zad X (5, 0, 0))] I (none, u) := zCn_of (by decide +kernel) rfl rfl ⟨rfl, rfl⟩ (tX0_quiet_0 hw.N o hf)
set_option maxRecDepth 100000 in
theorem tX7_fill_0 {X : zX} {e : Nat → Prop} (hw : zWf X e) {L : Nat} {L2 : Nat} {p2 : Nat} (o : zOk e (8, L, 0)) (o2 : zOk e (10, L2, p2)) {I : zMem} {u : zMem} (hf : fX7_fill L L2 p2 I = some u) : zW X (none, u) mX7_fill 0 [(0, .ref (zad X (8, L, 0))), (1, .ref (zad X (10, L2, p2)))] [] I := by
  unfold fX7_fill at hf
  refine zW_aload_n 1 dX7_fill_0 rfl ?_
  refine zW_iconst dX7_fill_1 ?_
  refine zW_aload_n 1 dX7_fill_2 rfl ?_
  refine zW_getI lk_RX7_80 (hw.1 _ o2) rfl rfl dX7_fill_3 ?_
  refine zW_isub dX7_fill_6 ?_
  refine zF_put lk_RX7_80 (hw.1 _ o2) rfl rfl (zn_int _) dX7_fill_7 hf (fun I1 hf => ?_)
  refine zW_aload_n 1 dX7_fill_10 rfl ?_
  refine zW_iconst dX7_fill_11 ?_
  refine zF_put lk_RX7_83 (hw.1 _ o2) rfl rfl (zn_int _) dX7_fill_12 hf (fun I2 hf => ?_)
  refine zW_aload_n 1 dX7_fill_15 rfl ?_
  refine zW_getR (q' := (37, L2, p2)) lk_RX7_86 (hw.1 _ o2) rfl rfl (hw.2.1 _ _ _ o2 rfl) dX7_fill_16 ?_
  refine zW_iconst dX7_fill_19 ?_
  refine zC_Swv (As := [.ref (zad X (37, L2, p2)), vi 0]) (fun x hx => kJ7_fill_53178 hw (q0 := (37, L2, p2)) (n0 := 39) (v1 := 0) (hw.1 _ (zokC (r' := 37) o2 rfl rfl)) rfl hx) ms_RX7_89 rfl rfl rfl rfl dX7_fill_20 hf (fun r3 hf => ?_)
  refine zW_aload_n 0 dX7_fill_23 rfl ?_
  refine zW_getI lk_RX7_38 (hw.1 _ o) rfl rfl dX7_fill_24 ?_
  refine zF_if_le 68 dX7_fill_27 rfl rfl hf (fun c hf => ?_) (fun c hf => ?_)
  · refine zW_aload_n 1 dX7_fill_68 rfl ?_
    refine zW_aload_n 0 dX7_fill_69 rfl ?_
    refine zW_getI lk_RX7_41 (hw.1 _ o) rfl rfl dX7_fill_70 ?_
    refine zF_put lk_RX7_71 (hw.1 _ o2) rfl rfl (zn_int _) dX7_fill_73 hf (fun I4 hf => ?_)
    refine zW_aload_n 0 dX7_fill_76 rfl ?_
    refine zW_getR (q' := (34, L, 0)) lk_RX7_21 (hw.1 _ o) rfl rfl (hw.2.1 _ _ _ o rfl) dX7_fill_77 ?_
    refine zW_aload_n 0 dX7_fill_80 rfl ?_
    refine zW_getI lk_RX7_41 (hw.1 _ o) rfl rfl dX7_fill_81 ?_
    refine zW_aload_n 0 dX7_fill_84 rfl ?_
    refine zW_getR (q' := (33, L, 0)) lk_RX7_17 (hw.1 _ o) rfl rfl (hw.2.1 _ _ _ o rfl) dX7_fill_85 ?_
    refine zW_iconst dX7_fill_88 ?_
    refine zF_iald (hw.1 _ (zokB (r' := 33) o rfl rfl)) rfl (zin_lit _ _ rfl) (ix_lit _ rfl) dX7_fill_89 ?_
    obtain ⟨c5, hf⟩ := zgd hf
    refine zF_iast (hw.1 _ (zokB (r' := 34) o rfl rfl)) rfl c5 rfl dX7_fill_90 hf (fun I6 hf => ?_)
    refine zW_aload_n 0 dX7_fill_91 rfl ?_
    refine zW_getR (q' := (35, L, 0)) lk_RX7_24 (hw.1 _ o) rfl rfl (hw.2.1 _ _ _ o rfl) dX7_fill_92 ?_
    refine zW_aload_n 0 dX7_fill_95 rfl ?_
    refine zW_getI lk_RX7_41 (hw.1 _ o) rfl rfl dX7_fill_96 ?_
    refine zW_iconst dX7_fill_99 ?_
    obtain ⟨c7, hf⟩ := zgd hf
    refine zF_iast (hw.1 _ (zokB (r' := 35) o rfl rfl)) rfl c7 rfl dX7_fill_100 hf (fun I8 hf => ?_)
    refine zW_aload_n 0 dX7_fill_101 rfl ?_
    refine zW_dup dX7_fill_102 rfl ?_
    refine zW_getI lk_RX7_34 (hw.1 _ o) rfl rfl dX7_fill_103 ?_
    refine zW_iconst dX7_fill_106 ?_
    refine zW_isub dX7_fill_107 ?_
    refine zF_put lk_RX7_34 (hw.1 _ o) rfl rfl (zn_int _) dX7_fill_108 hf (fun I9 hf => ?_)
    refine zW_aload_n 0 dX7_fill_111 rfl ?_
    refine zW_getR (q' := (33, L, 0)) lk_RX7_17 (hw.1 _ o) rfl rfl (hw.2.1 _ _ _ o rfl) dX7_fill_112 ?_
    refine zW_iconst dX7_fill_115 ?_
    refine zW_aload_n 0 dX7_fill_116 rfl ?_
    refine zW_getR (q' := (33, L, 0)) lk_RX7_17 (hw.1 _ o) rfl rfl (hw.2.1 _ _ _ o rfl) dX7_fill_117 ?_
    refine zW_iconst dX7_fill_120 ?_
    refine zW_aload_n 0 dX7_fill_121 rfl ?_
    refine zW_getI lk_RX7_34 (hw.1 _ o) rfl rfl dX7_fill_122 ?_
    obtain ⟨c, hf⟩ := zgd hf
    refine zF_copy ma_RX7_57 (hw.1 _ (zokB (r' := 33) o rfl rfl)) rfl (hw.1 _ (zokB (r' := 33) o rfl rfl)) rfl c (ix_lit _ rfl) (ix_lit _ rfl) rfl rfl dX7_fill_125 hf (fun I10 hf => ?_)
    refine zW_aload_n 0 dX7_fill_128 rfl ?_
    refine zW_aload_n 0 dX7_fill_129 rfl ?_
    refine zW_getI lk_RX7_41 (hw.1 _ o) rfl rfl dX7_fill_130 ?_
    refine zW_iconst dX7_fill_133 ?_
    refine zW_iadd dX7_fill_134 ?_
    refine zW_bipush dX7_fill_135 rfl ?_
    refine zW_iand_7 dX7_fill_137 ?_
    refine zF_put lk_RX7_41 (hw.1 _ o) rfl rfl (zn_int _) dX7_fill_138 hf (fun I11 hf => ?_)
    exact zR_v hw rfl dX7_fill_141 hf
  · refine zW_aload_n 1 dX7_fill_30 rfl ?_
    refine zW_aload_n 0 dX7_fill_31 rfl ?_
    refine zW_getR (q' := (36, L, 0)) lk_RX7_27 (hw.1 _ o) rfl rfl (hw.2.1 _ _ _ o rfl) dX7_fill_32 ?_
    refine zW_iconst dX7_fill_35 ?_
    refine zF_iald (hw.1 _ (zokB (r' := 36) o rfl rfl)) rfl (zin_lit _ _ rfl) (ix_lit _ rfl) dX7_fill_36 ?_
    refine zF_put lk_RX7_71 (hw.1 _ o2) rfl rfl (zn_int _) dX7_fill_37 hf (fun I12 hf => ?_)
    refine zW_aload_n 0 dX7_fill_40 rfl ?_
    refine zW_dup dX7_fill_41 rfl ?_
    refine zW_getI lk_RX7_38 (hw.1 _ o) rfl rfl dX7_fill_42 ?_
    refine zW_iconst dX7_fill_45 ?_
    refine zW_isub dX7_fill_46 ?_
    refine zF_put lk_RX7_38 (hw.1 _ o) rfl rfl (zn_int _) dX7_fill_47 hf (fun I13 hf => ?_)
    refine zW_aload_n 0 dX7_fill_50 rfl ?_
    refine zW_getR (q' := (36, L, 0)) lk_RX7_27 (hw.1 _ o) rfl rfl (hw.2.1 _ _ _ o rfl) dX7_fill_51 ?_
    refine zW_iconst dX7_fill_54 ?_
    refine zW_aload_n 0 dX7_fill_55 rfl ?_
    refine zW_getR (q' := (36, L, 0)) lk_RX7_27 (hw.1 _ o) rfl rfl (hw.2.1 _ _ _ o rfl) dX7_fill_56 ?_
    refine zW_iconst dX7_fill_59 ?_
    refine zW_aload_n 0 dX7_fill_60 rfl ?_
    refine zW_getI lk_RX7_38 (hw.1 _ o) rfl rfl dX7_fill_61 ?_
    obtain ⟨c, hf⟩ := zgd hf
    refine zF_copy ma_RX7_57 (hw.1 _ (zokB (r' := 36) o rfl rfl)) rfl (hw.1 _ (zokB (r' := 36) o rfl rfl)) rfl c (ix_lit _ rfl) (ix_lit _ rfl) rfl rfl dX7_fill_64 hf (fun I14 hf => ?_)
    exact zR_v hw rfl dX7_fill_67 hf
theorem kX7_fill {X : zX} {e : Nat → Prop} (hw : zWf X e) {L : Nat} {L2 : Nat} {p2 : Nat} (o : zOk e (8, L, 0)) (o2 : zOk e (10, L2, p2)) {I : zMem} {u : zMem} (hf : fX7_fill L L2 p2 I = some u) : zCn X mX7_fill yX7_fill [.ref (zad X (8, L, 0)), .ref (zad X (10, L2, p2))] I (none, u) := zCn_of (by decide +kernel) rfl rfl ⟨rfl, rfl⟩ (tX7_fill_0 hw.N o o2 hf)
set_option maxRecDepth 100000 in
theorem tX6_lay_b23_39 {X : zX} {e : Nat → Prop} (hw : zWf X e) {T : zT} {v1 : Int} {v2 : Int} {v3 : Int} {w4 : Int} {w5 : Int} {w6 : Int} {I : zMem} (o : zOk e (2, 0, 0)) {u : ((Int × Int × zMem) ⊕ (Int × Int × zMem))} (hf : fX6_lay_b23_39 v1 v2 v3 w4 w5 w6 I = some u) (hk : ∀ s', u = .inl s' → zW X T mX6_lay 23 [(0, .ref (zad X (2, 0, 0))), (3, vi v3), (4, vi w4), (5, vi s'.1), (6, vi s'.2.1)] [] s'.2.2) (hx : ∀ x, u = .inr x → zW X T mX6_lay 62 [] [] x.2.2) : zW X T mX6_lay 39 [(0, .ref (zad X (2, 0, 0))), (3, vi v3), (4, vi w4), (5, vi w5), (6, vi w6)] [] I := by
  unfold fX6_lay_b23_39 at hf
  refine zW_aload_n 0 dX6_lay_39 rfl ?_
  refine zW_getR (q' := (20, 0, 0)) lk_RX6_18 (hw.1 _ o) rfl rfl (hw.2.1 _ _ _ o rfl) dX6_lay_40 ?_
  refine zW_iload 4 dX6_lay_43 rfl ?_
  refine zW_aload_n 0 dX6_lay_45 rfl ?_
  refine zW_getR (q' := (18, 0, 0)) lk_RX6_9 (hw.1 _ o) rfl rfl (hw.2.1 _ _ _ o rfl) dX6_lay_46 ?_
  refine zW_iload 3 dX6_lay_49 rfl ?_
  obtain ⟨c5, hf⟩ := zgd hf
  refine zF_iald (hw.1 _ (zokA (r' := 18) o rfl rfl)) rfl c5 rfl dX6_lay_51 ?_
  obtain ⟨c6, hf⟩ := zgd hf
  refine zF_iast (hw.1 _ (zokA (r' := 20) o rfl rfl)) rfl c6 rfl dX6_lay_52 hf (fun I7 hf => ?_)
  refine zW_iinc 3 (lv' := [(5, vi (w5 + 1)), (0, .ref (zad X (2, 0, 0))), (3, vi v3), (4, vi w4), (6, vi w6)]) dX6_lay_53 rfl rfl rfl ?_
  refine zW_iinc 4 (lv' := [(6, vi (w6 + 1)), (5, vi (w5 + 1)), (0, .ref (zad X (2, 0, 0))), (3, vi v3), (4, vi w4)]) dX6_lay_56 rfl rfl rfl ?_
  refine zW_goto 23 dX6_lay_59 rfl ?_
  refine zW_sub [2, 3, 4, 1, 0] rfl ?_
  exact hk _ (Option.some.inj hf).symm
set_option maxRecDepth 100000 in
theorem tX6_lay_l23_y {X : zX} {e : Nat → Prop} (hw : zWf X e) {T : zT} {v1 : Int} {v2 : Int} {v3 : Int} {w4 : Int} (o : zOk e (2, 0, 0)) (s : (Int × Int × zMem)) {u : ((Int × Int × zMem) ⊕ (Int × Int × zMem))} (hf : fX6_lay_l23 v1 v2 v3 w4 s = some u) (hk : ∀ s', u = .inl s' → zW X T mX6_lay 23 [(0, .ref (zad X (2, 0, 0))), (3, vi v3), (4, vi w4), (5, vi s'.1), (6, vi s'.2.1)] [] s'.2.2) (hx : ∀ x, u = .inr x → zW X T mX6_lay 62 [] [] x.2.2) : zW X T mX6_lay 23 [(0, .ref (zad X (2, 0, 0))), (3, vi v3), (4, vi w4), (5, vi s.1), (6, vi s.2.1)] [] s.2.2 := by
  unfold fX6_lay_l23 at hf
  refine zW_iload 4 dX6_lay_23 rfl ?_
  refine zW_iload_n 1 dX6_lay_25 rfl ?_
  refine zF_icmp_ge 62 dX6_lay_26 rfl rfl rfl hf (fun c hf => ?_) (fun c hf => ?_)
  · refine zW_sub [] rfl ?_
    exact hx _ (Option.some.inj hf).symm
  · refine zW_iload 3 dX6_lay_29 rfl ?_
    refine zW_iload 2 dX6_lay_31 rfl ?_
    refine zF_icmp_lt 39 dX6_lay_33 rfl rfl rfl hf (fun c hf => ?_) (fun c hf => ?_)
    · refine zW_sub [0, 1, 2, 3, 4] rfl ?_
      exact tX6_lay_b23_39 hw o hf hk hx
    · refine zW_iconst dX6_lay_36 ?_
      refine zW_istore (lv' := [(5, vi 0), (0, .ref (zad X (2, 0, 0))), (3, vi v3), (4, vi w4), (6, vi s.2.1)]) dX6_lay_37 rfl rfl ?_
      refine zW_sub [1, 2, 3, 0, 4] rfl ?_
      exact tX6_lay_b23_39 hw o hf hk hx
theorem tX6_lay_l23 {X : zX} {e : Nat → Prop} (hw : zWf X e) {T : zT} {v1 : Int} {v2 : Int} {v3 : Int} {w4 : Int} (o : zOk e (2, 0, 0)) {s0 : (Int × Int × zMem)} {α : Type} {F : (Int × Int × zMem) → Option α} {u : α} (hf : zb (zlp (fX6_lay_l23 v1 v2 v3 w4) 5000 s0) F = some u) (kx : ∀ x, F x = some u → zW X T mX6_lay 62 [] [] x.2.2) : zW X T mX6_lay 23 [(0, .ref (zad X (2, 0, 0))), (3, vi v3), (4, vi w4), (5, vi s0.1), (6, vi s0.2.1)] [] s0.2.2 := by
  obtain ⟨x, h, hf⟩ := zb_inv hf
  exact zlp_W (P := fun s => zW X T mX6_lay 23 [(0, .ref (zad X (2, 0, 0))), (3, vi v3), (4, vi w4), (5, vi s.1), (6, vi s.2.1)] [] s.2.2) (E := fun x => zW X T mX6_lay 62 [] [] x.2.2) (fun s u h hk hx => tX6_lay_l23_y hw o s h hk hx) _ s0 x h (kx x hf)
set_option maxRecDepth 100000 in
theorem tX6_lay_0 {X : zX} {e : Nat → Prop} (hw : zWf X e) {v1 : Int} {v2 : Int} {v3 : Int} (o : zOk e (2, 0, 0)) {I : zMem} {u : zMem} (hf : fX6_lay v1 v2 v3 I = some u) : zW X (none, u) mX6_lay 0 [(0, .ref (zad X (2, 0, 0))), (1, vi v1), (2, vi v2), (3, vi v3)] [] I := by
  unfold fX6_lay at hf
  refine zW_aload_n 0 dX6_lay_0 rfl ?_
  refine zW_getR (q' := (19, 0, 0)) lk_RX6_15 (hw.1 _ o) rfl rfl (hw.2.1 _ _ _ o rfl) dX6_lay_1 ?_
  refine zW_iload_n 1 dX6_lay_4 rfl ?_
  obtain ⟨c1, hf⟩ := zgd hf
  refine zF_iald (hw.1 _ (zokA (r' := 19) o rfl rfl)) rfl c1 rfl dX6_lay_5 ?_
  refine zF_istore (lv' := fun a2 => [(4, vi a2), (0, .ref (zad X (2, 0, 0))), (1, vi v1), (2, vi v2), (3, vi v3)]) dX6_lay_6 hf (fun _ => rfl) rfl (fun a2 hf => ?_)
  refine zW_aload_n 1 dX6_lay_8 rfl ?_
  refine zW_getR (q' := (19, 0, 0)) lk_RX6_15 (hw.1 _ o) rfl rfl (hw.2.1 _ _ _ o rfl) dX6_lay_9 ?_
  refine zW_iload_n 3 dX6_lay_12 rfl ?_
  refine zW_iload_n 2 dX6_lay_13 rfl ?_
  refine zW_imul dX6_lay_14 ?_
  refine zW_iconst dX6_lay_15 ?_
  refine zW_ishr dX6_lay_16 ?_
  obtain ⟨c3, hf⟩ := zgd hf
  refine zF_iald (hw.1 _ (zokA (r' := 19) o rfl rfl)) rfl c3 rfl dX6_lay_17 ?_
  refine zF_istore (lv' := fun a4 => [(5, vi a4), (4, vi a2), (0, .ref (zad X (2, 0, 0))), (1, vi v1), (2, vi v2), (3, vi v3)]) dX6_lay_18 hf (fun _ => rfl) rfl (fun a4 hf => ?_)
  refine zW_iconst dX6_lay_20 ?_
  refine zW_istore (lv' := [(6, vi 0), (5, vi a4), (4, vi a2), (0, .ref (zad X (2, 0, 0))), (1, vi v1), (2, vi v2), (3, vi v3)]) dX6_lay_21 rfl rfl ?_
  refine zW_sub [3, 6, 2, 1, 0] rfl ?_
  refine tX6_lay_l23 hw o (s0 := (a4, 0, I)) hf (fun x8 hf => ?_)
  exact zR_v hw rfl dX6_lay_62 hf
theorem kX6_lay {X : zX} {e : Nat → Prop} (hw : zWf X e) {v1 : Int} {v2 : Int} {v3 : Int} (o : zOk e (2, 0, 0)) {I : zMem} {u : zMem} (hf : fX6_lay v1 v2 v3 I = some u) : zCn X mX6_lay yX6_lay [.ref (zad X (2, 0, 0)), vi v1, vi v2, vi v3] I (none, u) := zCn_of (by decide +kernel) rfl rfl ⟨rfl, rfl⟩ (tX6_lay_0 hw.N o hf)
set_option maxRecDepth 100000 in
theorem tX6_addTo_l2_y {X : zX} {e : Nat → Prop} (hw : zWf X e) {T : zT} {q1 : zPl} {v2 : Int} (o : zOk e (2, 0, 0)) (hq1 : zDom X q1) (hk1 : zkd q1.1 = (14, 39)) (s : (Int × zMem)) {u : ((Int × zMem) ⊕ (Int × zMem))} (hf : fX6_addTo_l2 q1 v2 s = some u) (hk : ∀ s', u = .inl s' → zW X T mX6_addTo 2 [(0, .ref (zad X (2, 0, 0))), (1, .ref (zad X q1)), (2, vi v2), (3, vi s'.1)] [] s'.2) (hx : ∀ x, u = .inr x → zW X T mX6_addTo 25 [] [] x.2) : zW X T mX6_addTo 2 [(0, .ref (zad X (2, 0, 0))), (1, .ref (zad X q1)), (2, vi v2), (3, vi s.1)] [] s.2 := by
  unfold fX6_addTo_l2 at hf
  refine zW_iload_n 3 dX6_addTo_2 rfl ?_
  refine zW_iload_n 2 dX6_addTo_3 rfl ?_
  refine zF_icmp_ge 25 dX6_addTo_4 rfl rfl rfl hf (fun c hf => ?_) (fun c hf => ?_)
  · refine zW_sub [] rfl ?_
    exact hx _ (Option.some.inj hf).symm
  · refine zW_aload_n 1 dX6_addTo_7 rfl ?_
    refine zW_aload_n 0 dX6_addTo_8 rfl ?_
    refine zW_getR (q' := (20, 0, 0)) lk_RX6_18 (hw.1 _ o) rfl rfl (hw.2.1 _ _ _ o rfl) dX6_addTo_9 ?_
    refine zW_iload_n 3 dX6_addTo_12 rfl ?_
    obtain ⟨c1, hf⟩ := zgd hf
    refine zF_iald (hw.1 _ (zokA (r' := 20) o rfl rfl)) rfl c1 rfl dX6_addTo_13 ?_
    refine zW_dup2 dX6_addTo_14 rfl rfl ?_
    obtain ⟨c2, hf⟩ := zgd hf
    refine zF_iald hq1 hk1 c2 rfl dX6_addTo_15 ?_
    refine zW_iconst dX6_addTo_16 ?_
    refine zW_iadd dX6_addTo_17 ?_
    refine zF_iast hq1 hk1 c2 rfl dX6_addTo_18 hf (fun I3 hf => ?_)
    refine zW_iinc 3 (lv' := [(3, vi (s.1 + 1)), (0, .ref (zad X (2, 0, 0))), (1, .ref (zad X q1)), (2, vi v2)]) dX6_addTo_19 rfl rfl rfl ?_
    refine zW_goto 2 dX6_addTo_22 rfl ?_
    refine zW_sub [1, 2, 3, 0] rfl ?_
    exact hk _ (Option.some.inj hf).symm
theorem tX6_addTo_l2 {X : zX} {e : Nat → Prop} (hw : zWf X e) {T : zT} {q1 : zPl} {v2 : Int} (o : zOk e (2, 0, 0)) (hq1 : zDom X q1) (hk1 : zkd q1.1 = (14, 39)) {s0 : (Int × zMem)} {α : Type} {F : (Int × zMem) → Option α} {u : α} (hf : zb (zlp (fX6_addTo_l2 q1 v2) 5000 s0) F = some u) (kx : ∀ x, F x = some u → zW X T mX6_addTo 25 [] [] x.2) : zW X T mX6_addTo 2 [(0, .ref (zad X (2, 0, 0))), (1, .ref (zad X q1)), (2, vi v2), (3, vi s0.1)] [] s0.2 := by
  obtain ⟨x, h, hf⟩ := zb_inv hf
  exact zlp_W (P := fun s => zW X T mX6_addTo 2 [(0, .ref (zad X (2, 0, 0))), (1, .ref (zad X q1)), (2, vi v2), (3, vi s.1)] [] s.2) (E := fun x => zW X T mX6_addTo 25 [] [] x.2) (fun s u h hk hx => tX6_addTo_l2_y hw o hq1 hk1 s h hk hx) _ s0 x h (kx x hf)
set_option maxRecDepth 100000 in
theorem tX6_addTo_0 {X : zX} {e : Nat → Prop} (hw : zWf X e) {q1 : zPl} {v2 : Int} (o : zOk e (2, 0, 0)) (hq1 : zDom X q1) (hk1 : zkd q1.1 = (14, 39)) {I : zMem} {u : zMem} (hf : fX6_addTo q1 v2 I = some u) : zW X (none, u) mX6_addTo 0 [(0, .ref (zad X (2, 0, 0))), (1, .ref (zad X q1)), (2, vi v2)] [] I := by
  unfold fX6_addTo at hf
  refine zW_iconst dX6_addTo_0 ?_
  refine zW_istore_n (lv' := [(3, vi 0), (0, .ref (zad X (2, 0, 0))), (1, .ref (zad X q1)), (2, vi v2)]) dX6_addTo_1 rfl rfl ?_
  refine zW_sub [1, 2, 3, 0] rfl ?_
  refine tX6_addTo_l2 hw o hq1 hk1 (s0 := (0, I)) hf (fun x4 hf => ?_)
  exact zR_v hw rfl dX6_addTo_25 hf
theorem kX6_addTo {X : zX} {e : Nat → Prop} (hw : zWf X e) {q1 : zPl} {v2 : Int} (o : zOk e (2, 0, 0)) (hq1 : zDom X q1) (hk1 : zkd q1.1 = (14, 39)) {I : zMem} {u : zMem} (hf : fX6_addTo q1 v2 I = some u) : zCn X mX6_addTo yX6_addTo [.ref (zad X (2, 0, 0)), .ref (zad X q1), vi v2] I (none, u) := zCn_of (by decide +kernel) rfl rfl ⟨rfl, rfl⟩ (tX6_addTo_0 hw.N o hq1 hk1 hf)
set_option maxRecDepth 100000 in
theorem tX1_restOf_b5_28 {X : zX} {e : Nat → Prop} (hw : zWf X e) {T : zT} {I : zMem} {v0 : Int} {w1 : Int} {w2 : Int}  {u : ((Int × Int) ⊕ (Int × Int))} (hf : fX1_restOf_b5_28 v0 w1 w2 = some u) (hk : ∀ s', u = .inl s' → zW X T mX1_restOf 5 [(1, vi s'.1), (2, vi s'.2)] [] I) (hx : ∀ x, u = .inr x → zW X T mX1_restOf 34 [(1, vi x.1)] [] I) : zW X T mX1_restOf 28 [(1, vi w1), (2, vi w2)] [] I := by
  unfold fX1_restOf_b5_28 at hf
  refine zW_iinc 1 (lv' := [(2, vi (w2 + (-1))), (1, vi w1)]) dX1_restOf_28 rfl rfl rfl ?_
  refine zW_goto 5 dX1_restOf_31 rfl ?_
  refine zW_sub [1, 0] rfl ?_
  exact hk _ (Option.some.inj hf).symm
set_option maxRecDepth 100000 in
theorem tX1_restOf_l5_y {X : zX} {e : Nat → Prop} (hw : zWf X e) {T : zT} {I : zMem} {v0 : Int}  (s : (Int × Int)) {u : ((Int × Int) ⊕ (Int × Int))} (hf : fX1_restOf_l5 v0 s = some u) (hk : ∀ s', u = .inl s' → zW X T mX1_restOf 5 [(1, vi s'.1), (2, vi s'.2)] [] I) (hx : ∀ x, u = .inr x → zW X T mX1_restOf 34 [(1, vi x.1)] [] I) : zW X T mX1_restOf 5 [(1, vi s.1), (2, vi s.2)] [] I := by
  unfold fX1_restOf_l5 at hf
  refine zW_iload_n 1 dX1_restOf_5 rfl ?_
  refine zW_iconst dX1_restOf_6 ?_
  refine zF_icmp_lt 34 dX1_restOf_7 rfl rfl (w32_lit _ rfl) hf (fun c hf => ?_) (fun c hf => ?_)
  · refine zW_sub [0] rfl ?_
    exact hx _ (Option.some.inj hf).symm
  · refine zW_iload_n 0 dX1_restOf_10 rfl ?_
    refine zW_iload_n 1 dX1_restOf_11 rfl ?_
    refine zW_ishr dX1_restOf_12 ?_
    refine zW_iconst dX1_restOf_13 ?_
    refine zW_iand_1 dX1_restOf_14 ?_
    refine zW_iconst dX1_restOf_15 ?_
    refine zF_icmp_ne 28 dX1_restOf_16 rfl (w32_emod _ _ rfl) (w32_lit _ rfl) hf (fun c hf => ?_) (fun c hf => ?_)
    · refine zW_iload_n 0 dX1_restOf_19 rfl ?_
      refine zW_bipush dX1_restOf_20 rfl ?_
      refine zW_iload_n 1 dX1_restOf_22 rfl ?_
      refine zW_iconst dX1_restOf_23 ?_
      refine zW_isub dX1_restOf_24 ?_
      refine zW_ishl dX1_restOf_25 ?_
      refine zW_ixor dX1_restOf_26 ?_
      refine zF_istore_n (lv' := fun a1 => [(1, vi a1), (2, vi s.2)]) dX1_restOf_27 hf (fun _ => rfl) rfl (fun a1 hf => ?_)
      refine zW_sub [0, 1] rfl ?_
      exact tX1_restOf_b5_28 hw  hf hk hx
    · refine zW_sub [0, 1] rfl ?_
      exact tX1_restOf_b5_28 hw  hf hk hx
theorem tX1_restOf_l5 {X : zX} {e : Nat → Prop} (hw : zWf X e) {T : zT} {I : zMem} {v0 : Int}  {s0 : (Int × Int)} {α : Type} {F : (Int × Int) → Option α} {u : α} (hf : zb (zlp (fX1_restOf_l5 v0) 5000 s0) F = some u) (kx : ∀ x, F x = some u → zW X T mX1_restOf 34 [(1, vi x.1)] [] I) : zW X T mX1_restOf 5 [(1, vi s0.1), (2, vi s0.2)] [] I := by
  obtain ⟨x, h, hf⟩ := zb_inv hf
  exact zlp_W (P := fun s => zW X T mX1_restOf 5 [(1, vi s.1), (2, vi s.2)] [] I) (E := fun x => zW X T mX1_restOf 34 [(1, vi x.1)] [] I) (fun s u h hk hx => tX1_restOf_l5_y hw  s h hk hx) _ s0 x h (kx x hf)
set_option maxRecDepth 100000 in
theorem tX1_restOf_0 {X : zX} {e : Nat → Prop} (hw : zWf X e) {v0 : Int}  {I : zMem} {u : Int} (hf : fX1_restOf v0 = some u) : zW X (some (vi u), I) mX1_restOf 0 [(0, vi v0)] [] I := by
  unfold fX1_restOf at hf
  refine zW_iload_n 0 dX1_restOf_0 rfl ?_
  refine zW_istore_n (lv' := [(1, vi v0), (0, vi v0)]) dX1_restOf_1 rfl rfl ?_
  refine zW_bipush dX1_restOf_2 rfl ?_
  refine zW_istore_n (lv' := [(2, vi 10), (1, vi v0), (0, vi v0)]) dX1_restOf_4 rfl rfl ?_
  refine zW_sub [1, 0] rfl ?_
  refine tX1_restOf_l5 hw  (s0 := (v0, 10)) hf (fun x2 hf => ?_)
  refine zW_iload_n 0 dX1_restOf_34 rfl ?_
  exact zS_i hw rfl dX1_restOf_35 hf
theorem kX1_restOf {X : zX} {e : Nat → Prop} (hw : zWf X e) {v0 : Int}  {I : zMem} {u : Int} (hf : fX1_restOf v0 = some u) : zCn X mX1_restOf yX1_restOf [vi v0] I (some (vi u), I) := zCn_of (by decide +kernel) rfl rfl ⟨rfl, rfl⟩ (tX1_restOf_0 hw.N  hf)
set_option maxRecDepth 100000 in
theorem tX1_wholeWord_0 {X : zX} {e : Nat → Prop} (hw : zWf X e) {v0 : Int}  {I : zMem} {u : Int} (hf : fX1_wholeWord v0 = some u) : zW X (some (vi u), I) mX1_wholeWord 0 [(0, vi v0)] [] I := by
  unfold fX1_wholeWord at hf
  refine zW_iload_n 0 dX1_wholeWord_0 rfl ?_
  refine zW_iconst dX1_wholeWord_1 ?_
  refine zW_ishl dX1_wholeWord_2 ?_
  refine zF_istore_n (lv' := fun a1 => [(1, vi a1), (0, vi v0)]) dX1_wholeWord_3 hf (fun _ => rfl) rfl (fun a1 hf => ?_)
  refine zW_iload_n 0 dX1_wholeWord_4 rfl ?_
  refine zW_iload_n 0 dX1_wholeWord_5 rfl ?_
  refine zC_Sri (As := [vi a1]) (fun x hx => kX1_restOf hw (v0 := a1)  hx) ms_RX1_24 rfl rfl rfl rfl dX1_wholeWord_6 hf (fun r2 hf => ?_)
  refine zW_iconst dX1_wholeWord_9 ?_
  refine zW_ixor dX1_wholeWord_10 ?_
  refine zW_ior dX1_wholeWord_11 ?_
  exact zS_i hw rfl dX1_wholeWord_12 hf
theorem kX1_wholeWord {X : zX} {e : Nat → Prop} (hw : zWf X e) {v0 : Int}  {I : zMem} {u : Int} (hf : fX1_wholeWord v0 = some u) : zCn X mX1_wholeWord yX1_wholeWord [vi v0] I (some (vi u), I) := zCn_of (by decide +kernel) rfl rfl ⟨rfl, rfl⟩ (tX1_wholeWord_0 hw.N  hf)
set_option maxRecDepth 100000 in
theorem tX7_wordOn_0 {X : zX} {e : Nat → Prop} (hw : zWf X e) {L : Nat} {L2 : Nat} {p2 : Nat} (o : zOk e (8, L, 0)) (o2 : zOk e (10, L2, p2)) {I : zMem} {u : Int} (hf : fX7_wordOn L L2 p2 I = some u) : zW X (some (vi u), I) mX7_wordOn 0 [(0, .ref (zad X (8, L, 0))), (1, .ref (zad X (10, L2, p2)))] [] I := by
  unfold fX7_wordOn at hf
  refine zW_aload_n 1 dX7_wordOn_0 rfl ?_
  refine zW_getI lk_RX7_71 (hw.1 _ o2) rfl rfl dX7_wordOn_1 ?_
  refine zW_iconst dX7_wordOn_4 ?_
  refine zW_ishl dX7_wordOn_5 ?_
  refine zW_aload_n 0 dX7_wordOn_6 rfl ?_
  refine zW_getR (q' := (34, L, 0)) lk_RX7_21 (hw.1 _ o) rfl rfl (hw.2.1 _ _ _ o rfl) dX7_wordOn_7 ?_
  refine zW_aload_n 1 dX7_wordOn_10 rfl ?_
  refine zW_getI lk_RX7_71 (hw.1 _ o2) rfl rfl dX7_wordOn_11 ?_
  obtain ⟨c1, hf⟩ := zgd hf
  refine zF_iald (hw.1 _ (zokB (r' := 34) o rfl rfl)) rfl c1 rfl dX7_wordOn_14 ?_
  refine zW_ior dX7_wordOn_15 ?_
  refine zC_Sri (As := [vi (ior (ishl (I (10, L2, p2) 0) 5) (I (34, L, 0) (ix (I (10, L2, p2) 0))))]) (fun x hx => kX1_wholeWord hw (v0 := ior (ishl (I (10, L2, p2) 0) 5) (I (34, L, 0) (ix (I (10, L2, p2) 0))))  hx) ms_RX7_74 rfl rfl rfl rfl dX7_wordOn_16 hf (fun r2 hf => ?_)
  exact zS_i hw rfl dX7_wordOn_19 hf
theorem kX7_wordOn {X : zX} {e : Nat → Prop} (hw : zWf X e) {L : Nat} {L2 : Nat} {p2 : Nat} (o : zOk e (8, L, 0)) (o2 : zOk e (10, L2, p2)) {I : zMem} {u : Int} (hf : fX7_wordOn L L2 p2 I = some u) : zCn X mX7_wordOn yX7_wordOn [.ref (zad X (8, L, 0)), .ref (zad X (10, L2, p2))] I (some (vi u), I) := zCn_of (by decide +kernel) rfl rfl ⟨rfl, rfl⟩ (tX7_wordOn_0 hw.N o o2 hf)
set_option maxRecDepth 100000 in
theorem tX1_isOne_0 {X : zX} {e : Nat → Prop} (hw : zWf X e) {v0 : Int} {v2 : Int}  {I : zMem} {u : Int} (hf : fX1_isOne v0 v2 = some u) : zW X (some (vi u), I) mX1_isOne 0 [(0, vl v0), (2, vi v2)] [] I := by
  unfold fX1_isOne at hf
  refine zW_lload_n 0 dX1_isOne_0 rfl ?_
  refine zW_iload_n 1 dX1_isOne_1 rfl ?_
  refine zW_lshr dX1_isOne_2 ?_
  refine zW_lconst1 dX1_isOne_3 ?_
  refine zW_land dX1_isOne_4 ?_
  refine zW_lconst1 dX1_isOne_5 ?_
  refine zF_lcmp_ne 14 dX1_isOne_6 dX1_isOne_7 rfl rfl (w64_lit _ rfl) hf (fun c hf => ?_) (fun c hf => ?_)
  · refine zW_iconst dX1_isOne_10 ?_
    refine zW_goto 15 dX1_isOne_11 rfl ?_
    exact zS_z hw rfl (Or.inr rfl) dX1_isOne_15 hf
  · refine zW_iconst dX1_isOne_14 ?_
    exact zS_z hw rfl (Or.inl rfl) dX1_isOne_15 hf
theorem kX1_isOne {X : zX} {e : Nat → Prop} (hw : zWf X e) {v0 : Int} {v2 : Int}  {I : zMem} {u : Int} (hf : fX1_isOne v0 v2 = some u) : zCn X mX1_isOne yX1_isOne [vl v0, vi v2] I (some (vi u), I) := zCn_of (by decide +kernel) rfl rfl ⟨rfl, rfl⟩ (tX1_isOne_0 hw.N  hf)
set_option maxRecDepth 100000 in
theorem tX3_begin_0 {X : zX} {e : Nat → Prop} (hw : zWf X e) {L : Nat} {p : Nat} {v1 : Int} (o : zOk e (11, L, p)) {I : zMem} {u : zMem} (hf : fX3_begin L p v1 I = some u) : zW X (none, u) mX3_begin 0 [(0, .ref (zad X (11, L, p))), (1, vi v1)] [] I := by
  unfold fX3_begin at hf
  refine zW_aload_n 0 dX3_begin_0 rfl ?_
  refine zW_iload_n 1 dX3_begin_1 rfl ?_
  refine zF_put lk_RX3_9 (hw.1 _ o) rfl rfl (zn_int _) dX3_begin_2 hf (fun I1 hf => ?_)
  refine zW_aload_n 0 dX3_begin_5 rfl ?_
  refine zW_iconst dX3_begin_6 ?_
  refine zF_put lk_RX3_19 (hw.1 _ o) rfl rfl (zn_int _) dX3_begin_7 hf (fun I2 hf => ?_)
  refine zW_aload_n 0 dX3_begin_10 rfl ?_
  refine zW_iconst dX3_begin_11 ?_
  refine zF_put lk_RX3_22 (hw.1 _ o) rfl rfl (zn_bool (Or.inl rfl)) dX3_begin_12 hf (fun I3 hf => ?_)
  refine zW_aload_n 0 dX3_begin_15 rfl ?_
  refine zW_getR (q' := (41, L, p)) lk_RX3_15 (hw.1 _ o) rfl rfl (hw.2.1 _ _ _ o rfl) dX3_begin_16 ?_
  refine zW_iconst dX3_begin_19 ?_
  refine zC_Swv (As := [.ref (zad X (41, L, p)), vi 0]) (fun x hx => kJ7_fill_53178 hw (q0 := (41, L, p)) (n0 := 39) (v1 := 0) (hw.1 _ (zokC (r' := 41) o rfl rfl)) rfl hx) ms_RX3_26 rfl rfl rfl rfl dX3_begin_20 hf (fun r4 hf => ?_)
  exact zR_v hw rfl dX3_begin_23 hf
theorem kX3_begin {X : zX} {e : Nat → Prop} (hw : zWf X e) {L : Nat} {p : Nat} {v1 : Int} (o : zOk e (11, L, p)) {I : zMem} {u : zMem} (hf : fX3_begin L p v1 I = some u) : zCn X mX3_begin yX3_begin [.ref (zad X (11, L, p)), vi v1] I (none, u) := zCn_of (by decide +kernel) rfl rfl ⟨rfl, rfl⟩ (tX3_begin_0 hw.N o hf)
set_option maxRecDepth 100000 in
theorem tX2_measure_l2_y {X : zX} {e : Nat → Prop} (hw : zWf X e) {T : zT} {q1 : zPl} (o : zOk e (4, 0, 0)) (hq1 : zDom X q1) (hk1 : zkd q1.1 = (14, 39)) (s : (Int × zMem)) {u : ((Int × zMem) ⊕ (Int × zMem))} (hf : fX2_measure_l2 q1 s = some u) (hk : ∀ s', u = .inl s' → zW X T mX2_measure 2 [(0, .ref (zad X (4, 0, 0))), (1, .ref (zad X q1)), (2, vi s'.1)] [] s'.2) (hx : ∀ x, u = .inr x → zW X T mX2_measure 172 [] [] x.2) : zW X T mX2_measure 2 [(0, .ref (zad X (4, 0, 0))), (1, .ref (zad X q1)), (2, vi s.1)] [] s.2 := by
  unfold fX2_measure_l2 at hf
  refine zW_iload_n 2 dX2_measure_2 rfl ?_
  refine zW_bipush dX2_measure_3 rfl ?_
  refine zF_icmp_ge 172 dX2_measure_5 rfl rfl (w32_lit _ rfl) hf (fun c hf => ?_) (fun c hf => ?_)
  · refine zW_sub [] rfl ?_
    exact hx _ (Option.some.inj hf).symm
  · refine zW_aload_n 1 dX2_measure_8 rfl ?_
    refine zW_iload_n 2 dX2_measure_9 rfl ?_
    obtain ⟨c1, hf⟩ := zgd hf
    refine zF_iald hq1 hk1 c1 rfl dX2_measure_10 ?_
    refine zF_istore_n (lv' := fun a2 => [(3, vi a2), (0, .ref (zad X (4, 0, 0))), (1, .ref (zad X q1)), (2, vi s.1)]) dX2_measure_11 hf (fun _ => rfl) rfl (fun a2 hf => ?_)
    refine zW_aload_n 2 dX2_measure_12 rfl ?_
    refine zW_bipush dX2_measure_13 rfl ?_
    refine zW_iload_n 3 dX2_measure_15 rfl ?_
    refine zW_iadd dX2_measure_16 ?_
    obtain ⟨c3, hf⟩ := zgd hf
    refine zF_iald hq1 hk1 c3 rfl dX2_measure_17 ?_
    refine zF_istore (lv' := fun a4 => [(4, vi a4), (3, vi a2), (0, .ref (zad X (4, 0, 0))), (1, .ref (zad X q1)), (2, vi s.1)]) dX2_measure_18 hf (fun _ => rfl) rfl (fun a4 hf => ?_)
    refine zW_aload_n 3 dX2_measure_20 rfl ?_
    refine zW_bipush dX2_measure_21 rfl ?_
    refine zW_iload_n 4 dX2_measure_23 rfl ?_
    refine zW_iadd dX2_measure_24 ?_
    obtain ⟨c5, hf⟩ := zgd hf
    refine zF_iald hq1 hk1 c5 rfl dX2_measure_25 ?_
    refine zF_istore (lv' := fun a6 => [(5, vi a6), (4, vi a4), (3, vi a2), (0, .ref (zad X (4, 0, 0))), (1, .ref (zad X q1)), (2, vi s.1)]) dX2_measure_26 hf (fun _ => rfl) rfl (fun a6 hf => ?_)
    refine zW_bipush dX2_measure_28 rfl ?_
    refine zW_iload_n 5 dX2_measure_30 rfl ?_
    refine zW_imul dX2_measure_31 ?_
    refine zF_istore (lv' := fun a7 => [(6, vi a7), (5, vi a6), (4, vi a4), (3, vi a2), (0, .ref (zad X (4, 0, 0))), (1, .ref (zad X q1)), (2, vi s.1)]) dX2_measure_32 hf (fun _ => rfl) rfl (fun a7 hf => ?_)
    refine zW_aload_n 4 dX2_measure_34 rfl ?_
    refine zW_getR (q' := (22, 0, 0)) lk_RX2_9 (hw.1 _ o) rfl rfl (hw.2.1 _ _ _ o rfl) dX2_measure_35 ?_
    refine zW_iload 0 dX2_measure_38 rfl ?_
    refine zW_iload_n 3 dX2_measure_40 rfl ?_
    refine zW_ineg dX2_measure_41 ?_
    refine zW_iload 2 dX2_measure_42 rfl ?_
    refine zW_isub dX2_measure_44 ?_
    refine zW_iload 1 dX2_measure_45 rfl ?_
    refine zW_isub dX2_measure_47 ?_
    obtain ⟨c8, hf⟩ := zgd hf
    refine zF_iast (hw.1 _ (zokA (r' := 22) o rfl rfl)) rfl c8 rfl dX2_measure_48 hf (fun I9 hf => ?_)
    refine zW_aload_n 4 dX2_measure_49 rfl ?_
    refine zW_getR (q' := (22, 0, 0)) lk_RX2_9 (hw.1 _ o) rfl rfl (hw.2.1 _ _ _ o rfl) dX2_measure_50 ?_
    refine zW_iload 0 dX2_measure_53 rfl ?_
    refine zW_iconst dX2_measure_55 ?_
    refine zW_iadd dX2_measure_56 ?_
    refine zW_iload_n 3 dX2_measure_57 rfl ?_
    refine zW_iload 2 dX2_measure_58 rfl ?_
    refine zW_iadd dX2_measure_60 ?_
    refine zW_iload 1 dX2_measure_61 rfl ?_
    refine zW_iadd dX2_measure_63 ?_
    obtain ⟨c10, hf⟩ := zgd hf
    refine zF_iast (hw.1 _ (zokA (r' := 22) o rfl rfl)) rfl c10 rfl dX2_measure_64 hf (fun I11 hf => ?_)
    refine zW_aload_n 4 dX2_measure_65 rfl ?_
    refine zW_getR (q' := (22, 0, 0)) lk_RX2_9 (hw.1 _ o) rfl rfl (hw.2.1 _ _ _ o rfl) dX2_measure_66 ?_
    refine zW_iload 0 dX2_measure_69 rfl ?_
    refine zW_iconst dX2_measure_71 ?_
    refine zW_iadd dX2_measure_72 ?_
    refine zW_iload_n 3 dX2_measure_73 rfl ?_
    refine zW_ineg dX2_measure_74 ?_
    refine zW_iload 2 dX2_measure_75 rfl ?_
    refine zW_iadd dX2_measure_77 ?_
    refine zW_iload 1 dX2_measure_78 rfl ?_
    refine zW_isub dX2_measure_80 ?_
    obtain ⟨c12, hf⟩ := zgd hf
    refine zF_iast (hw.1 _ (zokA (r' := 22) o rfl rfl)) rfl c12 rfl dX2_measure_81 hf (fun I13 hf => ?_)
    refine zW_aload_n 4 dX2_measure_82 rfl ?_
    refine zW_getR (q' := (22, 0, 0)) lk_RX2_9 (hw.1 _ o) rfl rfl (hw.2.1 _ _ _ o rfl) dX2_measure_83 ?_
    refine zW_iload 0 dX2_measure_86 rfl ?_
    refine zW_iconst dX2_measure_88 ?_
    refine zW_iadd dX2_measure_89 ?_
    refine zW_iload_n 3 dX2_measure_90 rfl ?_
    refine zW_iload 2 dX2_measure_91 rfl ?_
    refine zW_isub dX2_measure_93 ?_
    refine zW_iload 1 dX2_measure_94 rfl ?_
    refine zW_iadd dX2_measure_96 ?_
    obtain ⟨c14, hf⟩ := zgd hf
    refine zF_iast (hw.1 _ (zokA (r' := 22) o rfl rfl)) rfl c14 rfl dX2_measure_97 hf (fun I15 hf => ?_)
    refine zW_aload_n 4 dX2_measure_98 rfl ?_
    refine zW_getR (q' := (22, 0, 0)) lk_RX2_9 (hw.1 _ o) rfl rfl (hw.2.1 _ _ _ o rfl) dX2_measure_99 ?_
    refine zW_iload 0 dX2_measure_102 rfl ?_
    refine zW_iconst dX2_measure_104 ?_
    refine zW_iadd dX2_measure_105 ?_
    refine zW_iload_n 3 dX2_measure_106 rfl ?_
    refine zW_ineg dX2_measure_107 ?_
    refine zW_iload 2 dX2_measure_108 rfl ?_
    refine zW_iadd dX2_measure_110 ?_
    refine zW_iload 1 dX2_measure_111 rfl ?_
    refine zW_iadd dX2_measure_113 ?_
    obtain ⟨c16, hf⟩ := zgd hf
    refine zF_iast (hw.1 _ (zokA (r' := 22) o rfl rfl)) rfl c16 rfl dX2_measure_114 hf (fun I17 hf => ?_)
    refine zW_aload_n 4 dX2_measure_115 rfl ?_
    refine zW_getR (q' := (22, 0, 0)) lk_RX2_9 (hw.1 _ o) rfl rfl (hw.2.1 _ _ _ o rfl) dX2_measure_116 ?_
    refine zW_iload 0 dX2_measure_119 rfl ?_
    refine zW_iconst dX2_measure_121 ?_
    refine zW_iadd dX2_measure_122 ?_
    refine zW_iload_n 3 dX2_measure_123 rfl ?_
    refine zW_iload 2 dX2_measure_124 rfl ?_
    refine zW_isub dX2_measure_126 ?_
    refine zW_iload 1 dX2_measure_127 rfl ?_
    refine zW_isub dX2_measure_129 ?_
    obtain ⟨c18, hf⟩ := zgd hf
    refine zF_iast (hw.1 _ (zokA (r' := 22) o rfl rfl)) rfl c18 rfl dX2_measure_130 hf (fun I19 hf => ?_)
    refine zW_aload_n 4 dX2_measure_131 rfl ?_
    refine zW_getR (q' := (22, 0, 0)) lk_RX2_9 (hw.1 _ o) rfl rfl (hw.2.1 _ _ _ o rfl) dX2_measure_132 ?_
    refine zW_iload 0 dX2_measure_135 rfl ?_
    refine zW_bipush dX2_measure_137 rfl ?_
    refine zW_iadd dX2_measure_139 ?_
    refine zW_iload_n 3 dX2_measure_140 rfl ?_
    refine zW_ineg dX2_measure_141 ?_
    refine zW_iload 2 dX2_measure_142 rfl ?_
    refine zW_isub dX2_measure_144 ?_
    refine zW_iload 1 dX2_measure_145 rfl ?_
    refine zW_iadd dX2_measure_147 ?_
    obtain ⟨c20, hf⟩ := zgd hf
    refine zF_iast (hw.1 _ (zokA (r' := 22) o rfl rfl)) rfl c20 rfl dX2_measure_148 hf (fun I21 hf => ?_)
    refine zW_aload_n 4 dX2_measure_149 rfl ?_
    refine zW_getR (q' := (22, 0, 0)) lk_RX2_9 (hw.1 _ o) rfl rfl (hw.2.1 _ _ _ o rfl) dX2_measure_150 ?_
    refine zW_iload 0 dX2_measure_153 rfl ?_
    refine zW_bipush dX2_measure_155 rfl ?_
    refine zW_iadd dX2_measure_157 ?_
    refine zW_iload_n 3 dX2_measure_158 rfl ?_
    refine zW_iload 2 dX2_measure_159 rfl ?_
    refine zW_iadd dX2_measure_161 ?_
    refine zW_iload 1 dX2_measure_162 rfl ?_
    refine zW_isub dX2_measure_164 ?_
    obtain ⟨c22, hf⟩ := zgd hf
    refine zF_iast (hw.1 _ (zokA (r' := 22) o rfl rfl)) rfl c22 rfl dX2_measure_165 hf (fun I23 hf => ?_)
    refine zW_iinc 6 (lv' := [(2, vi (s.1 + 1)), (6, vi a7), (5, vi a6), (4, vi a4), (3, vi a2), (0, .ref (zad X (4, 0, 0))), (1, .ref (zad X q1))]) dX2_measure_166 rfl rfl rfl ?_
    refine zW_goto 2 dX2_measure_169 rfl ?_
    refine zW_sub [5, 6, 0] rfl ?_
    exact hk _ (Option.some.inj hf).symm
theorem tX2_measure_l2 {X : zX} {e : Nat → Prop} (hw : zWf X e) {T : zT} {q1 : zPl} (o : zOk e (4, 0, 0)) (hq1 : zDom X q1) (hk1 : zkd q1.1 = (14, 39)) {s0 : (Int × zMem)} {α : Type} {F : (Int × zMem) → Option α} {u : α} (hf : zb (zlp (fX2_measure_l2 q1) 5000 s0) F = some u) (kx : ∀ x, F x = some u → zW X T mX2_measure 172 [] [] x.2) : zW X T mX2_measure 2 [(0, .ref (zad X (4, 0, 0))), (1, .ref (zad X q1)), (2, vi s0.1)] [] s0.2 := by
  obtain ⟨x, h, hf⟩ := zb_inv hf
  exact zlp_W (P := fun s => zW X T mX2_measure 2 [(0, .ref (zad X (4, 0, 0))), (1, .ref (zad X q1)), (2, vi s.1)] [] s.2) (E := fun x => zW X T mX2_measure 172 [] [] x.2) (fun s u h hk hx => tX2_measure_l2_y hw o hq1 hk1 s h hk hx) _ s0 x h (kx x hf)
set_option maxRecDepth 100000 in
theorem tX2_measure_0 {X : zX} {e : Nat → Prop} (hw : zWf X e) {q1 : zPl} (o : zOk e (4, 0, 0)) (hq1 : zDom X q1) (hk1 : zkd q1.1 = (14, 39)) {I : zMem} {u : zMem} (hf : fX2_measure q1 I = some u) : zW X (none, u) mX2_measure 0 [(0, .ref (zad X (4, 0, 0))), (1, .ref (zad X q1))] [] I := by
  unfold fX2_measure at hf
  refine zW_iconst dX2_measure_0 ?_
  refine zW_istore_n (lv' := [(2, vi 0), (0, .ref (zad X (4, 0, 0))), (1, .ref (zad X q1))]) dX2_measure_1 rfl rfl ?_
  refine zW_sub [1, 2, 0] rfl ?_
  refine tX2_measure_l2 hw o hq1 hk1 (s0 := (0, I)) hf (fun x24 hf => ?_)
  exact zR_v hw rfl dX2_measure_172 hf
theorem kX2_measure {X : zX} {e : Nat → Prop} (hw : zWf X e) {q1 : zPl} (o : zOk e (4, 0, 0)) (hq1 : zDom X q1) (hk1 : zkd q1.1 = (14, 39)) {I : zMem} {u : zMem} (hf : fX2_measure q1 I = some u) : zCn X mX2_measure yX2_measure [.ref (zad X (4, 0, 0)), .ref (zad X q1)] I (none, u) := zCn_of (by decide +kernel) rfl rfl ⟨rfl, rfl⟩ (tX2_measure_0 hw.N o hq1 hk1 hf)
set_option maxRecDepth 100000 in
theorem tX2_extend_b127 {X : zX} {e : Nat → Prop} (hw : zWf X e) {v1 : Int} {v2 : Int} {k0 : Int} {k1 : Int} {I : zMem} (o : zOk e (4, 0, 0)) (ko2 : zOk e (27, 0, 0)) {u : zMem} (hf : fX2_extend_b127 v1 v2 k0 k1 I = some u) : zW X (none, u) mX2_extend 127 [(1, vi v1)] [vi k0, vi k1, .ref (zad X (27, 0, 0))] I := by
  unfold fX2_extend_b127 at hf
  refine zW_iconst dX2_extend_127 ?_
  refine zW_ishl dX2_extend_128 ?_
  refine zW_iload_n 0 dX2_extend_129 rfl ?_
  refine zW_iconst dX2_extend_130 ?_
  refine zW_iand_1 dX2_extend_131 ?_
  refine zW_ior dX2_extend_132 ?_
  obtain ⟨c12, hf⟩ := zgd hf
  refine zF_iast (hw.1 _ ko2) rfl c12 rfl dX2_extend_133 hf (fun I13 hf => ?_)
  exact zR_v hw rfl dX2_extend_134 hf
set_option maxRecDepth 100000 in
theorem tX2_extend_b100 {X : zX} {e : Nat → Prop} (hw : zWf X e) {v1 : Int} {v2 : Int} {w3 : Int} {w4 : Int} {w7 : Int} {k0 : Int} {k1 : Int} {I : zMem} (o : zOk e (4, 0, 0)) (ko2 : zOk e (26, 0, 0)) {u : zMem} (hf : fX2_extend_b100 v1 v2 w3 w4 w7 k0 k1 I = some u) : zW X (none, u) mX2_extend 100 [(0, .ref (zad X (4, 0, 0))), (1, vi v1), (3, vi w3), (4, vi w4), (7, vi w7)] [vi k0, vi k1, .ref (zad X (26, 0, 0))] I := by
  unfold fX2_extend_b100 at hf
  obtain ⟨c9, hf⟩ := zgd hf
  refine zF_iast (hw.1 _ ko2) rfl c9 rfl dX2_extend_100 hf (fun I10 hf => ?_)
  refine zW_aload_n 0 dX2_extend_101 rfl ?_
  refine zW_getR (q' := (27, 0, 0)) lk_RX2_27 (hw.1 _ o) rfl rfl (hw.2.1 _ _ _ o rfl) dX2_extend_102 ?_
  refine zW_iload_n 1 dX2_extend_105 rfl ?_
  refine zW_iload 4 dX2_extend_106 rfl ?_
  refine zF_if_eq 120 dX2_extend_108 rfl rfl hf (fun c hf => ?_) (fun c hf => ?_)
  · refine zW_aload_n 0 dX2_extend_120 rfl ?_
    refine zW_getR (q' := (25, 0, 0)) lk_RX2_21 (hw.1 _ o) rfl rfl (hw.2.1 _ _ _ o rfl) dX2_extend_121 ?_
    refine zW_iload 3 dX2_extend_124 rfl ?_
    obtain ⟨c11, hf⟩ := zgd hf
    refine zF_iald (hw.1 _ (zokA (r' := 25) o rfl rfl)) rfl c11 rfl dX2_extend_126 ?_
    refine zW_sub [1] rfl ?_
    exact tX2_extend_b127 hw o (zokA (r' := 27) o rfl rfl) hf
  · refine zW_aload_n 0 dX2_extend_111 rfl ?_
    refine zW_getR (q' := (25, 0, 0)) lk_RX2_21 (hw.1 _ o) rfl rfl (hw.2.1 _ _ _ o rfl) dX2_extend_112 ?_
    refine zW_iload_n 2 dX2_extend_115 rfl ?_
    obtain ⟨c14, hf⟩ := zgd hf
    refine zF_iald (hw.1 _ (zokA (r' := 25) o rfl rfl)) rfl c14 rfl dX2_extend_116 ?_
    refine zW_goto 127 dX2_extend_117 rfl ?_
    refine zW_sub [1] rfl ?_
    exact tX2_extend_b127 hw o (zokA (r' := 27) o rfl rfl) hf
set_option maxRecDepth 100000 in
theorem tX2_extend_b81 {X : zX} {e : Nat → Prop} (hw : zWf X e) {v1 : Int} {v2 : Int} {w3 : Int} {w4 : Int} {w5 : Int} {w6 : Int} {k0 : Int} {I : zMem} (o : zOk e (4, 0, 0)) {u : zMem} (hf : fX2_extend_b81 v1 v2 w3 w4 w5 w6 k0 I = some u) : zW X (none, u) mX2_extend 81 [(0, .ref (zad X (4, 0, 0))), (1, vi v1), (3, vi w3), (4, vi w4), (5, vi w5), (6, vi w6)] [vi k0] I := by
  unfold fX2_extend_b81 at hf
  refine zW_istore (lv' := [(7, vi k0), (0, .ref (zad X (4, 0, 0))), (1, vi v1), (3, vi w3), (4, vi w4), (5, vi w5), (6, vi w6)]) dX2_extend_81 rfl rfl ?_
  refine zW_aload_n 1 dX2_extend_83 rfl ?_
  refine zW_getR (q' := (26, 0, 0)) lk_RX2_24 (hw.1 _ o) rfl rfl (hw.2.1 _ _ _ o rfl) dX2_extend_84 ?_
  refine zW_iload_n 2 dX2_extend_87 rfl ?_
  refine zW_iload 0 dX2_extend_88 rfl ?_
  refine zF_if_eq 98 dX2_extend_90 rfl rfl hf (fun c hf => ?_) (fun c hf => ?_)
  · refine zW_iload 6 dX2_extend_98 rfl ?_
    refine zW_sub [1, 2, 3, 4, 0] rfl ?_
    exact tX2_extend_b100 hw o (zokA (r' := 26) o rfl rfl) hf
  · refine zW_iload 5 dX2_extend_93 rfl ?_
    refine zW_goto 100 dX2_extend_95 rfl ?_
    refine zW_sub [1, 2, 3, 4, 0] rfl ?_
    exact tX2_extend_b100 hw o (zokA (r' := 26) o rfl rfl) hf
set_option maxRecDepth 100000 in
theorem tX2_extend_b76 {X : zX} {e : Nat → Prop} (hw : zWf X e) {v1 : Int} {v2 : Int} {w3 : Int} {w4 : Int} {w5 : Int} {w6 : Int} {I : zMem} (o : zOk e (4, 0, 0)) {u : zMem} (hf : fX2_extend_b76 v1 v2 w3 w4 w5 w6 I = some u) : zW X (none, u) mX2_extend 76 [(0, .ref (zad X (4, 0, 0))), (1, vi v1), (3, vi w3), (4, vi w4), (5, vi w5), (6, vi w6)] [] I := by
  unfold fX2_extend_b76 at hf
  refine zW_iconst dX2_extend_76 ?_
  refine zW_goto 81 dX2_extend_77 rfl ?_
  refine zW_sub [0, 1, 2, 3, 4, 5] rfl ?_
  exact tX2_extend_b81 hw o hf
set_option maxRecDepth 100000 in
theorem tX2_extend_b80 {X : zX} {e : Nat → Prop} (hw : zWf X e) {v1 : Int} {v2 : Int} {w3 : Int} {w4 : Int} {w5 : Int} {w6 : Int} {I : zMem} (o : zOk e (4, 0, 0)) {u : zMem} (hf : fX2_extend_b80 v1 v2 w3 w4 w5 w6 I = some u) : zW X (none, u) mX2_extend 80 [(0, .ref (zad X (4, 0, 0))), (1, vi v1), (3, vi w3), (4, vi w4), (5, vi w5), (6, vi w6)] [] I := by
  unfold fX2_extend_b80 at hf
  refine zW_iconst dX2_extend_80 ?_
  refine zW_sub [0, 1, 2, 3, 4, 5] rfl ?_
  exact tX2_extend_b81 hw o hf
set_option maxRecDepth 100000 in
theorem tX2_extend_0 {X : zX} {e : Nat → Prop} (hw : zWf X e) {v1 : Int} {v2 : Int} (o : zOk e (4, 0, 0)) {I : zMem} {u : zMem} (hf : fX2_extend v1 v2 I = some u) : zW X (none, u) mX2_extend 0 [(0, .ref (zad X (4, 0, 0))), (1, vi v1), (2, vi v2)] [] I := by
  unfold fX2_extend at hf
  refine zW_iload_n 1 dX2_extend_0 rfl ?_
  refine zW_iconst dX2_extend_1 ?_
  refine zW_ishr dX2_extend_2 ?_
  refine zF_istore_n (lv' := fun a1 => [(3, vi a1), (0, .ref (zad X (4, 0, 0))), (1, vi v1), (2, vi v2)]) dX2_extend_3 hf (fun _ => rfl) rfl (fun a1 hf => ?_)
  refine zW_iload_n 0 dX2_extend_4 rfl ?_
  refine zW_iconst dX2_extend_5 ?_
  refine zW_iadd dX2_extend_6 ?_
  refine zF_istore (lv' := fun a2 => [(4, vi a2), (3, vi a1), (0, .ref (zad X (4, 0, 0))), (1, vi v1), (2, vi v2)]) dX2_extend_7 hf (fun _ => rfl) rfl (fun a2 hf => ?_)
  refine zW_aload_n 2 dX2_extend_9 rfl ?_
  refine zW_getR (q' := (24, 0, 0)) lk_RX2_18 (hw.1 _ o) rfl rfl (hw.2.1 _ _ _ o rfl) dX2_extend_10 ?_
  refine zW_iload_n 1 dX2_extend_13 rfl ?_
  obtain ⟨c3, hf⟩ := zgd hf
  refine zF_iald (hw.1 _ (zokA (r' := 24) o rfl rfl)) rfl c3 rfl dX2_extend_14 ?_
  refine zW_aload_n 2 dX2_extend_15 rfl ?_
  refine zW_getR (q' := (22, 0, 0)) lk_RX2_9 (hw.1 _ o) rfl rfl (hw.2.1 _ _ _ o rfl) dX2_extend_16 ?_
  refine zW_iload_n 4 dX2_extend_19 rfl ?_
  refine zW_iload_n 3 dX2_extend_20 rfl ?_
  refine zW_iadd dX2_extend_21 ?_
  obtain ⟨c4, hf⟩ := zgd hf
  refine zF_iald (hw.1 _ (zokA (r' := 22) o rfl rfl)) rfl c4 rfl dX2_extend_22 ?_
  refine zW_iadd dX2_extend_23 ?_
  refine zF_istore (lv' := fun a5 => [(5, vi a5), (4, vi a2), (3, vi a1), (0, .ref (zad X (4, 0, 0))), (1, vi v1), (2, vi v2)]) dX2_extend_24 hf (fun _ => rfl) rfl (fun a5 hf => ?_)
  refine zW_aload_n 3 dX2_extend_26 rfl ?_
  refine zW_getR (q' := (24, 0, 0)) lk_RX2_18 (hw.1 _ o) rfl rfl (hw.2.1 _ _ _ o rfl) dX2_extend_27 ?_
  refine zW_iload 1 dX2_extend_30 rfl ?_
  obtain ⟨c6, hf⟩ := zgd hf
  refine zF_iald (hw.1 _ (zokA (r' := 24) o rfl rfl)) rfl c6 rfl dX2_extend_32 ?_
  refine zW_aload_n 3 dX2_extend_33 rfl ?_
  refine zW_getR (q' := (22, 0, 0)) lk_RX2_9 (hw.1 _ o) rfl rfl (hw.2.1 _ _ _ o rfl) dX2_extend_34 ?_
  refine zW_iload_n 5 dX2_extend_37 rfl ?_
  refine zW_iload_n 4 dX2_extend_38 rfl ?_
  refine zW_iadd dX2_extend_39 ?_
  refine zW_iconst dX2_extend_40 ?_
  refine zW_iadd dX2_extend_41 ?_
  obtain ⟨c7, hf⟩ := zgd hf
  refine zF_iald (hw.1 _ (zokA (r' := 22) o rfl rfl)) rfl c7 rfl dX2_extend_42 ?_
  refine zW_iadd dX2_extend_43 ?_
  refine zF_istore (lv' := fun a8 => [(6, vi a8), (5, vi a5), (4, vi a2), (3, vi a1), (0, .ref (zad X (4, 0, 0))), (1, vi v1), (2, vi v2)]) dX2_extend_44 hf (fun _ => rfl) rfl (fun a8 hf => ?_)
  refine zW_iload 1 dX2_extend_46 rfl ?_
  refine zW_iload 0 dX2_extend_48 rfl ?_
  refine zF_icmp_gt 76 dX2_extend_50 rfl rfl rfl hf (fun c hf => ?_) (fun c hf => ?_)
  · refine zW_sub [4, 5, 3, 2, 1, 0] rfl ?_
    exact tX2_extend_b76 hw o hf
  · refine zW_iload 1 dX2_extend_53 rfl ?_
    refine zW_iload 0 dX2_extend_55 rfl ?_
    refine zF_icmp_ne 80 dX2_extend_57 rfl rfl rfl hf (fun c hf => ?_) (fun c hf => ?_)
    · refine zW_aload_n 4 dX2_extend_60 rfl ?_
      refine zW_getR (q' := (25, 0, 0)) lk_RX2_21 (hw.1 _ o) rfl rfl (hw.2.1 _ _ _ o rfl) dX2_extend_61 ?_
      refine zW_iload_n 3 dX2_extend_64 rfl ?_
      refine zF_iald (hw.1 _ (zokA (r' := 25) o rfl rfl)) rfl c3 rfl dX2_extend_65 ?_
      refine zW_aload_n 4 dX2_extend_66 rfl ?_
      refine zW_getR (q' := (25, 0, 0)) lk_RX2_21 (hw.1 _ o) rfl rfl (hw.2.1 _ _ _ o rfl) dX2_extend_67 ?_
      refine zW_iload 2 dX2_extend_70 rfl ?_
      refine zF_iald (hw.1 _ (zokA (r' := 25) o rfl rfl)) rfl c6 rfl dX2_extend_72 ?_
      refine zF_icmp_ge 80 dX2_extend_73 rfl rfl rfl hf (fun c hf => ?_) (fun c hf => ?_)
      · refine zW_sub [4, 5, 3, 2, 1, 0] rfl ?_
        exact tX2_extend_b80 hw o hf
      · refine zW_sub [4, 5, 3, 2, 1, 0] rfl ?_
        exact tX2_extend_b76 hw o hf
    · refine zW_sub [4, 5, 3, 2, 1, 0] rfl ?_
      exact tX2_extend_b80 hw o hf
theorem kX2_extend {X : zX} {e : Nat → Prop} (hw : zWf X e) {v1 : Int} {v2 : Int} (o : zOk e (4, 0, 0)) {I : zMem} {u : zMem} (hf : fX2_extend v1 v2 I = some u) : zCn X mX2_extend yX2_extend [.ref (zad X (4, 0, 0)), vi v1, vi v2] I (none, u) := zCn_of (by decide +kernel) rfl rfl ⟨rfl, rfl⟩ (tX2_extend_0 hw.N o hf)
set_option maxRecDepth 100000 in
theorem tX2_tailGain_0 {X : zX} {e : Nat → Prop} (hw : zWf X e) {v1 : Int} (o : zOk e (4, 0, 0)) {I : zMem} {u : Int} (hf : fX2_tailGain v1 I = some u) : zW X (some (vi u), I) mX2_tailGain 0 [(0, .ref (zad X (4, 0, 0))), (1, vi v1)] [] I := by
  unfold fX2_tailGain at hf
  refine zW_aload_n 0 dX2_tailGain_0 rfl ?_
  refine zW_getR (q' := (22, 0, 0)) lk_RX2_9 (hw.1 _ o) rfl rfl (hw.2.1 _ _ _ o rfl) dX2_tailGain_1 ?_
  refine zW_bipush dX2_tailGain_4 rfl ?_
  refine zW_iload_n 1 dX2_tailGain_6 rfl ?_
  refine zW_iconst dX2_tailGain_7 ?_
  refine zW_ishl dX2_tailGain_8 ?_
  refine zW_bipush dX2_tailGain_9 rfl ?_
  refine zW_iand_7 dX2_tailGain_11 ?_
  refine zW_iadd dX2_tailGain_12 ?_
  obtain ⟨c1, hf⟩ := zgd hf
  refine zF_iald (hw.1 _ (zokA (r' := 22) o rfl rfl)) rfl c1 rfl dX2_tailGain_13 ?_
  refine zW_aload_n 0 dX2_tailGain_14 rfl ?_
  refine zW_getR (q' := (22, 0, 0)) lk_RX2_9 (hw.1 _ o) rfl rfl (hw.2.1 _ _ _ o rfl) dX2_tailGain_15 ?_
  refine zW_bipush dX2_tailGain_18 rfl ?_
  refine zW_iload_n 1 dX2_tailGain_20 rfl ?_
  refine zW_iconst dX2_tailGain_21 ?_
  refine zW_ishl dX2_tailGain_22 ?_
  refine zW_bipush dX2_tailGain_23 rfl ?_
  refine zW_iand_7 dX2_tailGain_25 ?_
  refine zW_iadd dX2_tailGain_26 ?_
  obtain ⟨c2, hf⟩ := zgd hf
  refine zF_iald (hw.1 _ (zokA (r' := 22) o rfl rfl)) rfl c2 rfl dX2_tailGain_27 ?_
  refine zW_iadd dX2_tailGain_28 ?_
  exact zS_i hw rfl dX2_tailGain_29 hf
theorem kX2_tailGain {X : zX} {e : Nat → Prop} (hw : zWf X e) {v1 : Int} (o : zOk e (4, 0, 0)) {I : zMem} {u : Int} (hf : fX2_tailGain v1 I = some u) : zCn X mX2_tailGain yX2_tailGain [.ref (zad X (4, 0, 0)), vi v1] I (some (vi u), I) := zCn_of (by decide +kernel) rfl rfl ⟨rfl, rfl⟩ (tX2_tailGain_0 hw.N o hf)
set_option maxRecDepth 100000 in
theorem tX2_bestWord_l39_y {X : zX} {e : Nat → Prop} (hw : zWf X e) {T : zT} {q1 : zPl} {w2 : Int} (o : zOk e (4, 0, 0)) (hq1 : zDom X q1) (hk1 : zkd q1.1 = (14, 39)) (s : (Int × zMem)) {u : ((Int × zMem) ⊕ (Int × zMem))} (hf : fX2_bestWord_l39 q1 w2 s = some u) (hk : ∀ s', u = .inl s' → zW X T mX2_bestWord 39 [(0, .ref (zad X (4, 0, 0))), (2, vi w2), (3, vi s'.1)] [] s'.2) (hx : ∀ x, u = .inr x → zW X T mX2_bestWord 59 [(0, .ref (zad X (4, 0, 0))), (2, vi w2)] [] x.2) : zW X T mX2_bestWord 39 [(0, .ref (zad X (4, 0, 0))), (2, vi w2), (3, vi s.1)] [] s.2 := by
  unfold fX2_bestWord_l39 at hf
  refine zW_iload_n 2 dX2_bestWord_39 rfl ?_
  refine zW_iconst dX2_bestWord_40 ?_
  refine zF_icmp_ge 59 dX2_bestWord_41 rfl rfl (w32_lit _ rfl) hf (fun c hf => ?_) (fun c hf => ?_)
  · refine zW_sub [0, 1] rfl ?_
    exact hx _ (Option.some.inj hf).symm
  · refine zW_aload_n 0 dX2_bestWord_44 rfl ?_
    refine zW_iload_n 2 dX2_bestWord_45 rfl ?_
    refine zW_bipush dX2_bestWord_46 rfl ?_
    refine zW_iload_n 1 dX2_bestWord_48 rfl ?_
    refine zW_imul dX2_bestWord_49 ?_
    refine zC_Vwv (As := [vi s.1, vi (8 * w2)]) (fun x hx => kX2_extend hw (v1 := s.1) (v2 := 8 * w2) o hx) mv_RX2_45 (hw.1 _ o) rfl rfl rfl rfl rfl dX2_bestWord_50 hf (fun r5 hf => ?_)
    refine zW_iinc 2 (lv' := [(3, vi (s.1 + 1)), (0, .ref (zad X (4, 0, 0))), (2, vi w2)]) dX2_bestWord_53 rfl rfl rfl ?_
    refine zW_goto 39 dX2_bestWord_56 rfl ?_
    refine zW_sub [1, 2, 0] rfl ?_
    exact hk _ (Option.some.inj hf).symm
theorem tX2_bestWord_l39 {X : zX} {e : Nat → Prop} (hw : zWf X e) {T : zT} {q1 : zPl} {w2 : Int} (o : zOk e (4, 0, 0)) (hq1 : zDom X q1) (hk1 : zkd q1.1 = (14, 39)) {s0 : (Int × zMem)} {α : Type} {F : (Int × zMem) → Option α} {u : α} (hf : zb (zlp (fX2_bestWord_l39 q1 w2) 5000 s0) F = some u) (kx : ∀ x, F x = some u → zW X T mX2_bestWord 59 [(0, .ref (zad X (4, 0, 0))), (2, vi w2)] [] x.2) : zW X T mX2_bestWord 39 [(0, .ref (zad X (4, 0, 0))), (2, vi w2), (3, vi s0.1)] [] s0.2 := by
  obtain ⟨x, h, hf⟩ := zb_inv hf
  exact zlp_W (P := fun s => zW X T mX2_bestWord 39 [(0, .ref (zad X (4, 0, 0))), (2, vi w2), (3, vi s.1)] [] s.2) (E := fun x => zW X T mX2_bestWord 59 [(0, .ref (zad X (4, 0, 0))), (2, vi w2)] [] x.2) (fun s u h hk hx => tX2_bestWord_l39_y hw o hq1 hk1 s h hk hx) _ s0 x h (kx x hf)
set_option maxRecDepth 100000 in
theorem tX2_bestWord_l31_y {X : zX} {e : Nat → Prop} (hw : zWf X e) {T : zT} {q1 : zPl} (o : zOk e (4, 0, 0)) (hq1 : zDom X q1) (hk1 : zkd q1.1 = (14, 39)) (s : (Int × zMem)) {u : ((Int × zMem) ⊕ (Int × zMem))} (hf : fX2_bestWord_l31 q1 s = some u) (hk : ∀ s', u = .inl s' → zW X T mX2_bestWord 31 [(0, .ref (zad X (4, 0, 0))), (2, vi s'.1)] [] s'.2) (hx : ∀ x, u = .inr x → zW X T mX2_bestWord 93 [(0, .ref (zad X (4, 0, 0)))] [] x.2) : zW X T mX2_bestWord 31 [(0, .ref (zad X (4, 0, 0))), (2, vi s.1)] [] s.2 := by
  unfold fX2_bestWord_l31 at hf
  refine zW_iload_n 1 dX2_bestWord_31 rfl ?_
  refine zW_bipush dX2_bestWord_32 rfl ?_
  refine zF_icmp_ge 93 dX2_bestWord_34 rfl rfl (w32_lit _ rfl) hf (fun c hf => ?_) (fun c hf => ?_)
  · refine zW_sub [0] rfl ?_
    exact hx _ (Option.some.inj hf).symm
  · refine zW_iconst dX2_bestWord_37 ?_
    refine zW_istore_n (lv' := [(3, vi 0), (0, .ref (zad X (4, 0, 0))), (2, vi s.1)]) dX2_bestWord_38 rfl rfl ?_
    refine zW_sub [1, 2, 0] rfl ?_
    refine tX2_bestWord_l39 hw o hq1 hk1 (s0 := (0, s.2)) hf (fun x6 hf => ?_)
    refine zW_aload_n 0 dX2_bestWord_59 rfl ?_
    refine zW_getR (q' := (26, 0, 0)) lk_RX2_24 (hw.1 _ o) rfl rfl (hw.2.1 _ _ _ o rfl) dX2_bestWord_60 ?_
    refine zW_iconst dX2_bestWord_63 ?_
    refine zW_aload_n 0 dX2_bestWord_64 rfl ?_
    refine zW_getR (q' := (24, 0, 0)) lk_RX2_18 (hw.1 _ o) rfl rfl (hw.2.1 _ _ _ o rfl) dX2_bestWord_65 ?_
    refine zW_iconst dX2_bestWord_68 ?_
    refine zW_iconst dX2_bestWord_69 ?_
    refine zF_copy ma_RX2_49 (hw.1 _ (zokA (r' := 26) o rfl rfl)) rfl (hw.1 _ (zokA (r' := 24) o rfl rfl)) rfl (by decide) (ix_lit _ rfl) (ix_lit _ rfl) (ix_lit _ rfl) rfl dX2_bestWord_70 hf (fun I7 hf => ?_)
    refine zW_aload_n 0 dX2_bestWord_73 rfl ?_
    refine zW_getR (q' := (27, 0, 0)) lk_RX2_27 (hw.1 _ o) rfl rfl (hw.2.1 _ _ _ o rfl) dX2_bestWord_74 ?_
    refine zW_iconst dX2_bestWord_77 ?_
    refine zW_aload_n 0 dX2_bestWord_78 rfl ?_
    refine zW_getR (q' := (25, 0, 0)) lk_RX2_21 (hw.1 _ o) rfl rfl (hw.2.1 _ _ _ o rfl) dX2_bestWord_79 ?_
    refine zW_iconst dX2_bestWord_82 ?_
    refine zW_iconst dX2_bestWord_83 ?_
    refine zF_copy ma_RX2_49 (hw.1 _ (zokA (r' := 27) o rfl rfl)) rfl (hw.1 _ (zokA (r' := 25) o rfl rfl)) rfl (by decide) (ix_lit _ rfl) (ix_lit _ rfl) (ix_lit _ rfl) rfl dX2_bestWord_84 hf (fun I8 hf => ?_)
    refine zW_iinc 1 (lv' := [(2, vi (s.1 + 1)), (0, .ref (zad X (4, 0, 0)))]) dX2_bestWord_87 rfl rfl rfl ?_
    refine zW_goto 31 dX2_bestWord_90 rfl ?_
    refine zW_sub [1, 0] rfl ?_
    exact hk _ (Option.some.inj hf).symm
theorem tX2_bestWord_l31 {X : zX} {e : Nat → Prop} (hw : zWf X e) {T : zT} {q1 : zPl} (o : zOk e (4, 0, 0)) (hq1 : zDom X q1) (hk1 : zkd q1.1 = (14, 39)) {s0 : (Int × zMem)} {α : Type} {F : (Int × zMem) → Option α} {u : α} (hf : zb (zlp (fX2_bestWord_l31 q1) 5000 s0) F = some u) (kx : ∀ x, F x = some u → zW X T mX2_bestWord 93 [(0, .ref (zad X (4, 0, 0)))] [] x.2) : zW X T mX2_bestWord 31 [(0, .ref (zad X (4, 0, 0))), (2, vi s0.1)] [] s0.2 := by
  obtain ⟨x, h, hf⟩ := zb_inv hf
  exact zlp_W (P := fun s => zW X T mX2_bestWord 31 [(0, .ref (zad X (4, 0, 0))), (2, vi s.1)] [] s.2) (E := fun x => zW X T mX2_bestWord 93 [(0, .ref (zad X (4, 0, 0)))] [] x.2) (fun s u h hk hx => tX2_bestWord_l31_y hw o hq1 hk1 s h hk hx) _ s0 x h (kx x hf)
set_option maxRecDepth 100000 in
theorem tX2_bestWord_b101_157 {X : zX} {e : Nat → Prop} (hw : zWf X e) {T : zT} {q1 : zPl} {I : zMem} {w2 : Int} {w3 : Int} {w4 : Int} (o : zOk e (4, 0, 0)) (hq1 : zDom X q1) (hk1 : zkd q1.1 = (14, 39)) {u : ((Int × Int × Int) ⊕ (Int × Int × Int))} (hf : fX2_bestWord_b101_157 q1 I w2 w3 w4 = some u) (hk : ∀ s', u = .inl s' → zW X T mX2_bestWord 101 [(0, .ref (zad X (4, 0, 0))), (2, vi s'.1), (3, vi s'.2.1), (4, vi s'.2.2)] [] I) (hx : ∀ x, u = .inr x → zW X T mX2_bestWord 163 [(2, vi x.1)] [] I) : zW X T mX2_bestWord 157 [(0, .ref (zad X (4, 0, 0))), (2, vi w2), (3, vi w3), (4, vi w4)] [] I := by
  unfold fX2_bestWord_b101_157 at hf
  refine zW_iinc 3 (lv' := [(4, vi (w4 + 1)), (0, .ref (zad X (4, 0, 0))), (2, vi w2), (3, vi w3)]) dX2_bestWord_157 rfl rfl rfl ?_
  refine zW_goto 101 dX2_bestWord_160 rfl ?_
  refine zW_sub [1, 2, 3, 0] rfl ?_
  exact hk _ (Option.some.inj hf).symm
set_option maxRecDepth 100000 in
theorem tX2_bestWord_b101_146 {X : zX} {e : Nat → Prop} (hw : zWf X e) {T : zT} {q1 : zPl} {I : zMem} {w4 : Int} {w5 : Int} (o : zOk e (4, 0, 0)) (hq1 : zDom X q1) (hk1 : zkd q1.1 = (14, 39)) {u : ((Int × Int × Int) ⊕ (Int × Int × Int))} (hf : fX2_bestWord_b101_146 q1 I w4 w5 = some u) (hk : ∀ s', u = .inl s' → zW X T mX2_bestWord 101 [(0, .ref (zad X (4, 0, 0))), (2, vi s'.1), (3, vi s'.2.1), (4, vi s'.2.2)] [] I) (hx : ∀ x, u = .inr x → zW X T mX2_bestWord 163 [(2, vi x.1)] [] I) : zW X T mX2_bestWord 146 [(0, .ref (zad X (4, 0, 0))), (4, vi w4), (5, vi w5)] [] I := by
  unfold fX2_bestWord_b101_146 at hf
  refine zW_iload 2 dX2_bestWord_146 rfl ?_
  refine zW_istore_n (lv' := [(3, vi w5), (0, .ref (zad X (4, 0, 0))), (4, vi w4), (5, vi w5)]) dX2_bestWord_148 rfl rfl ?_
  refine zW_aload_n 1 dX2_bestWord_149 rfl ?_
  refine zW_getR (q' := (25, 0, 0)) lk_RX2_21 (hw.1 _ o) rfl rfl (hw.2.1 _ _ _ o rfl) dX2_bestWord_150 ?_
  refine zW_iload 2 dX2_bestWord_153 rfl ?_
  obtain ⟨c13, hf⟩ := zgd hf
  refine zF_iald (hw.1 _ (zokA (r' := 25) o rfl rfl)) rfl c13 rfl dX2_bestWord_155 ?_
  refine zF_istore_n (lv' := fun a14 => [(2, vi a14), (3, vi w5), (0, .ref (zad X (4, 0, 0))), (4, vi w4), (5, vi w5)]) dX2_bestWord_156 hf (fun _ => rfl) rfl (fun a14 hf => ?_)
  refine zW_sub [2, 0, 1, 3] rfl ?_
  exact tX2_bestWord_b101_157 hw o hq1 hk1 hf hk hx
set_option maxRecDepth 100000 in
theorem tX2_bestWord_l101_y {X : zX} {e : Nat → Prop} (hw : zWf X e) {T : zT} {q1 : zPl} {I : zMem} (o : zOk e (4, 0, 0)) (hq1 : zDom X q1) (hk1 : zkd q1.1 = (14, 39)) (s : (Int × Int × Int)) {u : ((Int × Int × Int) ⊕ (Int × Int × Int))} (hf : fX2_bestWord_l101 q1 I s = some u) (hk : ∀ s', u = .inl s' → zW X T mX2_bestWord 101 [(0, .ref (zad X (4, 0, 0))), (2, vi s'.1), (3, vi s'.2.1), (4, vi s'.2.2)] [] I) (hx : ∀ x, u = .inr x → zW X T mX2_bestWord 163 [(2, vi x.1)] [] I) : zW X T mX2_bestWord 101 [(0, .ref (zad X (4, 0, 0))), (2, vi s.1), (3, vi s.2.1), (4, vi s.2.2)] [] I := by
  unfold fX2_bestWord_l101 at hf
  refine zW_iload 3 dX2_bestWord_101 rfl ?_
  refine zW_iconst dX2_bestWord_103 ?_
  refine zF_icmp_ge 163 dX2_bestWord_104 rfl rfl (w32_lit _ rfl) hf (fun c hf => ?_) (fun c hf => ?_)
  · refine zW_sub [1] rfl ?_
    exact hx _ (Option.some.inj hf).symm
  · refine zW_aload_n 0 dX2_bestWord_107 rfl ?_
    refine zW_getR (q' := (24, 0, 0)) lk_RX2_18 (hw.1 _ o) rfl rfl (hw.2.1 _ _ _ o rfl) dX2_bestWord_108 ?_
    refine zW_iload 3 dX2_bestWord_111 rfl ?_
    obtain ⟨c10, hf⟩ := zgd hf
    refine zF_iald (hw.1 _ (zokA (r' := 24) o rfl rfl)) rfl c10 rfl dX2_bestWord_113 ?_
    refine zW_aload_n 0 dX2_bestWord_114 rfl ?_
    refine zW_iload 3 dX2_bestWord_115 rfl ?_
    refine zC_Vri (As := [vi s.2.2]) (fun x hx => kX2_tailGain hw (v1 := s.2.2) o hx) mv_RX2_34 (hw.1 _ o) rfl rfl rfl rfl rfl dX2_bestWord_117 hf (fun r11 hf => ?_)
    refine zW_iadd dX2_bestWord_120 ?_
    refine zF_istore (lv' := fun a12 => [(5, vi a12), (0, .ref (zad X (4, 0, 0))), (2, vi s.1), (3, vi s.2.1), (4, vi s.2.2)]) dX2_bestWord_121 hf (fun _ => rfl) rfl (fun a12 hf => ?_)
    refine zW_iload 0 dX2_bestWord_123 rfl ?_
    refine zW_iload_n 3 dX2_bestWord_125 rfl ?_
    refine zF_icmp_gt 146 dX2_bestWord_126 rfl rfl rfl hf (fun c hf => ?_) (fun c hf => ?_)
    · refine zW_sub [1, 4, 0] rfl ?_
      exact tX2_bestWord_b101_146 hw o hq1 hk1 hf hk hx
    · refine zW_iload 0 dX2_bestWord_129 rfl ?_
      refine zW_iload_n 3 dX2_bestWord_131 rfl ?_
      refine zF_icmp_ne 157 dX2_bestWord_132 rfl rfl rfl hf (fun c hf => ?_) (fun c hf => ?_)
      · refine zW_aload_n 1 dX2_bestWord_135 rfl ?_
        refine zW_getR (q' := (25, 0, 0)) lk_RX2_21 (hw.1 _ o) rfl rfl (hw.2.1 _ _ _ o rfl) dX2_bestWord_136 ?_
        refine zW_iload 4 dX2_bestWord_139 rfl ?_
        refine zF_iald (hw.1 _ (zokA (r' := 25) o rfl rfl)) rfl c10 rfl dX2_bestWord_141 ?_
        refine zW_iload_n 2 dX2_bestWord_142 rfl ?_
        refine zF_icmp_ge 157 dX2_bestWord_143 rfl rfl rfl hf (fun c hf => ?_) (fun c hf => ?_)
        · refine zW_sub [1, 2, 3, 4] rfl ?_
          exact tX2_bestWord_b101_157 hw o hq1 hk1 hf hk hx
        · refine zW_sub [1, 4, 0] rfl ?_
          exact tX2_bestWord_b101_146 hw o hq1 hk1 hf hk hx
      · refine zW_sub [1, 2, 3, 4] rfl ?_
        exact tX2_bestWord_b101_157 hw o hq1 hk1 hf hk hx
theorem tX2_bestWord_l101 {X : zX} {e : Nat → Prop} (hw : zWf X e) {T : zT} {q1 : zPl} {I : zMem} (o : zOk e (4, 0, 0)) (hq1 : zDom X q1) (hk1 : zkd q1.1 = (14, 39)) {s0 : (Int × Int × Int)} {α : Type} {F : (Int × Int × Int) → Option α} {u : α} (hf : zb (zlp (fX2_bestWord_l101 q1 I) 5000 s0) F = some u) (kx : ∀ x, F x = some u → zW X T mX2_bestWord 163 [(2, vi x.1)] [] I) : zW X T mX2_bestWord 101 [(0, .ref (zad X (4, 0, 0))), (2, vi s0.1), (3, vi s0.2.1), (4, vi s0.2.2)] [] I := by
  obtain ⟨x, h, hf⟩ := zb_inv hf
  exact zlp_W (P := fun s => zW X T mX2_bestWord 101 [(0, .ref (zad X (4, 0, 0))), (2, vi s.1), (3, vi s.2.1), (4, vi s.2.2)] [] I) (E := fun x => zW X T mX2_bestWord 163 [(2, vi x.1)] [] I) (fun s u h hk hx => tX2_bestWord_l101_y hw o hq1 hk1 s h hk hx) _ s0 x h (kx x hf)
set_option maxRecDepth 100000 in
theorem tX2_bestWord_0 {X : zX} {e : Nat → Prop} (hw : zWf X e) {q1 : zPl} (o : zOk e (4, 0, 0)) (hq1 : zDom X q1) (hk1 : zkd q1.1 = (14, 39)) {I : zMem} {u : (Int × zMem)} (hf : fX2_bestWord q1 I = some u) : zW X (some (vi u.1), u.2) mX2_bestWord 0 [(0, .ref (zad X (4, 0, 0))), (1, .ref (zad X q1))] [] I := by
  unfold fX2_bestWord at hf
  refine zW_aload_n 0 dX2_bestWord_0 rfl ?_
  refine zW_aload_n 1 dX2_bestWord_1 rfl ?_
  refine zC_Vwv (As := [.ref (zad X q1)]) (fun x hx => kX2_measure hw (q1 := q1) o hq1 hk1 hx) mv_RX2_30 (hw.1 _ o) rfl rfl rfl rfl rfl dX2_bestWord_2 hf (fun r1 hf => ?_)
  refine zW_aload_n 0 dX2_bestWord_5 rfl ?_
  refine zW_getR (q' := (24, 0, 0)) lk_RX2_18 (hw.1 _ o) rfl rfl (hw.2.1 _ _ _ o rfl) dX2_bestWord_6 ?_
  refine zW_ldc dX2_bestWord_9 wc_RX2_38 ?_
  refine zC_Swv (As := [.ref (zad X (24, 0, 0)), vi (-100000000)]) (fun x hx => kJ7_fill_53178 hw (q0 := (24, 0, 0)) (n0 := 4) (v1 := (-100000000)) (hw.1 _ (zokA (r' := 24) o rfl rfl)) rfl hx) ms_RX2_39 rfl rfl rfl rfl dX2_bestWord_11 hf (fun r2 hf => ?_)
  refine zW_aload_n 0 dX2_bestWord_14 rfl ?_
  refine zW_getR (q' := (25, 0, 0)) lk_RX2_21 (hw.1 _ o) rfl rfl (hw.2.1 _ _ _ o rfl) dX2_bestWord_15 ?_
  refine zW_iconst dX2_bestWord_18 ?_
  refine zC_Swv (As := [.ref (zad X (25, 0, 0)), vi 0]) (fun x hx => kJ7_fill_53178 hw (q0 := (25, 0, 0)) (n0 := 4) (v1 := 0) (hw.1 _ (zokA (r' := 25) o rfl rfl)) rfl hx) ms_RX2_39 rfl rfl rfl rfl dX2_bestWord_19 hf (fun r3 hf => ?_)
  refine zW_aload_n 0 dX2_bestWord_22 rfl ?_
  refine zW_getR (q' := (24, 0, 0)) lk_RX2_18 (hw.1 _ o) rfl rfl (hw.2.1 _ _ _ o rfl) dX2_bestWord_23 ?_
  refine zW_iconst dX2_bestWord_26 ?_
  refine zW_iconst dX2_bestWord_27 ?_
  refine zF_iast (hw.1 _ (zokA (r' := 24) o rfl rfl)) rfl (zin_lit _ _ rfl) (ix_lit _ rfl) dX2_bestWord_28 hf (fun I4 hf => ?_)
  refine zW_iconst dX2_bestWord_29 ?_
  refine zW_istore_n (lv' := [(2, vi 0), (0, .ref (zad X (4, 0, 0))), (1, .ref (zad X q1))]) dX2_bestWord_30 rfl rfl ?_
  refine zW_sub [1, 0] rfl ?_
  refine tX2_bestWord_l31 hw o hq1 hk1 (s0 := (0, I4)) hf (fun x9 hf => ?_)
  refine zW_iconst dX2_bestWord_93 ?_
  refine zW_istore_n (lv' := [(2, vi 0), (0, .ref (zad X (4, 0, 0)))]) dX2_bestWord_94 rfl rfl ?_
  refine zW_ldc dX2_bestWord_95 wc_RX2_38 ?_
  refine zW_istore_n (lv' := [(3, vi (-100000000)), (2, vi 0), (0, .ref (zad X (4, 0, 0)))]) dX2_bestWord_97 rfl rfl ?_
  refine zW_iconst dX2_bestWord_98 ?_
  refine zW_istore (lv' := [(4, vi 0), (3, vi (-100000000)), (2, vi 0), (0, .ref (zad X (4, 0, 0)))]) dX2_bestWord_99 rfl rfl ?_
  refine zW_sub [3, 2, 1, 0] rfl ?_
  refine tX2_bestWord_l101 hw o hq1 hk1 (s0 := (0, (-100000000), 0)) hf (fun x15 hf => ?_)
  refine zW_iload_n 0 dX2_bestWord_163 rfl ?_
  exact zR_i hw rfl dX2_bestWord_164 hf
theorem kX2_bestWord {X : zX} {e : Nat → Prop} (hw : zWf X e) {q1 : zPl} (o : zOk e (4, 0, 0)) (hq1 : zDom X q1) (hk1 : zkd q1.1 = (14, 39)) {I : zMem} {u : (Int × zMem)} (hf : fX2_bestWord q1 I = some u) : zCn X mX2_bestWord yX2_bestWord [.ref (zad X (4, 0, 0)), .ref (zad X q1)] I (some (vi u.1), u.2) := zCn_of (by decide +kernel) rfl rfl ⟨rfl, rfl⟩ (tX2_bestWord_0 hw.N o hq1 hk1 hf)
set_option maxRecDepth 100000 in
theorem tX1_isWhole_0 {X : zX} {e : Nat → Prop} (hw : zWf X e) {v0 : Int}  {I : zMem} {u : Int} (hf : fX1_isWhole v0 = some u) : zW X (some (vi u), I) mX1_isWhole 0 [(0, vi v0)] [] I := by
  unfold fX1_isWhole at hf
  refine zW_iload_n 0 dX1_isWhole_0 rfl ?_
  refine zC_Sri (As := [vi v0]) (fun x hx => kX1_restOf hw (v0 := v0)  hx) ms_RX1_24 rfl rfl rfl rfl dX1_isWhole_1 hf (fun r1 hf => ?_)
  refine zW_iconst dX1_isWhole_4 ?_
  refine zF_icmp_ne 12 dX1_isWhole_5 rfl rfl (w32_lit _ rfl) hf (fun c hf => ?_) (fun c hf => ?_)
  · refine zW_iconst dX1_isWhole_8 ?_
    refine zW_goto 13 dX1_isWhole_9 rfl ?_
    exact zS_z hw rfl (Or.inr rfl) dX1_isWhole_13 hf
  · refine zW_iconst dX1_isWhole_12 ?_
    exact zS_z hw rfl (Or.inl rfl) dX1_isWhole_13 hf
theorem kX1_isWhole {X : zX} {e : Nat → Prop} (hw : zWf X e) {v0 : Int}  {I : zMem} {u : Int} (hf : fX1_isWhole v0 = some u) : zCn X mX1_isWhole yX1_isWhole [vi v0] I (some (vi u), I) := zCn_of (by decide +kernel) rfl rfl ⟨rfl, rfl⟩ (tX1_isWhole_0 hw.N  hf)
set_option maxRecDepth 100000 in
theorem tX5_fateOf_0 {X : zX} {e : Nat → Prop} (hw : zWf X e) {L : Nat} {v1 : Int} {v2 : Int} (o : zOk e (9, L, 0)) {I : zMem} {u : Int} (hf : fX5_fateOf L v1 v2 I = some u) : zW X (some (vi u), I) mX5_fateOf 0 [(0, .ref (zad X (9, L, 0))), (1, vi v1), (2, vi v2)] [] I := by
  unfold fX5_fateOf at hf
  refine zW_iload_n 1 dX5_fateOf_0 rfl ?_
  refine zW_aload_n 0 dX5_fateOf_1 rfl ?_
  refine zW_getI lk_RX5_35 (hw.1 _ o) rfl rfl dX5_fateOf_2 ?_
  refine zW_isub dX5_fateOf_5 ?_
  refine zW_bipush dX5_fateOf_6 rfl ?_
  refine zW_iand_7 dX5_fateOf_8 ?_
  refine zF_istore_n (lv' := fun a1 => [(3, vi a1), (0, .ref (zad X (9, L, 0))), (1, vi v1), (2, vi v2)]) dX5_fateOf_9 hf (fun _ => rfl) rfl (fun a1 hf => ?_)
  refine zW_iload_n 0 dX5_fateOf_10 rfl ?_
  refine zW_iload_n 3 dX5_fateOf_11 rfl ?_
  refine zF_icmp_lt 17 dX5_fateOf_12 rfl rfl rfl hf (fun c hf => ?_) (fun c hf => ?_)
  · refine zW_aload_n 1 dX5_fateOf_17 rfl ?_
    refine zW_getR (q' := (39, L, 0)) lk_RX5_17 (hw.1 _ o) rfl rfl (hw.2.1 _ _ _ o rfl) dX5_fateOf_18 ?_
    refine zW_iload_n 2 dX5_fateOf_21 rfl ?_
    obtain ⟨c2, hf⟩ := zgd hf
    refine zF_iald (hw.1 _ (zokB (r' := 39) o rfl rfl)) rfl c2 rfl dX5_fateOf_22 ?_
    refine zW_iconst dX5_fateOf_23 ?_
    refine zF_icmp_eq 29 dX5_fateOf_24 rfl rfl (w32_lit _ rfl) hf (fun c hf => ?_) (fun c hf => ?_)
    · refine zW_iload_n 0 dX5_fateOf_29 rfl ?_
      refine zF_if_ne 37 dX5_fateOf_30 rfl rfl hf (fun c hf => ?_) (fun c hf => ?_)
      · refine zW_iconst dX5_fateOf_33 ?_
        refine zW_goto 38 dX5_fateOf_34 rfl ?_
        exact zS_i hw rfl dX5_fateOf_38 hf
      · refine zW_iconst dX5_fateOf_37 ?_
        exact zS_i hw rfl dX5_fateOf_38 hf
    · refine zW_iconst dX5_fateOf_27 ?_
      exact zS_i hw rfl dX5_fateOf_28 hf
  · refine zW_iconst dX5_fateOf_15 ?_
    exact zS_i hw rfl dX5_fateOf_16 hf
theorem kX5_fateOf {X : zX} {e : Nat → Prop} (hw : zWf X e) {L : Nat} {v1 : Int} {v2 : Int} (o : zOk e (9, L, 0)) {I : zMem} {u : Int} (hf : fX5_fateOf L v1 v2 I = some u) : zCn X mX5_fateOf yX5_fateOf [.ref (zad X (9, L, 0)), vi v1, vi v2] I (some (vi u), I) := zCn_of (by decide +kernel) rfl rfl ⟨rfl, rfl⟩ (tX5_fateOf_0 hw.N o hf)
set_option maxRecDepth 100000 in
theorem tX5_shelve_0 {X : zX} {e : Nat → Prop} (hw : zWf X e) {L : Nat} {v1 : Int} {v2 : Int} {v3 : Int} (o : zOk e (9, L, 0)) {I : zMem} {u : zMem} (hf : fX5_shelve L v1 v2 v3 I = some u) : zW X (none, u) mX5_shelve 0 [(0, .ref (zad X (9, L, 0))), (1, vi v1), (2, vi v2), (3, vi v3)] [] I := by
  unfold fX5_shelve at hf
  refine zW_aload_n 0 dX5_shelve_0 rfl ?_
  refine zW_iload_n 1 dX5_shelve_1 rfl ?_
  refine zW_iload_n 3 dX5_shelve_2 rfl ?_
  refine zC_Vri (As := [vi v1, vi v3]) (fun x hx => kX5_fateOf hw (L := L) (v1 := v1) (v2 := v3) o hx) mv_RX5_70 (hw.1 _ o) rfl rfl rfl rfl rfl dX5_shelve_3 hf (fun r1 hf => ?_)
  refine zW_istore (lv' := [(4, vi r1), (0, .ref (zad X (9, L, 0))), (1, vi v1), (2, vi v2), (3, vi v3)]) dX5_shelve_6 rfl rfl ?_
  refine zW_iload 0 dX5_shelve_8 rfl ?_
  refine zW_iconst dX5_shelve_10 ?_
  refine zF_icmp_ne 27 dX5_shelve_11 rfl rfl (w32_lit _ rfl) hf (fun c hf => ?_) (fun c hf => ?_)
  · refine zW_aload_n 1 dX5_shelve_14 rfl ?_
    refine zW_dup dX5_shelve_15 rfl ?_
    refine zW_getI lk_RX5_51 (hw.1 _ o) rfl rfl dX5_shelve_16 ?_
    refine zW_iconst dX5_shelve_19 ?_
    refine zW_iadd dX5_shelve_20 ?_
    refine zF_put lk_RX5_51 (hw.1 _ o) rfl rfl (zn_int _) dX5_shelve_21 hf (fun I2 hf => ?_)
    refine zW_goto 53 dX5_shelve_24 rfl ?_
    exact zR_v hw rfl dX5_shelve_53 hf
  · refine zW_iload 0 dX5_shelve_27 rfl ?_
    refine zW_iconst dX5_shelve_29 ?_
    refine zF_icmp_ne 46 dX5_shelve_30 rfl rfl (w32_lit _ rfl) hf (fun c hf => ?_) (fun c hf => ?_)
    · refine zW_aload_n 1 dX5_shelve_33 rfl ?_
      refine zW_dup dX5_shelve_34 rfl ?_
      refine zW_getI lk_RX5_54 (hw.1 _ o) rfl rfl dX5_shelve_35 ?_
      refine zW_iconst dX5_shelve_38 ?_
      refine zW_iadd dX5_shelve_39 ?_
      refine zF_put lk_RX5_54 (hw.1 _ o) rfl rfl (zn_int _) dX5_shelve_40 hf (fun I3 hf => ?_)
      refine zW_goto 53 dX5_shelve_43 rfl ?_
      exact zR_v hw rfl dX5_shelve_53 hf
    · refine zW_aload_n 1 dX5_shelve_46 rfl ?_
      refine zW_getR (q' := (39, L, 0)) lk_RX5_17 (hw.1 _ o) rfl rfl (hw.2.1 _ _ _ o rfl) dX5_shelve_47 ?_
      refine zW_iload_n 2 dX5_shelve_50 rfl ?_
      refine zW_iload_n 3 dX5_shelve_51 rfl ?_
      obtain ⟨c4, hf⟩ := zgd hf
      refine zF_iast (hw.1 _ (zokB (r' := 39) o rfl rfl)) rfl c4 rfl dX5_shelve_52 hf (fun I5 hf => ?_)
      exact zR_v hw rfl dX5_shelve_53 hf
theorem kX5_shelve {X : zX} {e : Nat → Prop} (hw : zWf X e) {L : Nat} {v1 : Int} {v2 : Int} {v3 : Int} (o : zOk e (9, L, 0)) {I : zMem} {u : zMem} (hf : fX5_shelve L v1 v2 v3 I = some u) : zCn X mX5_shelve yX5_shelve [.ref (zad X (9, L, 0)), vi v1, vi v2, vi v3] I (none, u) := zCn_of (by decide +kernel) rfl rfl ⟨rfl, rfl⟩ (tX5_shelve_0 hw.N o hf)
set_option maxRecDepth 100000 in
theorem tX5_moveOn_b62 {X : zX} {e : Nat → Prop} (hw : zWf X e) {L : Nat} {I : zMem} (o : zOk e (9, L, 0)) {u : zMem} (hf : fX5_moveOn_b62 L I = some u) : zW X (none, u) mX5_moveOn 62 [(0, .ref (zad X (9, L, 0)))] [] I := by
  unfold fX5_moveOn_b62 at hf
  refine zW_aload_n 0 dX5_moveOn_62 rfl ?_
  refine zW_aload_n 0 dX5_moveOn_63 rfl ?_
  refine zW_getI lk_RX5_35 (hw.1 _ o) rfl rfl dX5_moveOn_64 ?_
  refine zW_iconst dX5_moveOn_67 ?_
  refine zW_iadd dX5_moveOn_68 ?_
  refine zW_bipush dX5_moveOn_69 rfl ?_
  refine zW_iand_7 dX5_moveOn_71 ?_
  refine zF_put lk_RX5_35 (hw.1 _ o) rfl rfl (zn_int _) dX5_moveOn_72 hf (fun I4 hf => ?_)
  refine zW_aload_n 0 dX5_moveOn_75 rfl ?_
  refine zW_getI lk_RX5_39 (hw.1 _ o) rfl rfl dX5_moveOn_76 ?_
  refine zF_if_le 104 dX5_moveOn_79 rfl rfl hf (fun c hf => ?_) (fun c hf => ?_)
  · exact zR_v hw rfl dX5_moveOn_104 hf
  · refine zW_aload_n 0 dX5_moveOn_82 rfl ?_
    refine zW_dup dX5_moveOn_83 rfl ?_
    refine zW_getI lk_RX5_42 (hw.1 _ o) rfl rfl dX5_moveOn_84 ?_
    refine zW_iconst dX5_moveOn_87 ?_
    refine zW_isub dX5_moveOn_88 ?_
    refine zF_put lk_RX5_42 (hw.1 _ o) rfl rfl (zn_int _) dX5_moveOn_89 hf (fun I5 hf => ?_)
    refine zW_aload_n 0 dX5_moveOn_92 rfl ?_
    refine zW_getI lk_RX5_42 (hw.1 _ o) rfl rfl dX5_moveOn_93 ?_
    refine zF_if_gt 104 dX5_moveOn_96 rfl rfl hf (fun c hf => ?_) (fun c hf => ?_)
    · exact zR_v hw rfl dX5_moveOn_104 hf
    · refine zW_aload_n 0 dX5_moveOn_99 rfl ?_
      refine zW_iconst dX5_moveOn_100 ?_
      refine zF_put lk_RX5_39 (hw.1 _ o) rfl rfl (zn_int _) dX5_moveOn_101 hf (fun I6 hf => ?_)
      exact zR_v hw rfl dX5_moveOn_104 hf
set_option maxRecDepth 100000 in
theorem tX5_moveOn_0 {X : zX} {e : Nat → Prop} (hw : zWf X e) {L : Nat} (o : zOk e (9, L, 0)) {I : zMem} {u : zMem} (hf : fX5_moveOn L I = some u) : zW X (none, u) mX5_moveOn 0 [(0, .ref (zad X (9, L, 0)))] [] I := by
  unfold fX5_moveOn at hf
  refine zW_aload_n 0 dX5_moveOn_0 rfl ?_
  refine zW_getR (q' := (39, L, 0)) lk_RX5_17 (hw.1 _ o) rfl rfl (hw.2.1 _ _ _ o rfl) dX5_moveOn_1 ?_
  refine zW_aload_n 0 dX5_moveOn_4 rfl ?_
  refine zW_getI lk_RX5_35 (hw.1 _ o) rfl rfl dX5_moveOn_5 ?_
  obtain ⟨c1, hf⟩ := zgd hf
  refine zF_iald (hw.1 _ (zokB (r' := 39) o rfl rfl)) rfl c1 rfl dX5_moveOn_8 ?_
  refine zF_istore_n (lv' := fun a2 => [(1, vi a2), (0, .ref (zad X (9, L, 0)))]) dX5_moveOn_9 hf (fun _ => rfl) rfl (fun a2 hf => ?_)
  refine zW_iload_n 0 dX5_moveOn_10 rfl ?_
  refine zW_iconst dX5_moveOn_11 ?_
  refine zF_icmp_ne 28 dX5_moveOn_12 rfl rfl (w32_lit _ rfl) hf (fun c hf => ?_) (fun c hf => ?_)
  · refine zW_aload_n 1 dX5_moveOn_15 rfl ?_
    refine zW_dup dX5_moveOn_16 rfl ?_
    refine zW_getI lk_RX5_48 (hw.1 _ o) rfl rfl dX5_moveOn_17 ?_
    refine zW_iconst dX5_moveOn_20 ?_
    refine zW_iadd dX5_moveOn_21 ?_
    refine zF_put lk_RX5_48 (hw.1 _ o) rfl rfl (zn_int _) dX5_moveOn_22 hf (fun I3 hf => ?_)
    refine zW_goto 62 dX5_moveOn_25 rfl ?_
    refine zW_sub [1] rfl ?_
    exact tX5_moveOn_b62 hw o hf
  · refine zW_aload_n 1 dX5_moveOn_28 rfl ?_
    refine zW_getR (q' := (40, L, 0)) lk_RX5_21 (hw.1 _ o) rfl rfl (hw.2.1 _ _ _ o rfl) dX5_moveOn_29 ?_
    refine zW_aload_n 1 dX5_moveOn_32 rfl ?_
    refine zW_getI lk_RX5_45 (hw.1 _ o) rfl rfl dX5_moveOn_33 ?_
    refine zW_sipush dX5_moveOn_36 rfl ?_
    refine zW_iand_255 dX5_moveOn_39 ?_
    refine zW_iload_n 0 dX5_moveOn_40 rfl ?_
    obtain ⟨c7, hf⟩ := zgd hf
    refine zF_iast (hw.1 _ (zokB (r' := 40) o rfl rfl)) rfl c7 rfl dX5_moveOn_41 hf (fun I8 hf => ?_)
    refine zW_aload_n 1 dX5_moveOn_42 rfl ?_
    refine zW_dup dX5_moveOn_43 rfl ?_
    refine zW_getI lk_RX5_45 (hw.1 _ o) rfl rfl dX5_moveOn_44 ?_
    refine zW_iconst dX5_moveOn_47 ?_
    refine zW_iadd dX5_moveOn_48 ?_
    refine zF_put lk_RX5_45 (hw.1 _ o) rfl rfl (zn_int _) dX5_moveOn_49 hf (fun I9 hf => ?_)
    refine zW_aload_n 1 dX5_moveOn_52 rfl ?_
    refine zW_getR (q' := (39, L, 0)) lk_RX5_17 (hw.1 _ o) rfl rfl (hw.2.1 _ _ _ o rfl) dX5_moveOn_53 ?_
    refine zW_aload_n 1 dX5_moveOn_56 rfl ?_
    refine zW_getI lk_RX5_35 (hw.1 _ o) rfl rfl dX5_moveOn_57 ?_
    refine zW_iconst dX5_moveOn_60 ?_
    obtain ⟨c10, hf⟩ := zgd hf
    refine zF_iast (hw.1 _ (zokB (r' := 39) o rfl rfl)) rfl c10 rfl dX5_moveOn_61 hf (fun I11 hf => ?_)
    refine zW_sub [1] rfl ?_
    exact tX5_moveOn_b62 hw o hf
theorem kX5_moveOn {X : zX} {e : Nat → Prop} (hw : zWf X e) {L : Nat} (o : zOk e (9, L, 0)) {I : zMem} {u : zMem} (hf : fX5_moveOn L I = some u) : zCn X mX5_moveOn yX5_moveOn [.ref (zad X (9, L, 0))] I (none, u) := zCn_of (by decide +kernel) rfl rfl ⟨rfl, rfl⟩ (tX5_moveOn_0 hw.N o hf)
set_option maxRecDepth 100000 in
theorem tX5_farthestStored_b4_30 {X : zX} {e : Nat → Prop} (hw : zWf X e) {T : zT} {L : Nat} {I : zMem} {w1 : Int} {w2 : Int} (o : zOk e (9, L, 0)) {u : ((Int × Int) ⊕ (Int × Int))} (hf : fX5_farthestStored_b4_30 L I w1 w2 = some u) (hk : ∀ s', u = .inl s' → zW X T mX5_farthestStored 4 [(0, .ref (zad X (9, L, 0))), (1, vi s'.1), (2, vi s'.2)] [] I) (hx : ∀ x, u = .inr x → zW X T mX5_farthestStored 36 [(1, vi x.1)] [] I) : zW X T mX5_farthestStored 30 [(0, .ref (zad X (9, L, 0))), (1, vi w1), (2, vi w2)] [] I := by
  unfold fX5_farthestStored_b4_30 at hf
  refine zW_iinc 2 (lv' := [(2, vi (w2 + 1)), (0, .ref (zad X (9, L, 0))), (1, vi w1)]) dX5_farthestStored_30 rfl rfl rfl ?_
  refine zW_goto 4 dX5_farthestStored_33 rfl ?_
  refine zW_sub [1, 2, 0] rfl ?_
  exact hk _ (Option.some.inj hf).symm
set_option maxRecDepth 100000 in
theorem tX5_farthestStored_l4_y {X : zX} {e : Nat → Prop} (hw : zWf X e) {T : zT} {L : Nat} {I : zMem} (o : zOk e (9, L, 0)) (s : (Int × Int)) {u : ((Int × Int) ⊕ (Int × Int))} (hf : fX5_farthestStored_l4 L I s = some u) (hk : ∀ s', u = .inl s' → zW X T mX5_farthestStored 4 [(0, .ref (zad X (9, L, 0))), (1, vi s'.1), (2, vi s'.2)] [] I) (hx : ∀ x, u = .inr x → zW X T mX5_farthestStored 36 [(1, vi x.1)] [] I) : zW X T mX5_farthestStored 4 [(0, .ref (zad X (9, L, 0))), (1, vi s.1), (2, vi s.2)] [] I := by
  unfold fX5_farthestStored_l4 at hf
  refine zW_iload_n 2 dX5_farthestStored_4 rfl ?_
  refine zW_bipush dX5_farthestStored_5 rfl ?_
  refine zF_icmp_ge 36 dX5_farthestStored_7 rfl rfl (w32_lit _ rfl) hf (fun c hf => ?_) (fun c hf => ?_)
  · refine zW_sub [1] rfl ?_
    exact hx _ (Option.some.inj hf).symm
  · refine zW_aload_n 0 dX5_farthestStored_10 rfl ?_
    refine zW_getR (q' := (39, L, 0)) lk_RX5_17 (hw.1 _ o) rfl rfl (hw.2.1 _ _ _ o rfl) dX5_farthestStored_11 ?_
    refine zW_aload_n 0 dX5_farthestStored_14 rfl ?_
    refine zW_getI lk_RX5_35 (hw.1 _ o) rfl rfl dX5_farthestStored_15 ?_
    refine zW_iload_n 2 dX5_farthestStored_18 rfl ?_
    refine zW_iadd dX5_farthestStored_19 ?_
    refine zW_bipush dX5_farthestStored_20 rfl ?_
    refine zW_iand_7 dX5_farthestStored_22 ?_
    obtain ⟨c1, hf⟩ := zgd hf
    refine zF_iald (hw.1 _ (zokB (r' := 39) o rfl rfl)) rfl c1 rfl dX5_farthestStored_23 ?_
    refine zW_iconst dX5_farthestStored_24 ?_
    refine zF_icmp_eq 30 dX5_farthestStored_25 rfl rfl (w32_lit _ rfl) hf (fun c hf => ?_) (fun c hf => ?_)
    · refine zW_sub [0, 1, 2] rfl ?_
      exact tX5_farthestStored_b4_30 hw o hf hk hx
    · refine zW_iload_n 2 dX5_farthestStored_28 rfl ?_
      refine zW_istore_n (lv' := [(1, vi s.2), (0, .ref (zad X (9, L, 0))), (2, vi s.2)]) dX5_farthestStored_29 rfl rfl ?_
      refine zW_sub [1, 0, 2] rfl ?_
      exact tX5_farthestStored_b4_30 hw o hf hk hx
theorem tX5_farthestStored_l4 {X : zX} {e : Nat → Prop} (hw : zWf X e) {T : zT} {L : Nat} {I : zMem} (o : zOk e (9, L, 0)) {s0 : (Int × Int)} {α : Type} {F : (Int × Int) → Option α} {u : α} (hf : zb (zlp (fX5_farthestStored_l4 L I) 5000 s0) F = some u) (kx : ∀ x, F x = some u → zW X T mX5_farthestStored 36 [(1, vi x.1)] [] I) : zW X T mX5_farthestStored 4 [(0, .ref (zad X (9, L, 0))), (1, vi s0.1), (2, vi s0.2)] [] I := by
  obtain ⟨x, h, hf⟩ := zb_inv hf
  exact zlp_W (P := fun s => zW X T mX5_farthestStored 4 [(0, .ref (zad X (9, L, 0))), (1, vi s.1), (2, vi s.2)] [] I) (E := fun x => zW X T mX5_farthestStored 36 [(1, vi x.1)] [] I) (fun s u h hk hx => tX5_farthestStored_l4_y hw o s h hk hx) _ s0 x h (kx x hf)
set_option maxRecDepth 100000 in
theorem tX5_farthestStored_0 {X : zX} {e : Nat → Prop} (hw : zWf X e) {L : Nat} (o : zOk e (9, L, 0)) {I : zMem} {u : Int} (hf : fX5_farthestStored L I = some u) : zW X (some (vi u), I) mX5_farthestStored 0 [(0, .ref (zad X (9, L, 0)))] [] I := by
  unfold fX5_farthestStored at hf
  refine zW_iconst dX5_farthestStored_0 ?_
  refine zW_istore_n (lv' := [(1, vi (-1)), (0, .ref (zad X (9, L, 0)))]) dX5_farthestStored_1 rfl rfl ?_
  refine zW_iconst dX5_farthestStored_2 ?_
  refine zW_istore_n (lv' := [(2, vi 0), (1, vi (-1)), (0, .ref (zad X (9, L, 0)))]) dX5_farthestStored_3 rfl rfl ?_
  refine zW_sub [2, 1, 0] rfl ?_
  refine tX5_farthestStored_l4 hw o (s0 := ((-1), 0)) hf (fun x2 hf => ?_)
  refine zW_iload_n 0 dX5_farthestStored_36 rfl ?_
  exact zS_i hw rfl dX5_farthestStored_37 hf
theorem kX5_farthestStored {X : zX} {e : Nat → Prop} (hw : zWf X e) {L : Nat} (o : zOk e (9, L, 0)) {I : zMem} {u : Int} (hf : fX5_farthestStored L I = some u) : zCn X mX5_farthestStored yX5_farthestStored [.ref (zad X (9, L, 0))] I (some (vi u), I) := zCn_of (by decide +kernel) rfl rfl ⟨rfl, rfl⟩ (tX5_farthestStored_0 hw.N o hf)
set_option maxRecDepth 100000 in
theorem tX5_settle_l2_y {X : zX} {e : Nat → Prop} (hw : zWf X e) {T : zT} {L : Nat} {v1 : Int} (o : zOk e (9, L, 0)) (s : (Int × zMem)) {u : ((Int × zMem) ⊕ (Int × zMem))} (hf : fX5_settle_l2 L v1 s = some u) (hk : ∀ s', u = .inl s' → zW X T mX5_settle 2 [(0, .ref (zad X (9, L, 0))), (1, vi v1), (2, vi s'.1)] [] s'.2) (hx : ∀ x, u = .inr x → zW X T mX5_settle 31 [(0, .ref (zad X (9, L, 0))), (1, vi v1)] [] x.2) : zW X T mX5_settle 2 [(0, .ref (zad X (9, L, 0))), (1, vi v1), (2, vi s.1)] [] s.2 := by
  unfold fX5_settle_l2 at hf
  refine zW_iload_n 2 dX5_settle_2 rfl ?_
  refine zW_bipush dX5_settle_3 rfl ?_
  refine zF_icmp_ge 31 dX5_settle_5 rfl rfl (w32_lit _ rfl) hf (fun c hf => ?_) (fun c hf => ?_)
  · refine zW_sub [0, 1] rfl ?_
    exact hx _ (Option.some.inj hf).symm
  · refine zW_aload_n 0 dX5_settle_8 rfl ?_
    refine zW_getR (q' := (39, L, 0)) lk_RX5_17 (hw.1 _ o) rfl rfl (hw.2.1 _ _ _ o rfl) dX5_settle_9 ?_
    refine zW_aload_n 0 dX5_settle_12 rfl ?_
    refine zW_getI lk_RX5_35 (hw.1 _ o) rfl rfl dX5_settle_13 ?_
    obtain ⟨c1, hf⟩ := zgd hf
    refine zF_iald (hw.1 _ (zokB (r' := 39) o rfl rfl)) rfl c1 rfl dX5_settle_16 ?_
    refine zW_iconst dX5_settle_17 ?_
    refine zF_icmp_eq 31 dX5_settle_18 rfl rfl (w32_lit _ rfl) hf (fun c hf => ?_) (fun c hf => ?_)
    · refine zW_sub [0, 1] rfl ?_
      exact hx _ (Option.some.inj hf).symm
    · refine zW_aload_n 0 dX5_settle_21 rfl ?_
      refine zC_Vwv (As := []) (fun x hx => kX5_moveOn hw (L := L) o hx) mv_RX5_74 (hw.1 _ o) rfl rfl rfl rfl rfl dX5_settle_22 hf (fun r2 hf => ?_)
      refine zW_iinc 2 (lv' := [(2, vi (s.1 + 1)), (0, .ref (zad X (9, L, 0))), (1, vi v1)]) dX5_settle_25 rfl rfl rfl ?_
      refine zW_goto 2 dX5_settle_28 rfl ?_
      refine zW_sub [1, 2, 0] rfl ?_
      exact hk _ (Option.some.inj hf).symm
theorem tX5_settle_l2 {X : zX} {e : Nat → Prop} (hw : zWf X e) {T : zT} {L : Nat} {v1 : Int} (o : zOk e (9, L, 0)) {s0 : (Int × zMem)} {α : Type} {F : (Int × zMem) → Option α} {u : α} (hf : zb (zlp (fX5_settle_l2 L v1) 5000 s0) F = some u) (kx : ∀ x, F x = some u → zW X T mX5_settle 31 [(0, .ref (zad X (9, L, 0))), (1, vi v1)] [] x.2) : zW X T mX5_settle 2 [(0, .ref (zad X (9, L, 0))), (1, vi v1), (2, vi s0.1)] [] s0.2 := by
  obtain ⟨x, h, hf⟩ := zb_inv hf
  exact zlp_W (P := fun s => zW X T mX5_settle 2 [(0, .ref (zad X (9, L, 0))), (1, vi v1), (2, vi s.1)] [] s.2) (E := fun x => zW X T mX5_settle 31 [(0, .ref (zad X (9, L, 0))), (1, vi v1)] [] x.2) (fun s u h hk hx => tX5_settle_l2_y hw o s h hk hx) _ s0 x h (kx x hf)
set_option maxRecDepth 100000 in
theorem tX5_settle_0 {X : zX} {e : Nat → Prop} (hw : zWf X e) {L : Nat} {v1 : Int} (o : zOk e (9, L, 0)) {I : zMem} {u : zMem} (hf : fX5_settle L v1 I = some u) : zW X (none, u) mX5_settle 0 [(0, .ref (zad X (9, L, 0))), (1, vi v1)] [] I := by
  unfold fX5_settle at hf
  refine zW_iconst dX5_settle_0 ?_
  refine zW_istore_n (lv' := [(2, vi 0), (0, .ref (zad X (9, L, 0))), (1, vi v1)]) dX5_settle_1 rfl rfl ?_
  refine zW_sub [1, 2, 0] rfl ?_
  refine tX5_settle_l2 hw o (s0 := (0, I)) hf (fun x3 hf => ?_)
  refine zW_aload_n 0 dX5_settle_31 rfl ?_
  refine zC_Vri (As := []) (fun x hx => kX5_farthestStored hw (L := L) o hx) mv_RX5_77 (hw.1 _ o) rfl rfl rfl rfl rfl dX5_settle_32 hf (fun r4 hf => ?_)
  refine zW_istore_n (lv' := [(2, vi r4), (0, .ref (zad X (9, L, 0))), (1, vi v1)]) dX5_settle_35 rfl rfl ?_
  refine zW_aload_n 1 dX5_settle_36 rfl ?_
  refine zW_getI lk_RX5_39 (hw.1 _ o) rfl rfl dX5_settle_37 ?_
  refine zF_if_ne 60 dX5_settle_40 rfl rfl hf (fun c hf => ?_) (fun c hf => ?_)
  · refine zW_iload_n 0 dX5_settle_43 rfl ?_
    refine zW_iconst dX5_settle_44 ?_
    refine zF_icmp_eq 60 dX5_settle_45 rfl rfl (w32_lit _ rfl) hf (fun c hf => ?_) (fun c hf => ?_)
    · exact zR_v hw rfl dX5_settle_60 hf
    · refine zW_aload_n 1 dX5_settle_48 rfl ?_
      refine zW_iload_n 2 dX5_settle_49 rfl ?_
      refine zF_put lk_RX5_39 (hw.1 _ o) rfl rfl (zn_int _) dX5_settle_50 hf (fun I5 hf => ?_)
      refine zW_aload_n 1 dX5_settle_53 rfl ?_
      refine zW_iload_n 0 dX5_settle_54 rfl ?_
      refine zW_iconst dX5_settle_55 ?_
      refine zW_iadd dX5_settle_56 ?_
      refine zF_put lk_RX5_42 (hw.1 _ o) rfl rfl (zn_int _) dX5_settle_57 hf (fun I6 hf => ?_)
      exact zR_v hw rfl dX5_settle_60 hf
  · exact zR_v hw rfl dX5_settle_60 hf
theorem kX5_settle {X : zX} {e : Nat → Prop} (hw : zWf X e) {L : Nat} {v1 : Int} (o : zOk e (9, L, 0)) {I : zMem} {u : zMem} (hf : fX5_settle L v1 I = some u) : zCn X mX5_settle yX5_settle [.ref (zad X (9, L, 0)), vi v1] I (none, u) := zCn_of (by decide +kernel) rfl rfl ⟨rfl, rfl⟩ (tX5_settle_0 hw.N o hf)
set_option maxRecDepth 100000 in
theorem tX0_hear_l65_y {X : zX} {e : Nat → Prop} (hw : zWf X e) {T : zT} {L2 : Nat} {v2 : Int} {v3 : Int} {v4 : Int} {wp6 : Nat} (o : zOk e (5, 0, 0)) (o2 : zOk e (7, L2, 0)) (wo5 : zOk e (9, L2, 0)) (wo6 : zOk e (11, L2, wp6)) (s : (Int × zMem)) {u : ((Int × zMem) ⊕ (Int × zMem))} (hf : fX0_hear_l65 L2 v2 v3 v4 wp6 s = some u) (hk : ∀ s', u = .inl s' → zW X T mX0_hear 65 [(0, .ref (zad X (5, 0, 0))), (1, .ref (zad X (7, L2, 0))), (4, vi v4), (5, .ref (zad X (9, L2, 0))), (6, .ref (zad X (11, L2, wp6))), (7, vi s'.1)] [] s'.2) (hx : ∀ x, u = .inr x → zW X T mX0_hear 121 [(0, .ref (zad X (5, 0, 0))), (1, .ref (zad X (7, L2, 0))), (5, .ref (zad X (9, L2, 0))), (6, .ref (zad X (11, L2, wp6)))] [] x.2) : zW X T mX0_hear 65 [(0, .ref (zad X (5, 0, 0))), (1, .ref (zad X (7, L2, 0))), (4, vi v4), (5, .ref (zad X (9, L2, 0))), (6, .ref (zad X (11, L2, wp6))), (7, vi s.1)] [] s.2 := by
  unfold fX0_hear_l65 at hf
  refine zW_iload 5 dX0_hear_65 rfl ?_
  refine zW_iload 2 dX0_hear_67 rfl ?_
  refine zF_icmp_ge 121 dX0_hear_69 rfl rfl rfl hf (fun c hf => ?_) (fun c hf => ?_)
  · refine zW_sub [0, 1, 3, 4] rfl ?_
    exact hx _ (Option.some.inj hf).symm
  · refine zW_aload_n 0 dX0_hear_72 rfl ?_
    refine zW_getR (q' := (2, 0, 0)) lk_RX0_26 (hw.1 _ o) rfl rfl (hw.2.1 _ _ _ o rfl) dX0_hear_73 ?_
    refine zW_getR (q' := (20, 0, 0)) lk_RX0_109 (hw.1 _ (zokA (r' := 2) o rfl rfl)) rfl rfl (hw.2.1 _ _ _ (zokA (r' := 2) o rfl rfl) rfl) dX0_hear_76 ?_
    refine zW_iload 5 dX0_hear_79 rfl ?_
    obtain ⟨c3, hf⟩ := zgd hf
    refine zF_iald (hw.1 _ (zokA (r' := 20) (zokA (r' := 2) o rfl rfl) rfl rfl)) rfl c3 rfl dX0_hear_81 ?_
    refine zF_istore (lv' := fun a4 => [(8, vi a4), (0, .ref (zad X (5, 0, 0))), (1, .ref (zad X (7, L2, 0))), (4, vi v4), (5, .ref (zad X (9, L2, 0))), (6, .ref (zad X (11, L2, wp6))), (7, vi s.1)]) dX0_hear_82 hf (fun _ => rfl) rfl (fun a4 hf => ?_)
    refine zW_aload 5 dX0_hear_84 rfl ?_
    refine zW_getR (q' := (41, L2, wp6)) lk_RX0_154 (hw.1 _ wo6) rfl rfl (hw.2.1 _ _ _ wo6 rfl) dX0_hear_86 ?_
    refine zW_iload 0 dX0_hear_89 rfl ?_
    refine zW_aload 5 dX0_hear_91 rfl ?_
    refine zW_getR (q' := (41, L2, wp6)) lk_RX0_154 (hw.1 _ wo6) rfl rfl (hw.2.1 _ _ _ wo6 rfl) dX0_hear_93 ?_
    refine zW_iload 0 dX0_hear_96 rfl ?_
    obtain ⟨c5, hf⟩ := zgd hf
    refine zF_iald (hw.1 _ (zokC (r' := 41) wo6 rfl rfl)) rfl c5 rfl dX0_hear_98 ?_
    refine zW_aload_n 1 dX0_hear_99 rfl ?_
    refine zW_getR (q' := (28, 0, 0)) lk_RX0_9 (hw.1 _ o) rfl rfl (hw.2.1 _ _ _ o rfl) dX0_hear_100 ?_
    refine zW_iload 6 dX0_hear_103 rfl ?_
    refine zF_iald (hw.1 _ (zokA (r' := 28) o rfl rfl)) rfl c3 rfl dX0_hear_105 ?_
    refine zW_iadd dX0_hear_106 ?_
    refine zW_aload_n 2 dX0_hear_107 rfl ?_
    refine zW_getI lk_RX0_157 (hw.1 _ o2) rfl rfl dX0_hear_108 ?_
    refine zC_Sri (As := [vi ((s.2 (41, L2, wp6) (ix a4)) + (s.2 (28, 0, 0) (ix s.1))), vi (s.2 (7, L2, 0) 5)]) (fun x hx => kX0_within hw (v0 := (s.2 (41, L2, wp6) (ix a4)) + (s.2 (28, 0, 0) (ix s.1))) (v1 := s.2 (7, L2, 0) 5)  hx) ms_RX0_116 rfl rfl rfl rfl dX0_hear_111 hf (fun r6 hf => ?_)
    refine zF_iast (hw.1 _ (zokC (r' := 41) wo6 rfl rfl)) rfl c5 rfl dX0_hear_114 hf (fun I7 hf => ?_)
    refine zW_iinc 6 (lv' := [(7, vi (s.1 + 1)), (8, vi a4), (0, .ref (zad X (5, 0, 0))), (1, .ref (zad X (7, L2, 0))), (4, vi v4), (5, .ref (zad X (9, L2, 0))), (6, .ref (zad X (11, L2, wp6)))]) dX0_hear_115 rfl rfl rfl ?_
    refine zW_goto 65 dX0_hear_118 rfl ?_
    refine zW_sub [2, 3, 4, 5, 6, 0] rfl ?_
    exact hk _ (Option.some.inj hf).symm
theorem tX0_hear_l65 {X : zX} {e : Nat → Prop} (hw : zWf X e) {T : zT} {L2 : Nat} {v2 : Int} {v3 : Int} {v4 : Int} {wp6 : Nat} (o : zOk e (5, 0, 0)) (o2 : zOk e (7, L2, 0)) (wo5 : zOk e (9, L2, 0)) (wo6 : zOk e (11, L2, wp6)) {s0 : (Int × zMem)} {α : Type} {F : (Int × zMem) → Option α} {u : α} (hf : zb (zlp (fX0_hear_l65 L2 v2 v3 v4 wp6) 5000 s0) F = some u) (kx : ∀ x, F x = some u → zW X T mX0_hear 121 [(0, .ref (zad X (5, 0, 0))), (1, .ref (zad X (7, L2, 0))), (5, .ref (zad X (9, L2, 0))), (6, .ref (zad X (11, L2, wp6)))] [] x.2) : zW X T mX0_hear 65 [(0, .ref (zad X (5, 0, 0))), (1, .ref (zad X (7, L2, 0))), (4, vi v4), (5, .ref (zad X (9, L2, 0))), (6, .ref (zad X (11, L2, wp6))), (7, vi s0.1)] [] s0.2 := by
  obtain ⟨x, h, hf⟩ := zb_inv hf
  exact zlp_W (P := fun s => zW X T mX0_hear 65 [(0, .ref (zad X (5, 0, 0))), (1, .ref (zad X (7, L2, 0))), (4, vi v4), (5, .ref (zad X (9, L2, 0))), (6, .ref (zad X (11, L2, wp6))), (7, vi s.1)] [] s.2) (E := fun x => zW X T mX0_hear 121 [(0, .ref (zad X (5, 0, 0))), (1, .ref (zad X (7, L2, 0))), (5, .ref (zad X (9, L2, 0))), (6, .ref (zad X (11, L2, wp6)))] [] x.2) (fun s u h hk hx => tX0_hear_l65_y hw o o2 wo5 wo6 s h hk hx) _ s0 x h (kx x hf)
set_option maxRecDepth 100000 in
theorem tX0_hear_b30 {X : zX} {e : Nat → Prop} (hw : zWf X e) {L2 : Nat} {v2 : Int} {v3 : Int} {v4 : Int} {wp6 : Nat} {I : zMem} (o : zOk e (5, 0, 0)) (o2 : zOk e (7, L2, 0)) (wo5 : zOk e (9, L2, 0)) (wo6 : zOk e (11, L2, wp6)) {u : (Int × zMem)} (hf : fX0_hear_b30 L2 v2 v3 v4 wp6 I = some u) : zW X (some (vi u.1), u.2) mX0_hear 30 [(0, .ref (zad X (5, 0, 0))), (1, .ref (zad X (7, L2, 0))), (4, vi v4), (5, .ref (zad X (9, L2, 0))), (6, .ref (zad X (11, L2, wp6)))] [] I := by
  unfold fX0_hear_b30 at hf
  refine zW_aload 4 dX0_hear_30 rfl ?_
  refine zW_getI lk_RX0_145 (hw.1 _ wo6) rfl rfl dX0_hear_32 ?_
  refine zF_if_eq 51 dX0_hear_35 rfl rfl hf (fun c hf => ?_) (fun c hf => ?_)
  · refine zW_aload 4 dX0_hear_51 rfl ?_
    refine zW_dup dX0_hear_53 rfl ?_
    refine zW_getI lk_RX0_151 (hw.1 _ wo6) rfl rfl dX0_hear_54 ?_
    refine zW_iconst dX0_hear_57 ?_
    refine zW_iadd dX0_hear_58 ?_
    refine zF_put lk_RX0_151 (hw.1 _ wo6) rfl rfl (zn_int _) dX0_hear_59 hf (fun I2 hf => ?_)
    refine zW_iconst dX0_hear_62 ?_
    refine zW_istore (lv' := [(7, vi 0), (0, .ref (zad X (5, 0, 0))), (1, .ref (zad X (7, L2, 0))), (4, vi v4), (5, .ref (zad X (9, L2, 0))), (6, .ref (zad X (11, L2, wp6)))]) dX0_hear_63 rfl rfl ?_
    refine zW_sub [1, 2, 3, 4, 5, 0] rfl ?_
    refine tX0_hear_l65 hw o o2 wo5 wo6 (s0 := (0, I2)) hf (fun x8 hf => ?_)
    refine zW_aload_n 0 dX0_hear_121 rfl ?_
    refine zW_getR (q' := (4, 0, 0)) lk_RX0_30 (hw.1 _ o) rfl rfl (hw.2.1 _ _ _ o rfl) dX0_hear_122 ?_
    refine zW_aload 3 dX0_hear_125 rfl ?_
    refine zW_getR (q' := (41, L2, wp6)) lk_RX0_154 (hw.1 _ wo6) rfl rfl (hw.2.1 _ _ _ wo6 rfl) dX0_hear_127 ?_
    refine zC_Vwi (As := [.ref (zad X (41, L2, wp6))]) (fun x hx => kX2_bestWord hw (q1 := (41, L2, wp6)) (zokA (r' := 4) o rfl rfl) (hw.1 _ (zokC (r' := 41) wo6 rfl rfl)) rfl hx) mv_RX0_160 (hw.1 _ (zokA (r' := 4) o rfl rfl)) rfl rfl rfl rfl rfl dX0_hear_130 hf (fun r9 hf => ?_)
    refine zW_istore (lv' := [(7, vi r9.1), (0, .ref (zad X (5, 0, 0))), (1, .ref (zad X (7, L2, 0))), (5, .ref (zad X (9, L2, 0))), (6, .ref (zad X (11, L2, wp6)))]) dX0_hear_133 rfl rfl ?_
    refine zW_iload 0 dX0_hear_135 rfl ?_
    refine zC_Sri (As := [vi r9.1]) (fun x hx => kX1_isWhole hw (v0 := r9.1)  hx) ms_RX0_166 rfl rfl rfl rfl dX0_hear_137 hf (fun r10 hf => ?_)
    refine zF_if_ne 145 dX0_hear_140 rfl rfl hf (fun c hf => ?_) (fun c hf => ?_)
    · refine zW_iconst dX0_hear_143 ?_
      exact zR_i hw rfl dX0_hear_144 hf
    · refine zW_aload 4 dX0_hear_145 rfl ?_
      refine zW_iconst dX0_hear_147 ?_
      refine zF_put lk_RX0_145 (hw.1 _ wo6) rfl rfl (zn_bool (Or.inr rfl)) dX0_hear_148 hf (fun I11 hf => ?_)
      refine zW_aload 3 dX0_hear_151 rfl ?_
      refine zW_iload 0 dX0_hear_153 rfl ?_
      refine zW_bipush dX0_hear_155 rfl ?_
      refine zW_ishr dX0_hear_157 ?_
      refine zW_bipush dX0_hear_158 rfl ?_
      refine zW_iand_7 dX0_hear_160 ?_
      refine zW_iload 0 dX0_hear_161 rfl ?_
      refine zW_iconst dX0_hear_163 ?_
      refine zW_ishr dX0_hear_164 ?_
      refine zW_bipush dX0_hear_165 rfl ?_
      refine zW_iand_31 dX0_hear_167 ?_
      refine zW_aload_n 2 dX0_hear_168 rfl ?_
      refine zW_getI lk_RX0_170 (hw.1 _ o2) rfl rfl dX0_hear_169 ?_
      refine zC_Vwv (As := [vi ((ishr r9.1 8) % 8), vi ((ishr r9.1 3) % 32), vi (I11 (7, L2, 0) 1)]) (fun x hx => kX5_shelve hw (L := L2) (v1 := (ishr r9.1 8) % 8) (v2 := (ishr r9.1 3) % 32) (v3 := I11 (7, L2, 0) 1) wo5 hx) mv_RX0_173 (hw.1 _ wo5) rfl rfl rfl rfl rfl dX0_hear_172 hf (fun r12 hf => ?_)
      refine zW_aload 3 dX0_hear_175 rfl ?_
      refine zW_aload_n 2 dX0_hear_177 rfl ?_
      refine zW_getI lk_RX0_176 (hw.1 _ o2) rfl rfl dX0_hear_178 ?_
      refine zC_Vwv (As := [vi (r12 (7, L2, 0) 2)]) (fun x hx => kX5_settle hw (L := L2) (v1 := r12 (7, L2, 0) 2) wo5 hx) mv_RX0_179 (hw.1 _ wo5) rfl rfl rfl rfl rfl dX0_hear_181 hf (fun r13 hf => ?_)
      refine zW_iconst dX0_hear_184 ?_
      exact zR_i hw rfl dX0_hear_185 hf
  · refine zW_aload 3 dX0_hear_38 rfl ?_
    refine zW_dup dX0_hear_40 rfl ?_
    refine zW_getI lk_RX0_148 (hw.1 _ wo5) rfl rfl dX0_hear_41 ?_
    refine zW_iconst dX0_hear_44 ?_
    refine zW_iadd dX0_hear_45 ?_
    refine zF_put lk_RX0_148 (hw.1 _ wo5) rfl rfl (zn_int _) dX0_hear_46 hf (fun I14 hf => ?_)
    refine zW_iconst dX0_hear_49 ?_
    exact zR_i hw rfl dX0_hear_50 hf
set_option maxRecDepth 100000 in
theorem tX0_hear_0 {X : zX} {e : Nat → Prop} (hw : zWf X e) {L2 : Nat} {v2 : Int} {v3 : Int} {v4 : Int} (o : zOk e (5, 0, 0)) (o2 : zOk e (7, L2, 0)) {I : zMem} {u : (Int × zMem)} (hf : fX0_hear L2 v2 v3 v4 I = some u) : zW X (some (vi u.1), u.2) mX0_hear 0 [(0, .ref (zad X (5, 0, 0))), (1, .ref (zad X (7, L2, 0))), (2, vi v2), (3, vi v3), (4, vi v4)] [] I := by
  unfold fX0_hear at hf
  refine zW_aload_n 1 dX0_hear_0 rfl ?_
  refine zW_getR (q' := (9, L2, 0)) lk_RX0_126 (hw.1 _ o2) rfl rfl (hw.2.1 _ _ _ o2 rfl) dX0_hear_1 ?_
  refine zW_astore (lv' := [(5, .ref (zad X (9, L2, 0))), (0, .ref (zad X (5, 0, 0))), (1, .ref (zad X (7, L2, 0))), (2, vi v2), (3, vi v3), (4, vi v4)]) dX0_hear_4 rfl rfl ?_
  refine zW_aload 0 dX0_hear_6 rfl ?_
  refine zW_getR (q' := (38, L2, 0)) lk_RX0_130 (hw.1 _ (zokB (r' := 9) o2 rfl rfl)) rfl rfl (hw.2.1 _ _ _ (zokB (r' := 9) o2 rfl rfl) rfl) dX0_hear_8 ?_
  refine zW_iload_n 3 dX0_hear_11 rfl ?_
  obtain ⟨c1, hf⟩ := zgd hf
  refine zW_aald (q' := (11, L2, ix v2)) 4 rfl rfl (hw.1 _ (zokB (r' := 38) (zokB (r' := 9) o2 rfl rfl) rfl rfl)) rfl rfl c1 (hw.2.1 _ _ _ (zokB (r' := 38) (zokB (r' := 9) o2 rfl rfl) rfl rfl) rfl) dX0_hear_12 ?_
  refine zW_astore (lv' := [(6, .ref (zad X (11, L2, ix v2))), (5, .ref (zad X (9, L2, 0))), (0, .ref (zad X (5, 0, 0))), (1, .ref (zad X (7, L2, 0))), (2, vi v2), (3, vi v3), (4, vi v4)]) dX0_hear_13 rfl rfl ?_
  refine zW_aload 0 dX0_hear_15 rfl ?_
  refine zW_getI lk_RX0_136 (hw.1 _ (zokE (r' := 11) (zokB (r' := 38) (zokB (r' := 9) o2 rfl rfl) rfl rfl) rfl rfl c1)) rfl rfl dX0_hear_17 ?_
  refine zW_iload_n 5 dX0_hear_20 rfl ?_
  refine zF_icmp_eq 30 dX0_hear_21 rfl rfl rfl hf (fun c hf => ?_) (fun c hf => ?_)
  · refine zW_sub [2, 3, 6, 1, 0] rfl ?_
    exact tX0_hear_b30 hw o o2 (zokB (r' := 9) o2 rfl rfl) (zokE (r' := 11) (zokB (r' := 38) (zokB (r' := 9) o2 rfl rfl) rfl rfl) rfl rfl c1) hf
  · refine zW_aload 0 dX0_hear_24 rfl ?_
    refine zW_iload_n 5 dX0_hear_26 rfl ?_
    refine zC_Vwv (As := [vi v3]) (fun x hx => kX3_begin hw (L := L2) (p := ix v2) (v1 := v3) (zokE (r' := 11) (zokB (r' := 38) (zokB (r' := 9) o2 rfl rfl) rfl rfl) rfl rfl c1) hx) mv_RX0_141 (hw.1 _ (zokE (r' := 11) (zokB (r' := 38) (zokB (r' := 9) o2 rfl rfl) rfl rfl) rfl rfl c1)) rfl rfl rfl rfl rfl dX0_hear_27 hf (fun r15 hf => ?_)
    refine zW_sub [2, 3, 6, 1, 0] rfl ?_
    exact tX0_hear_b30 hw o o2 (zokB (r' := 9) o2 rfl rfl) (zokE (r' := 11) (zokB (r' := 38) (zokB (r' := 9) o2 rfl rfl) rfl rfl) rfl rfl c1) hf
theorem kX0_hear {X : zX} {e : Nat → Prop} (hw : zWf X e) {L2 : Nat} {v2 : Int} {v3 : Int} {v4 : Int} (o : zOk e (5, 0, 0)) (o2 : zOk e (7, L2, 0)) {I : zMem} {u : (Int × zMem)} (hf : fX0_hear L2 v2 v3 v4 I = some u) : zCn X mX0_hear yX0_hear [.ref (zad X (5, 0, 0)), .ref (zad X (7, L2, 0)), vi v2, vi v3, vi v4] I (some (vi u.1), u.2) := zCn_of (by decide +kernel) rfl rfl ⟨rfl, rfl⟩ (tX0_hear_0 hw.N o o2 hf)
set_option maxRecDepth 100000 in
theorem tX0_transmit_b136_172 {X : zX} {e : Nat → Prop} (hw : zWf X e) {T : zT} {L2 : Nat} {v2 : Int} {v3 : Int} {v4 : Int} {wp5 : Nat} {w6 : Int} {w8 : Int} {k0 : Int} {I : zMem} (o : zOk e (5, 0, 0)) (o2 : zOk e (7, L2, 0)) (wo5 : zOk e (10, L2, wp5)) {u : ((Int × zMem) ⊕ (Int × zMem))} (hf : fX0_transmit_b136_172 L2 v2 v3 v4 wp5 w6 w8 k0 I = some u) (hk : ∀ s', u = .inl s' → zW X T mX0_transmit 136 [(0, .ref (zad X (5, 0, 0))), (1, .ref (zad X (7, L2, 0))), (2, vi v2), (3, vi v3), (5, .ref (zad X (10, L2, wp5))), (6, vl w6), (8, vi s'.1)] [] s'.2) (hx : ∀ x, u = .inr x → zW X T mX0_transmit 202 [(0, .ref (zad X (5, 0, 0))), (1, .ref (zad X (7, L2, 0))), (2, vi v2), (3, vi v3), (5, .ref (zad X (10, L2, wp5)))] [] x.2) : zW X T mX0_transmit 172 [(0, .ref (zad X (5, 0, 0))), (1, .ref (zad X (7, L2, 0))), (2, vi v2), (3, vi v3), (5, .ref (zad X (10, L2, wp5))), (6, vl w6), (8, vi w8)] [vi k0] I := by
  unfold fX0_transmit_b136_172 at hf
  refine zW_istore (lv' := [(9, vi k0), (0, .ref (zad X (5, 0, 0))), (1, .ref (zad X (7, L2, 0))), (2, vi v2), (3, vi v3), (5, .ref (zad X (10, L2, wp5))), (6, vl w6), (8, vi w8)]) dX0_transmit_172 rfl rfl ?_
  refine zW_aload_n 1 dX0_transmit_174 rfl ?_
  refine zW_getR (q' := (28, 0, 0)) lk_RX0_9 (hw.1 _ o) rfl rfl (hw.2.1 _ _ _ o rfl) dX0_transmit_175 ?_
  refine zW_iload 7 dX0_transmit_178 rfl ?_
  refine zW_iload 0 dX0_transmit_180 rfl ?_
  refine zW_aload_n 1 dX0_transmit_182 rfl ?_
  refine zW_getR (q' := (28, 0, 0)) lk_RX0_9 (hw.1 _ o) rfl rfl (hw.2.1 _ _ _ o rfl) dX0_transmit_183 ?_
  refine zW_iload 7 dX0_transmit_186 rfl ?_
  obtain ⟨c14, hf⟩ := zgd hf
  refine zF_iald (hw.1 _ (zokA (r' := 28) o rfl rfl)) rfl c14 rfl dX0_transmit_188 ?_
  refine zW_iadd dX0_transmit_189 ?_
  refine zW_bipush dX0_transmit_190 rfl ?_
  refine zC_Sri (As := [vi (k0 + (I (28, 0, 0) (ix w8))), vi 127]) (fun x hx => kX0_within hw (v0 := k0 + (I (28, 0, 0) (ix w8))) (v1 := 127)  hx) ms_RX0_116 rfl rfl rfl rfl dX0_transmit_192 hf (fun r15 hf => ?_)
  refine zF_iast (hw.1 _ (zokA (r' := 28) o rfl rfl)) rfl c14 rfl dX0_transmit_195 hf (fun I16 hf => ?_)
  refine zW_iinc 7 (lv' := [(8, vi (w8 + 1)), (9, vi k0), (0, .ref (zad X (5, 0, 0))), (1, .ref (zad X (7, L2, 0))), (2, vi v2), (3, vi v3), (5, .ref (zad X (10, L2, wp5))), (6, vl w6)]) dX0_transmit_196 rfl rfl rfl ?_
  refine zW_goto 136 dX0_transmit_199 rfl ?_
  refine zW_sub [2, 3, 4, 5, 6, 7, 0] rfl ?_
  exact hk _ (Option.some.inj hf).symm
set_option maxRecDepth 100000 in
theorem tX0_transmit_l136_y {X : zX} {e : Nat → Prop} (hw : zWf X e) {T : zT} {L2 : Nat} {v2 : Int} {v3 : Int} {v4 : Int} {wp5 : Nat} {w6 : Int} (o : zOk e (5, 0, 0)) (o2 : zOk e (7, L2, 0)) (wo5 : zOk e (10, L2, wp5)) (s : (Int × zMem)) {u : ((Int × zMem) ⊕ (Int × zMem))} (hf : fX0_transmit_l136 L2 v2 v3 v4 wp5 w6 s = some u) (hk : ∀ s', u = .inl s' → zW X T mX0_transmit 136 [(0, .ref (zad X (5, 0, 0))), (1, .ref (zad X (7, L2, 0))), (2, vi v2), (3, vi v3), (5, .ref (zad X (10, L2, wp5))), (6, vl w6), (8, vi s'.1)] [] s'.2) (hx : ∀ x, u = .inr x → zW X T mX0_transmit 202 [(0, .ref (zad X (5, 0, 0))), (1, .ref (zad X (7, L2, 0))), (2, vi v2), (3, vi v3), (5, .ref (zad X (10, L2, wp5)))] [] x.2) : zW X T mX0_transmit 136 [(0, .ref (zad X (5, 0, 0))), (1, .ref (zad X (7, L2, 0))), (2, vi v2), (3, vi v3), (5, .ref (zad X (10, L2, wp5))), (6, vl w6), (8, vi s.1)] [] s.2 := by
  unfold fX0_transmit_l136 at hf
  refine zW_iload 6 dX0_transmit_136 rfl ?_
  refine zW_iload_n 3 dX0_transmit_138 rfl ?_
  refine zF_icmp_ge 202 dX0_transmit_139 rfl rfl rfl hf (fun c hf => ?_) (fun c hf => ?_)
  · refine zW_sub [0, 1, 2, 3, 4] rfl ?_
    exact hx _ (Option.some.inj hf).symm
  · refine zW_lload 5 dX0_transmit_142 rfl ?_
    refine zW_aload_n 0 dX0_transmit_144 rfl ?_
    refine zW_getR (q' := (2, 0, 0)) lk_RX0_26 (hw.1 _ o) rfl rfl (hw.2.1 _ _ _ o rfl) dX0_transmit_145 ?_
    refine zW_getR (q' := (20, 0, 0)) lk_RX0_109 (hw.1 _ (zokA (r' := 2) o rfl rfl)) rfl rfl (hw.2.1 _ _ _ (zokA (r' := 2) o rfl rfl) rfl) dX0_transmit_148 ?_
    refine zW_iload 6 dX0_transmit_151 rfl ?_
    obtain ⟨c12, hf⟩ := zgd hf
    refine zF_iald (hw.1 _ (zokA (r' := 20) (zokA (r' := 2) o rfl rfl) rfl rfl)) rfl c12 rfl dX0_transmit_153 ?_
    refine zC_Sri (As := [vl w6, vi (s.2 (20, 0, 0) (ix s.1))]) (fun x hx => kX1_isOne hw (v0 := w6) (v2 := s.2 (20, 0, 0) (ix s.1))  hx) ms_RX0_112 rfl rfl rfl rfl dX0_transmit_154 hf (fun r13 hf => ?_)
    refine zF_if_eq 167 dX0_transmit_157 rfl rfl hf (fun c hf => ?_) (fun c hf => ?_)
    · refine zW_aload_n 1 dX0_transmit_167 rfl ?_
      refine zW_getI lk_RX0_93 (hw.1 _ o2) rfl rfl dX0_transmit_168 ?_
      refine zW_ineg dX0_transmit_171 ?_
      refine zW_sub [0, 1, 2, 3, 4, 5, 6] rfl ?_
      exact tX0_transmit_b136_172 hw o o2 wo5 hf hk hx
    · refine zW_aload_n 1 dX0_transmit_160 rfl ?_
      refine zW_getI lk_RX0_93 (hw.1 _ o2) rfl rfl dX0_transmit_161 ?_
      refine zW_goto 172 dX0_transmit_164 rfl ?_
      refine zW_sub [0, 1, 2, 3, 4, 5, 6] rfl ?_
      exact tX0_transmit_b136_172 hw o o2 wo5 hf hk hx
theorem tX0_transmit_l136 {X : zX} {e : Nat → Prop} (hw : zWf X e) {T : zT} {L2 : Nat} {v2 : Int} {v3 : Int} {v4 : Int} {wp5 : Nat} {w6 : Int} (o : zOk e (5, 0, 0)) (o2 : zOk e (7, L2, 0)) (wo5 : zOk e (10, L2, wp5)) {s0 : (Int × zMem)} {α : Type} {F : (Int × zMem) → Option α} {u : α} (hf : zb (zlp (fX0_transmit_l136 L2 v2 v3 v4 wp5 w6) 5000 s0) F = some u) (kx : ∀ x, F x = some u → zW X T mX0_transmit 202 [(0, .ref (zad X (5, 0, 0))), (1, .ref (zad X (7, L2, 0))), (2, vi v2), (3, vi v3), (5, .ref (zad X (10, L2, wp5)))] [] x.2) : zW X T mX0_transmit 136 [(0, .ref (zad X (5, 0, 0))), (1, .ref (zad X (7, L2, 0))), (2, vi v2), (3, vi v3), (5, .ref (zad X (10, L2, wp5))), (6, vl w6), (8, vi s0.1)] [] s0.2 := by
  obtain ⟨x, h, hf⟩ := zb_inv hf
  exact zlp_W (P := fun s => zW X T mX0_transmit 136 [(0, .ref (zad X (5, 0, 0))), (1, .ref (zad X (7, L2, 0))), (2, vi v2), (3, vi v3), (5, .ref (zad X (10, L2, wp5))), (6, vl w6), (8, vi s.1)] [] s.2) (E := fun x => zW X T mX0_transmit 202 [(0, .ref (zad X (5, 0, 0))), (1, .ref (zad X (7, L2, 0))), (2, vi v2), (3, vi v3), (5, .ref (zad X (10, L2, wp5)))] [] x.2) (fun s u h hk hx => tX0_transmit_l136_y hw o o2 wo5 s h hk hx) _ s0 x h (kx x hf)
set_option maxRecDepth 100000 in
theorem tX0_transmit_b101 {X : zX} {e : Nat → Prop} (hw : zWf X e) {L2 : Nat} {v2 : Int} {v3 : Int} {v4 : Int} {wp5 : Nat} {k0 : Int} {kp1 : Nat} {I : zMem} (o : zOk e (5, 0, 0)) (o2 : zOk e (7, L2, 0)) (wo5 : zOk e (10, L2, wp5)) (ko1 : zOk e (10, L2, kp1)) {u : (Int × zMem)} (hf : fX0_transmit_b101 L2 v2 v3 v4 wp5 k0 kp1 I = some u) : zW X (some (vi u.1), u.2) mX0_transmit 101 [(0, .ref (zad X (5, 0, 0))), (1, .ref (zad X (7, L2, 0))), (2, vi v2), (3, vi v3), (5, .ref (zad X (10, L2, wp5)))] [vi k0, .ref (zad X (10, L2, kp1))] I := by
  unfold fX0_transmit_b101 at hf
  obtain ⟨c, hf⟩ := zgd hf
  refine zF_put lk_RX0_96 (hw.1 _ ko1) rfl rfl (zn_bool c) dX0_transmit_101 hf (fun I8 hf => ?_)
  refine zW_aload 4 dX0_transmit_104 rfl ?_
  refine zW_getI lk_RX0_96 (hw.1 _ wo5) rfl rfl dX0_transmit_106 ?_
  refine zF_if_ne 114 dX0_transmit_109 rfl rfl hf (fun c hf => ?_) (fun c hf => ?_)
  · refine zW_iconst dX0_transmit_112 ?_
    exact zR_i hw rfl dX0_transmit_113 hf
  · refine zW_aload_n 0 dX0_transmit_114 rfl ?_
    refine zW_getR (q' := (1, 0, 0)) lk_RX0_22 (hw.1 _ o) rfl rfl (hw.2.1 _ _ _ o rfl) dX0_transmit_115 ?_
    refine zW_getR (q' := (16, 0, 0)) lk_RX0_99 (hw.1 _ (zokA (r' := 1) o rfl rfl)) rfl rfl (hw.2.1 _ _ _ (zokA (r' := 1) o rfl rfl) rfl) dX0_transmit_118 ?_
    refine zW_aload_n 1 dX0_transmit_121 rfl ?_
    refine zW_getR (q' := (8, L2, 0)) lk_RX0_49 (hw.1 _ o2) rfl rfl (hw.2.1 _ _ _ o2 rfl) dX0_transmit_122 ?_
    refine zW_aload 4 dX0_transmit_125 rfl ?_
    refine zC_Vri (As := [.ref (zad X (10, L2, wp5))]) (fun x hx => kX7_wordOn hw (L := L2) (L2 := L2) (p2 := wp5) (zokB (r' := 8) o2 rfl rfl) wo5 hx) mv_RX0_105 (hw.1 _ (zokB (r' := 8) o2 rfl rfl)) rfl rfl rfl rfl rfl dX0_transmit_127 hf (fun r9 hf => ?_)
    obtain ⟨c10, hf⟩ := zgd hf
    refine zF_lald (hw.1 _ (zokA (r' := 16) (zokA (r' := 1) o rfl rfl) rfl rfl)) rfl c10 rfl dX0_transmit_130 ?_
    refine zF_lstore (lv' := fun a11 => [(6, vl a11), (0, .ref (zad X (5, 0, 0))), (1, .ref (zad X (7, L2, 0))), (2, vi v2), (3, vi v3), (5, .ref (zad X (10, L2, wp5)))]) dX0_transmit_131 hf (fun _ => rfl) rfl (fun a11 hf => ?_)
    refine zW_iconst dX0_transmit_133 ?_
    refine zW_istore (lv' := [(8, vi 0), (6, vl a11), (0, .ref (zad X (5, 0, 0))), (1, .ref (zad X (7, L2, 0))), (2, vi v2), (3, vi v3), (5, .ref (zad X (10, L2, wp5)))]) dX0_transmit_134 rfl rfl ?_
    refine zW_sub [2, 3, 4, 5, 6, 1, 0] rfl ?_
    refine tX0_transmit_l136 hw o o2 wo5 (s0 := (0, I8)) hf (fun x17 hf => ?_)
    refine zW_aload_n 0 dX0_transmit_202 rfl ?_
    refine zW_aload_n 1 dX0_transmit_203 rfl ?_
    refine zW_iload_n 2 dX0_transmit_204 rfl ?_
    refine zW_aload 4 dX0_transmit_205 rfl ?_
    refine zW_getI lk_RX0_119 (hw.1 _ wo5) rfl rfl dX0_transmit_207 ?_
    refine zW_iload_n 3 dX0_transmit_210 rfl ?_
    refine zC_Vwi (As := [.ref (zad X (7, L2, 0)), vi v2, vi (x17.2 (10, L2, wp5) 1), vi v3]) (fun x hx => kX0_hear hw (L2 := L2) (v2 := v2) (v3 := x17.2 (10, L2, wp5) 1) (v4 := v3) o o2 hx) mv_RX0_122 (hw.1 _ o) rfl rfl rfl rfl rfl dX0_transmit_211 hf (fun r18 hf => ?_)
    exact zR_i hw rfl dX0_transmit_214 hf
set_option maxRecDepth 100000 in
theorem tX0_transmit_b100 {X : zX} {e : Nat → Prop} (hw : zWf X e) {L2 : Nat} {v2 : Int} {v3 : Int} {v4 : Int} {wp5 : Nat} {kp0 : Nat} {I : zMem} (o : zOk e (5, 0, 0)) (o2 : zOk e (7, L2, 0)) (wo5 : zOk e (10, L2, wp5)) (ko0 : zOk e (10, L2, kp0)) {u : (Int × zMem)} (hf : fX0_transmit_b100 L2 v2 v3 v4 wp5 kp0 I = some u) : zW X (some (vi u.1), u.2) mX0_transmit 100 [(0, .ref (zad X (5, 0, 0))), (1, .ref (zad X (7, L2, 0))), (2, vi v2), (3, vi v3), (5, .ref (zad X (10, L2, wp5)))] [.ref (zad X (10, L2, kp0))] I := by
  unfold fX0_transmit_b100 at hf
  refine zW_iconst dX0_transmit_100 ?_
  refine zW_sub [0, 1, 2, 3, 4] rfl ?_
  exact tX0_transmit_b101 hw o o2 wo5 ko0 hf
set_option maxRecDepth 100000 in
theorem tX0_transmit_b29 {X : zX} {e : Nat → Prop} (hw : zWf X e) {L2 : Nat} {v2 : Int} {v3 : Int} {v4 : Int} {wp5 : Nat} {I : zMem} (o : zOk e (5, 0, 0)) (o2 : zOk e (7, L2, 0)) (wo5 : zOk e (10, L2, wp5)) {u : (Int × zMem)} (hf : fX0_transmit_b29 L2 v2 v3 v4 wp5 I = some u) : zW X (some (vi u.1), u.2) mX0_transmit 29 [(0, .ref (zad X (5, 0, 0))), (1, .ref (zad X (7, L2, 0))), (2, vi v2), (3, vi v3), (4, vi v4), (5, .ref (zad X (10, L2, wp5)))] [] I := by
  unfold fX0_transmit_b29 at hf
  refine zW_aload_n 0 dX0_transmit_29 rfl ?_
  refine zW_getR (q' := (2, 0, 0)) lk_RX0_26 (hw.1 _ o) rfl rfl (hw.2.1 _ _ _ o rfl) dX0_transmit_30 ?_
  refine zW_aload_n 1 dX0_transmit_33 rfl ?_
  refine zW_getI lk_RX0_68 (hw.1 _ o2) rfl rfl dX0_transmit_34 ?_
  refine zW_getv rfl rfl dX0_transmit_37 ?_
  refine zW_aload 5 dX0_transmit_40 rfl ?_
  refine zW_getI lk_RX0_74 (hw.1 _ wo5) rfl rfl dX0_transmit_42 ?_
  refine zW_iconst dX0_transmit_45 ?_
  refine zW_iand_3 dX0_transmit_46 ?_
  obtain ⟨c3, hf⟩ := zgd hf
  refine zW_vald c3 dX0_transmit_47 ?_
  refine zW_iload_n 3 dX0_transmit_48 rfl ?_
  refine zC_Vwv (As := [vi (I (7, L2, 0) 4), vi (zver (ix ((I (10, L2, wp5) 2) % 4))), vi v3]) (fun x hx => kX6_lay hw (v1 := I (7, L2, 0) 4) (v2 := zver (ix ((I (10, L2, wp5) 2) % 4))) (v3 := v3) (zokA (r' := 2) o rfl rfl) hx) mv_RX0_77 (hw.1 _ (zokA (r' := 2) o rfl rfl)) rfl rfl rfl rfl rfl dX0_transmit_49 hf (fun r4 hf => ?_)
  refine zW_aload_n 0 dX0_transmit_52 rfl ?_
  refine zW_getR (q' := (2, 0, 0)) lk_RX0_26 (hw.1 _ o) rfl rfl (hw.2.1 _ _ _ o rfl) dX0_transmit_53 ?_
  refine zW_aload 5 dX0_transmit_56 rfl ?_
  refine zW_getR (q' := (37, L2, wp5)) lk_RX0_83 (hw.1 _ wo5) rfl rfl (hw.2.1 _ _ _ wo5 rfl) dX0_transmit_58 ?_
  refine zW_iload_n 3 dX0_transmit_61 rfl ?_
  refine zC_Vwv (As := [.ref (zad X (37, L2, wp5)), vi v3]) (fun x hx => kX6_addTo hw (q1 := (37, L2, wp5)) (v2 := v3) (zokA (r' := 2) o rfl rfl) (hw.1 _ (zokC (r' := 37) wo5 rfl rfl)) rfl hx) mv_RX0_86 (hw.1 _ (zokA (r' := 2) o rfl rfl)) rfl rfl rfl rfl rfl dX0_transmit_62 hf (fun r5 hf => ?_)
  refine zW_aload 5 dX0_transmit_65 rfl ?_
  refine zW_dup dX0_transmit_67 rfl ?_
  refine zW_getI lk_RX0_74 (hw.1 _ wo5) rfl rfl dX0_transmit_68 ?_
  refine zW_iconst dX0_transmit_71 ?_
  refine zW_iadd dX0_transmit_72 ?_
  refine zF_put lk_RX0_74 (hw.1 _ wo5) rfl rfl (zn_int _) dX0_transmit_73 hf (fun I6 hf => ?_)
  refine zW_aload 5 dX0_transmit_76 rfl ?_
  refine zW_iconst dX0_transmit_78 ?_
  refine zF_put lk_RX0_89 (hw.1 _ wo5) rfl rfl (zn_bool (Or.inr rfl)) dX0_transmit_79 hf (fun I7 hf => ?_)
  refine zW_aload 5 dX0_transmit_82 rfl ?_
  refine zW_iload 4 dX0_transmit_84 rfl ?_
  refine zF_if_eq 100 dX0_transmit_86 rfl rfl hf (fun c hf => ?_) (fun c hf => ?_)
  · refine zW_sub [0, 1, 2, 3, 5] rfl ?_
    exact tX0_transmit_b100 hw o o2 wo5 wo5 hf
  · refine zW_aload_n 1 dX0_transmit_89 rfl ?_
    refine zW_getI lk_RX0_93 (hw.1 _ o2) rfl rfl dX0_transmit_90 ?_
    refine zF_if_le 100 dX0_transmit_93 rfl rfl hf (fun c hf => ?_) (fun c hf => ?_)
    · refine zW_sub [0, 1, 2, 3, 5] rfl ?_
      exact tX0_transmit_b100 hw o o2 wo5 wo5 hf
    · refine zW_iconst dX0_transmit_96 ?_
      refine zW_goto 101 dX0_transmit_97 rfl ?_
      refine zW_sub [0, 1, 2, 3, 5] rfl ?_
      exact tX0_transmit_b101 hw o o2 wo5 wo5 hf
set_option maxRecDepth 100000 in
theorem tX0_transmit_0 {X : zX} {e : Nat → Prop} (hw : zWf X e) {L2 : Nat} {v2 : Int} {v3 : Int} {v4 : Int} (o : zOk e (5, 0, 0)) (o2 : zOk e (7, L2, 0)) {I : zMem} {u : (Int × zMem)} (hf : fX0_transmit L2 v2 v3 v4 I = some u) : zW X (some (vi u.1), u.2) mX0_transmit 0 [(0, .ref (zad X (5, 0, 0))), (1, .ref (zad X (7, L2, 0))), (2, vi v2), (3, vi v3), (4, vi v4)] [] I := by
  unfold fX0_transmit at hf
  refine zW_aload_n 1 dX0_transmit_0 rfl ?_
  refine zW_getR (q' := (8, L2, 0)) lk_RX0_49 (hw.1 _ o2) rfl rfl (hw.2.1 _ _ _ o2 rfl) dX0_transmit_1 ?_
  refine zW_getR (q' := (32, L2, 0)) lk_RX0_53 (hw.1 _ (zokB (r' := 8) o2 rfl rfl)) rfl rfl (hw.2.1 _ _ _ (zokB (r' := 8) o2 rfl rfl) rfl) dX0_transmit_4 ?_
  refine zW_iload_n 2 dX0_transmit_7 rfl ?_
  obtain ⟨c1, hf⟩ := zgd hf
  refine zW_aald (q' := (10, L2, ix v2)) 6 rfl rfl (hw.1 _ (zokB (r' := 32) (zokB (r' := 8) o2 rfl rfl) rfl rfl)) rfl rfl c1 (hw.2.1 _ _ _ (zokB (r' := 32) (zokB (r' := 8) o2 rfl rfl) rfl rfl) rfl) dX0_transmit_8 ?_
  refine zW_astore (lv' := [(5, .ref (zad X (10, L2, ix v2))), (0, .ref (zad X (5, 0, 0))), (1, .ref (zad X (7, L2, 0))), (2, vi v2), (3, vi v3), (4, vi v4)]) dX0_transmit_9 rfl rfl ?_
  refine zW_aload 0 dX0_transmit_11 rfl ?_
  refine zW_getI lk_RX0_59 (hw.1 _ (zokE (r' := 10) (zokB (r' := 32) (zokB (r' := 8) o2 rfl rfl) rfl rfl) rfl rfl c1)) rfl rfl dX0_transmit_13 ?_
  refine zW_iconst dX0_transmit_16 ?_
  refine zF_icmp_ne 29 dX0_transmit_17 rfl rfl (w32_lit _ rfl) hf (fun c hf => ?_) (fun c hf => ?_)
  · refine zW_aload_n 2 dX0_transmit_20 rfl ?_
    refine zW_getR (q' := (8, L2, 0)) lk_RX0_49 (hw.1 _ o2) rfl rfl (hw.2.1 _ _ _ o2 rfl) dX0_transmit_21 ?_
    refine zW_aload 0 dX0_transmit_24 rfl ?_
    refine zC_Vwv (As := [.ref (zad X (10, L2, ix v2))]) (fun x hx => kX7_fill hw (L := L2) (L2 := L2) (p2 := ix v2) (zokB (r' := 8) o2 rfl rfl) (zokE (r' := 10) (zokB (r' := 32) (zokB (r' := 8) o2 rfl rfl) rfl rfl) rfl rfl c1) hx) mv_RX0_65 (hw.1 _ (zokB (r' := 8) o2 rfl rfl)) rfl rfl rfl rfl rfl dX0_transmit_26 hf (fun r2 hf => ?_)
    refine zW_sub [1, 2, 3, 4, 5, 0] rfl ?_
    exact tX0_transmit_b29 hw o o2 (zokE (r' := 10) (zokB (r' := 32) (zokB (r' := 8) o2 rfl rfl) rfl rfl) rfl rfl c1) hf
  · refine zW_sub [1, 2, 3, 4, 5, 0] rfl ?_
    exact tX0_transmit_b29 hw o o2 (zokE (r' := 10) (zokB (r' := 32) (zokB (r' := 8) o2 rfl rfl) rfl rfl) rfl rfl c1) hf
theorem kX0_transmit {X : zX} {e : Nat → Prop} (hw : zWf X e) {L2 : Nat} {v2 : Int} {v3 : Int} {v4 : Int} (o : zOk e (5, 0, 0)) (o2 : zOk e (7, L2, 0)) {I : zMem} {u : (Int × zMem)} (hf : fX0_transmit L2 v2 v3 v4 I = some u) : zCn X mX0_transmit yX0_transmit [.ref (zad X (5, 0, 0)), .ref (zad X (7, L2, 0)), vi v2, vi v3, vi v4] I (some (vi u.1), u.2) := zCn_of (by decide +kernel) rfl rfl ⟨rfl, rfl⟩ (tX0_transmit_0 hw.N o o2 hf)
set_option maxRecDepth 100000 in
theorem tX0_addClean_b3_46 {X : zX} {e : Nat → Prop} (hw : zWf X e) {T : zT} {q1 : zPl} {v2 : Int} {v4 : Int} {v5 : Int} {v6 : Int} {w7 : Int} {k0 : Int} {k1 : Int} {k2 : Int} {I : zMem} (o : zOk e (5, 0, 0)) (hq1 : zDom X q1) (hk1 : zkd q1.1 = (14, 39)) {u : ((Int × zMem) ⊕ (Int × zMem))} (hf : fX0_addClean_b3_46 q1 v2 v4 v5 v6 w7 k0 k1 k2 I = some u) (hk : ∀ s', u = .inl s' → zW X T mX0_addClean 3 [(0, .ref (zad X (5, 0, 0))), (1, .ref (zad X q1)), (2, vl v2), (4, vi v4), (5, vi v5), (6, vi v6), (7, vi s'.1)] [] s'.2) (hx : ∀ x, u = .inr x → zW X T mX0_addClean 59 [] [] x.2) : zW X T mX0_addClean 46 [(0, .ref (zad X (5, 0, 0))), (1, .ref (zad X q1)), (2, vl v2), (4, vi v4), (5, vi v5), (6, vi v6), (7, vi w7)] [vi k0, vi k1, vi k2, .ref (zad X q1)] I := by
  unfold fX0_addClean_b3_46 at hf
  refine zW_iadd dX0_addClean_46 ?_
  refine zW_iload 5 dX0_addClean_47 rfl ?_
  refine zC_Sri (As := [vi (k1 + k0), vi v6]) (fun x hx => kX0_within hw (v0 := k1 + k0) (v1 := v6)  hx) ms_RX0_116 rfl rfl rfl rfl dX0_addClean_49 hf (fun r5 hf => ?_)
  obtain ⟨c6, hf⟩ := zgd hf
  refine zF_iast hq1 hk1 c6 rfl dX0_addClean_52 hf (fun I7 hf => ?_)
  refine zW_iinc 6 (lv' := [(7, vi (w7 + 1)), (0, .ref (zad X (5, 0, 0))), (1, .ref (zad X q1)), (2, vl v2), (4, vi v4), (5, vi v5), (6, vi v6)]) dX0_addClean_53 rfl rfl rfl ?_
  refine zW_goto 3 dX0_addClean_56 rfl ?_
  refine zW_sub [1, 2, 3, 4, 5, 6, 0] rfl ?_
  exact hk _ (Option.some.inj hf).symm
set_option maxRecDepth 100000 in
theorem tX0_addClean_l3_y {X : zX} {e : Nat → Prop} (hw : zWf X e) {T : zT} {q1 : zPl} {v2 : Int} {v4 : Int} {v5 : Int} {v6 : Int} (o : zOk e (5, 0, 0)) (hq1 : zDom X q1) (hk1 : zkd q1.1 = (14, 39)) (s : (Int × zMem)) {u : ((Int × zMem) ⊕ (Int × zMem))} (hf : fX0_addClean_l3 q1 v2 v4 v5 v6 s = some u) (hk : ∀ s', u = .inl s' → zW X T mX0_addClean 3 [(0, .ref (zad X (5, 0, 0))), (1, .ref (zad X q1)), (2, vl v2), (4, vi v4), (5, vi v5), (6, vi v6), (7, vi s'.1)] [] s'.2) (hx : ∀ x, u = .inr x → zW X T mX0_addClean 59 [] [] x.2) : zW X T mX0_addClean 3 [(0, .ref (zad X (5, 0, 0))), (1, .ref (zad X q1)), (2, vl v2), (4, vi v4), (5, vi v5), (6, vi v6), (7, vi s.1)] [] s.2 := by
  unfold fX0_addClean_l3 at hf
  refine zW_iload 6 dX0_addClean_3 rfl ?_
  refine zW_iload 3 dX0_addClean_5 rfl ?_
  refine zF_icmp_ge 59 dX0_addClean_7 rfl rfl rfl hf (fun c hf => ?_) (fun c hf => ?_)
  · refine zW_sub [] rfl ?_
    exact hx _ (Option.some.inj hf).symm
  · refine zW_aload_n 0 dX0_addClean_10 rfl ?_
    refine zW_getR (q' := (2, 0, 0)) lk_RX0_26 (hw.1 _ o) rfl rfl (hw.2.1 _ _ _ o rfl) dX0_addClean_11 ?_
    refine zW_getR (q' := (20, 0, 0)) lk_RX0_109 (hw.1 _ (zokA (r' := 2) o rfl rfl)) rfl rfl (hw.2.1 _ _ _ (zokA (r' := 2) o rfl rfl) rfl) dX0_addClean_14 ?_
    refine zW_iload 6 dX0_addClean_17 rfl ?_
    obtain ⟨c1, hf⟩ := zgd hf
    refine zF_iald (hw.1 _ (zokA (r' := 20) (zokA (r' := 2) o rfl rfl) rfl rfl)) rfl c1 rfl dX0_addClean_19 ?_
    refine zF_istore (lv' := fun a2 => [(8, vi a2), (0, .ref (zad X (5, 0, 0))), (1, .ref (zad X q1)), (2, vl v2), (4, vi v4), (5, vi v5), (6, vi v6), (7, vi s.1)]) dX0_addClean_20 hf (fun _ => rfl) rfl (fun a2 hf => ?_)
    refine zW_aload_n 2 dX0_addClean_22 rfl ?_
    refine zW_iload 0 dX0_addClean_23 rfl ?_
    refine zW_aload_n 2 dX0_addClean_25 rfl ?_
    refine zW_iload 0 dX0_addClean_26 rfl ?_
    obtain ⟨c3, hf⟩ := zgd hf
    refine zF_iald hq1 hk1 c3 rfl dX0_addClean_28 ?_
    refine zW_lload_n 3 dX0_addClean_29 rfl ?_
    refine zW_iload 0 dX0_addClean_30 rfl ?_
    refine zC_Sri (As := [vl v2, vi a2]) (fun x hx => kX1_isOne hw (v0 := v2) (v2 := a2)  hx) ms_RX0_112 rfl rfl rfl rfl dX0_addClean_32 hf (fun r4 hf => ?_)
    refine zF_if_eq 43 dX0_addClean_35 rfl rfl hf (fun c hf => ?_) (fun c hf => ?_)
    · refine zW_iload 5 dX0_addClean_43 rfl ?_
      refine zW_ineg dX0_addClean_45 ?_
      refine zW_sub [1, 2, 3, 4, 5, 6, 7] rfl ?_
      exact tX0_addClean_b3_46 hw o hq1 hk1 hf hk hx
    · refine zW_iload 5 dX0_addClean_38 rfl ?_
      refine zW_goto 46 dX0_addClean_40 rfl ?_
      refine zW_sub [1, 2, 3, 4, 5, 6, 7] rfl ?_
      exact tX0_addClean_b3_46 hw o hq1 hk1 hf hk hx
theorem tX0_addClean_l3 {X : zX} {e : Nat → Prop} (hw : zWf X e) {T : zT} {q1 : zPl} {v2 : Int} {v4 : Int} {v5 : Int} {v6 : Int} (o : zOk e (5, 0, 0)) (hq1 : zDom X q1) (hk1 : zkd q1.1 = (14, 39)) {s0 : (Int × zMem)} {α : Type} {F : (Int × zMem) → Option α} {u : α} (hf : zb (zlp (fX0_addClean_l3 q1 v2 v4 v5 v6) 5000 s0) F = some u) (kx : ∀ x, F x = some u → zW X T mX0_addClean 59 [] [] x.2) : zW X T mX0_addClean 3 [(0, .ref (zad X (5, 0, 0))), (1, .ref (zad X q1)), (2, vl v2), (4, vi v4), (5, vi v5), (6, vi v6), (7, vi s0.1)] [] s0.2 := by
  obtain ⟨x, h, hf⟩ := zb_inv hf
  exact zlp_W (P := fun s => zW X T mX0_addClean 3 [(0, .ref (zad X (5, 0, 0))), (1, .ref (zad X q1)), (2, vl v2), (4, vi v4), (5, vi v5), (6, vi v6), (7, vi s.1)] [] s.2) (E := fun x => zW X T mX0_addClean 59 [] [] x.2) (fun s u h hk hx => tX0_addClean_l3_y hw o hq1 hk1 s h hk hx) _ s0 x h (kx x hf)
set_option maxRecDepth 100000 in
theorem tX0_addClean_0 {X : zX} {e : Nat → Prop} (hw : zWf X e) {q1 : zPl} {v2 : Int} {v4 : Int} {v5 : Int} {v6 : Int} (o : zOk e (5, 0, 0)) (hq1 : zDom X q1) (hk1 : zkd q1.1 = (14, 39)) {I : zMem} {u : zMem} (hf : fX0_addClean q1 v2 v4 v5 v6 I = some u) : zW X (none, u) mX0_addClean 0 [(0, .ref (zad X (5, 0, 0))), (1, .ref (zad X q1)), (2, vl v2), (4, vi v4), (5, vi v5), (6, vi v6)] [] I := by
  unfold fX0_addClean at hf
  refine zW_iconst dX0_addClean_0 ?_
  refine zW_istore (lv' := [(7, vi 0), (0, .ref (zad X (5, 0, 0))), (1, .ref (zad X q1)), (2, vl v2), (4, vi v4), (5, vi v5), (6, vi v6)]) dX0_addClean_1 rfl rfl ?_
  refine zW_sub [1, 2, 3, 4, 5, 6, 0] rfl ?_
  refine tX0_addClean_l3 hw o hq1 hk1 (s0 := (0, I)) hf (fun x8 hf => ?_)
  exact zR_v hw rfl dX0_addClean_59 hf
theorem kX0_addClean {X : zX} {e : Nat → Prop} (hw : zWf X e) {q1 : zPl} {v2 : Int} {v4 : Int} {v5 : Int} {v6 : Int} (o : zOk e (5, 0, 0)) (hq1 : zDom X q1) (hk1 : zkd q1.1 = (14, 39)) {I : zMem} {u : zMem} (hf : fX0_addClean q1 v2 v4 v5 v6 I = some u) : zCn X mX0_addClean yX0_addClean [.ref (zad X (5, 0, 0)), .ref (zad X q1), vl v2, vi v4, vi v5, vi v6] I (none, u) := zCn_of (by decide +kernel) rfl rfl ⟨rfl, rfl⟩ (tX0_addClean_0 hw.N o hq1 hk1 hf)
set_option maxRecDepth 100000 in
theorem tX0_draw_0 {X : zX} {e : Nat → Prop} (hw : zWf X e)  (o : zOk e (5, 0, 0)) {I : zMem} {u : (Int × zMem)} (hf : fX0_draw  I = some u) : zW X (some (vi u.1), u.2) mX0_draw 0 [(0, .ref (zad X (5, 0, 0)))] [] I := by
  unfold fX0_draw at hf
  refine zW_aload_n 0 dX0_draw_0 rfl ?_
  refine zW_ldc dX0_draw_1 wc_RX0_182 ?_
  refine zW_aload_n 0 dX0_draw_3 rfl ?_
  refine zW_getI lk_RX0_183 (hw.1 _ o) rfl rfl dX0_draw_4 ?_
  refine zW_imul dX0_draw_7 ?_
  refine zW_sipush dX0_draw_8 rfl ?_
  refine zW_iadd dX0_draw_11 ?_
  refine zF_put lk_RX0_183 (hw.1 _ o) rfl rfl (zn_int _) dX0_draw_12 hf (fun I1 hf => ?_)
  refine zW_aload_n 0 dX0_draw_15 rfl ?_
  refine zW_getI lk_RX0_183 (hw.1 _ o) rfl rfl dX0_draw_16 ?_
  refine zW_bipush dX0_draw_19 rfl ?_
  refine zW_iushr dX0_draw_21 ?_
  exact zR_i hw rfl dX0_draw_22 hf
theorem kX0_draw {X : zX} {e : Nat → Prop} (hw : zWf X e)  (o : zOk e (5, 0, 0)) {I : zMem} {u : (Int × zMem)} (hf : fX0_draw  I = some u) : zCn X mX0_draw yX0_draw [.ref (zad X (5, 0, 0))] I (some (vi u.1), u.2) := zCn_of (by decide +kernel) rfl rfl ⟨rfl, rfl⟩ (tX0_draw_0 hw.N o hf)
set_option maxRecDepth 100000 in
theorem tX8_letGo_0 {X : zX} {e : Nat → Prop} (hw : zWf X e) {L : Nat} {p : Nat} (o : zOk e (10, L, p)) {I : zMem} {u : zMem} (hf : fX8_letGo L p I = some u) : zW X (none, u) mX8_letGo 0 [(0, .ref (zad X (10, L, p)))] [] I := by
  unfold fX8_letGo at hf
  refine zW_aload_n 0 dX8_letGo_0 rfl ?_
  refine zW_iconst dX8_letGo_1 ?_
  refine zF_put lk_RX8_9 (hw.1 _ o) rfl rfl (zn_int _) dX8_letGo_2 hf (fun I1 hf => ?_)
  refine zW_aload_n 0 dX8_letGo_5 rfl ?_
  refine zW_iconst dX8_letGo_6 ?_
  refine zF_put lk_RX8_35 (hw.1 _ o) rfl rfl (zn_int _) dX8_letGo_7 hf (fun I2 hf => ?_)
  refine zW_aload_n 0 dX8_letGo_10 rfl ?_
  refine zW_iconst dX8_letGo_11 ?_
  refine zF_put lk_RX8_38 (hw.1 _ o) rfl rfl (zn_bool (Or.inl rfl)) dX8_letGo_12 hf (fun I3 hf => ?_)
  exact zR_v hw rfl dX8_letGo_15 hf
theorem kX8_letGo {X : zX} {e : Nat → Prop} (hw : zWf X e) {L : Nat} {p : Nat} (o : zOk e (10, L, p)) {I : zMem} {u : zMem} (hf : fX8_letGo L p I = some u) : zCn X mX8_letGo yX8_letGo [.ref (zad X (10, L, p))] I (none, u) := zCn_of (by decide +kernel) rfl rfl ⟨rfl, rfl⟩ (tX8_letGo_0 hw.N o hf)
set_option maxRecDepth 100000 in
theorem tX4_readAnswer_b65 {X : zX} {e : Nat → Prop} (hw : zWf X e) {L : Nat} {v1 : Int} {v2 : Int} {wp3 : Nat} {w4 : Int} {I : zMem} (o : zOk e (7, L, 0)) (wo3 : zOk e (10, L, wp3)) {u : (Int × zMem)} (hf : fX4_readAnswer_b65 L v1 v2 wp3 w4 I = some u) : zW X (some (vi u.1), u.2) mX4_readAnswer 65 [(0, .ref (zad X (7, L, 0))), (3, .ref (zad X (10, L, wp3))), (4, vi w4)] [] I := by
  unfold fX4_readAnswer_b65 at hf
  refine zW_aload_n 1 dX4_readAnswer_65 rfl ?_
  refine zW_iconst dX4_readAnswer_66 ?_
  refine zF_put lk_RX4_77 (hw.1 _ wo3) rfl rfl (zn_bool (Or.inl rfl)) dX4_readAnswer_67 hf (fun I2 hf => ?_)
  refine zW_iload 2 dX4_readAnswer_70 rfl ?_
  refine zW_iconst dX4_readAnswer_72 ?_
  refine zF_icmp_ne 83 dX4_readAnswer_73 rfl rfl (w32_lit _ rfl) hf (fun c hf => ?_) (fun c hf => ?_)
  · refine zW_aload_n 1 dX4_readAnswer_76 rfl ?_
    refine zC_Vwv (As := []) (fun x hx => kX8_letGo hw (L := L) (p := wp3) wo3 hx) mv_RX4_80 (hw.1 _ wo3) rfl rfl rfl rfl rfl dX4_readAnswer_77 hf (fun r3 hf => ?_)
    refine zW_goto 111 dX4_readAnswer_80 rfl ?_
    refine zW_iload 2 dX4_readAnswer_111 rfl ?_
    exact zR_i hw rfl dX4_readAnswer_113 hf
  · refine zW_aload_n 1 dX4_readAnswer_83 rfl ?_
    refine zW_getI lk_RX4_83 (hw.1 _ wo3) rfl rfl dX4_readAnswer_84 ?_
    refine zW_aload_n 0 dX4_readAnswer_87 rfl ?_
    refine zW_getI lk_RX4_21 (hw.1 _ o) rfl rfl dX4_readAnswer_88 ?_
    refine zF_icmp_lt 111 dX4_readAnswer_91 rfl rfl rfl hf (fun c hf => ?_) (fun c hf => ?_)
    · refine zW_iload 2 dX4_readAnswer_111 rfl ?_
      exact zR_i hw rfl dX4_readAnswer_113 hf
    · refine zW_aload_n 1 dX4_readAnswer_94 rfl ?_
      refine zC_Vwv (As := []) (fun x hx => kX8_letGo hw (L := L) (p := wp3) wo3 hx) mv_RX4_80 (hw.1 _ wo3) rfl rfl rfl rfl rfl dX4_readAnswer_95 hf (fun r4 hf => ?_)
      refine zW_aload_n 0 dX4_readAnswer_98 rfl ?_
      refine zW_getR (q' := (8, L, 0)) lk_RX4_36 (hw.1 _ o) rfl rfl (hw.2.1 _ _ _ o rfl) dX4_readAnswer_99 ?_
      refine zW_dup dX4_readAnswer_102 rfl ?_
      refine zW_getI lk_RX4_86 (hw.1 _ (zokB (r' := 8) o rfl rfl)) rfl rfl dX4_readAnswer_103 ?_
      refine zW_iconst dX4_readAnswer_106 ?_
      refine zW_iadd dX4_readAnswer_107 ?_
      refine zF_put lk_RX4_86 (hw.1 _ (zokB (r' := 8) o rfl rfl)) rfl rfl (zn_int _) dX4_readAnswer_108 hf (fun I5 hf => ?_)
      refine zW_iload 2 dX4_readAnswer_111 rfl ?_
      exact zR_i hw rfl dX4_readAnswer_113 hf
set_option maxRecDepth 100000 in
theorem tX4_readAnswer_b63 {X : zX} {e : Nat → Prop} (hw : zWf X e) {L : Nat} {v1 : Int} {v2 : Int} {wp3 : Nat} {k0 : Int} {I : zMem} (o : zOk e (7, L, 0)) (wo3 : zOk e (10, L, wp3)) {u : (Int × zMem)} (hf : fX4_readAnswer_b63 L v1 v2 wp3 k0 I = some u) : zW X (some (vi u.1), u.2) mX4_readAnswer 63 [(0, .ref (zad X (7, L, 0))), (3, .ref (zad X (10, L, wp3)))] [vi k0] I := by
  unfold fX4_readAnswer_b63 at hf
  refine zW_istore (lv' := [(4, vi k0), (0, .ref (zad X (7, L, 0))), (3, .ref (zad X (10, L, wp3)))]) dX4_readAnswer_63 rfl rfl ?_
  refine zW_sub [1, 2, 0] rfl ?_
  exact tX4_readAnswer_b65 hw o wo3 hf
set_option maxRecDepth 100000 in
theorem tX4_readAnswer_b47 {X : zX} {e : Nat → Prop} (hw : zWf X e) {L : Nat} {v1 : Int} {v2 : Int} {wp3 : Nat} {w4 : Int} {I : zMem} (o : zOk e (7, L, 0)) (wo3 : zOk e (10, L, wp3)) {u : (Int × zMem)} (hf : fX4_readAnswer_b47 L v1 v2 wp3 w4 I = some u) : zW X (some (vi u.1), u.2) mX4_readAnswer 47 [(0, .ref (zad X (7, L, 0))), (2, vi v2), (3, .ref (zad X (10, L, wp3))), (4, vi w4)] [] I := by
  unfold fX4_readAnswer_b47 at hf
  refine zW_iload_n 1 dX4_readAnswer_47 rfl ?_
  refine zW_iconst dX4_readAnswer_48 ?_
  refine zF_icmp_ne 65 dX4_readAnswer_49 rfl rfl (w32_lit _ rfl) hf (fun c hf => ?_) (fun c hf => ?_)
  · refine zW_iload 3 dX4_readAnswer_52 rfl ?_
    refine zW_iconst dX4_readAnswer_54 ?_
    refine zF_icmp_ne 62 dX4_readAnswer_55 rfl rfl (w32_lit _ rfl) hf (fun c hf => ?_) (fun c hf => ?_)
    · refine zW_iconst dX4_readAnswer_58 ?_
      refine zW_goto 63 dX4_readAnswer_59 rfl ?_
      refine zW_sub [0, 2] rfl ?_
      exact tX4_readAnswer_b63 hw o wo3 hf
    · refine zW_iconst dX4_readAnswer_62 ?_
      refine zW_sub [0, 2] rfl ?_
      exact tX4_readAnswer_b63 hw o wo3 hf
  · refine zW_sub [0, 2, 3] rfl ?_
    exact tX4_readAnswer_b65 hw o wo3 hf
set_option maxRecDepth 100000 in
theorem tX4_readAnswer_b45 {X : zX} {e : Nat → Prop} (hw : zWf X e) {L : Nat} {v1 : Int} {v2 : Int} {wp3 : Nat} {k0 : Int} {I : zMem} (o : zOk e (7, L, 0)) (wo3 : zOk e (10, L, wp3)) {u : (Int × zMem)} (hf : fX4_readAnswer_b45 L v1 v2 wp3 k0 I = some u) : zW X (some (vi u.1), u.2) mX4_readAnswer 45 [(0, .ref (zad X (7, L, 0))), (2, vi v2), (3, .ref (zad X (10, L, wp3)))] [vi k0] I := by
  unfold fX4_readAnswer_b45 at hf
  refine zW_istore (lv' := [(4, vi k0), (0, .ref (zad X (7, L, 0))), (2, vi v2), (3, .ref (zad X (10, L, wp3)))]) dX4_readAnswer_45 rfl rfl ?_
  refine zW_sub [1, 2, 3, 0] rfl ?_
  exact tX4_readAnswer_b47 hw o wo3 hf
set_option maxRecDepth 100000 in
theorem tX4_readAnswer_0 {X : zX} {e : Nat → Prop} (hw : zWf X e) {L : Nat} {v1 : Int} {v2 : Int} (o : zOk e (7, L, 0)) {I : zMem} {u : (Int × zMem)} (hf : fX4_readAnswer L v1 v2 I = some u) : zW X (some (vi u.1), u.2) mX4_readAnswer 0 [(0, .ref (zad X (7, L, 0))), (1, vi v1), (2, vi v2)] [] I := by
  unfold fX4_readAnswer at hf
  refine zW_aload_n 0 dX4_readAnswer_0 rfl ?_
  refine zW_getR (q' := (8, L, 0)) lk_RX4_36 (hw.1 _ o) rfl rfl (hw.2.1 _ _ _ o rfl) dX4_readAnswer_1 ?_
  refine zW_getR (q' := (32, L, 0)) lk_RX4_58 (hw.1 _ (zokB (r' := 8) o rfl rfl)) rfl rfl (hw.2.1 _ _ _ (zokB (r' := 8) o rfl rfl) rfl) dX4_readAnswer_4 ?_
  refine zW_iload_n 1 dX4_readAnswer_7 rfl ?_
  obtain ⟨c1, hf⟩ := zgd hf
  refine zW_aald (q' := (10, L, ix v1)) 6 rfl rfl (hw.1 _ (zokB (r' := 32) (zokB (r' := 8) o rfl rfl) rfl rfl)) rfl rfl c1 (hw.2.1 _ _ _ (zokB (r' := 32) (zokB (r' := 8) o rfl rfl) rfl rfl) rfl) dX4_readAnswer_8 ?_
  refine zW_astore_n (lv' := [(3, .ref (zad X (10, L, ix v1))), (0, .ref (zad X (7, L, 0))), (1, vi v1), (2, vi v2)]) dX4_readAnswer_9 rfl rfl ?_
  refine zW_iconst dX4_readAnswer_10 ?_
  refine zW_istore (lv' := [(4, vi (-1)), (3, .ref (zad X (10, L, ix v1))), (0, .ref (zad X (7, L, 0))), (1, vi v1), (2, vi v2)]) dX4_readAnswer_11 rfl rfl ?_
  refine zW_iload_n 4 dX4_readAnswer_13 rfl ?_
  refine zW_iconst dX4_readAnswer_14 ?_
  refine zF_icmp_eq 47 dX4_readAnswer_15 rfl rfl (w32_lit _ rfl) hf (fun c hf => ?_) (fun c hf => ?_)
  · refine zW_sub [2, 4, 1, 0] rfl ?_
    exact tX4_readAnswer_b47 hw o (zokE (r' := 10) (zokB (r' := 32) (zokB (r' := 8) o rfl rfl) rfl rfl) rfl rfl c1) hf
  · refine zW_aload_n 1 dX4_readAnswer_18 rfl ?_
    refine zW_getI lk_RX4_62 (hw.1 _ (zokE (r' := 10) (zokB (r' := 32) (zokB (r' := 8) o rfl rfl) rfl rfl) rfl rfl c1)) rfl rfl dX4_readAnswer_19 ?_
    refine zF_if_eq 47 dX4_readAnswer_22 rfl rfl hf (fun c hf => ?_) (fun c hf => ?_)
    · refine zW_sub [2, 4, 1, 0] rfl ?_
      exact tX4_readAnswer_b47 hw o (zokE (r' := 10) (zokB (r' := 32) (zokB (r' := 8) o rfl rfl) rfl rfl) rfl rfl c1) hf
    · refine zW_aload_n 2 dX4_readAnswer_25 rfl ?_
      refine zW_getR (q' := (9, L, 0)) lk_RX4_43 (hw.1 _ o) rfl rfl (hw.2.1 _ _ _ o rfl) dX4_readAnswer_26 ?_
      refine zW_getR (q' := (38, L, 0)) lk_RX4_68 (hw.1 _ (zokB (r' := 9) o rfl rfl)) rfl rfl (hw.2.1 _ _ _ (zokB (r' := 9) o rfl rfl) rfl) dX4_readAnswer_29 ?_
      refine zW_iload_n 3 dX4_readAnswer_32 rfl ?_
      refine zW_aald (q' := (11, L, ix v1)) 4 rfl rfl (hw.1 _ (zokB (r' := 38) (zokB (r' := 9) o rfl rfl) rfl rfl)) rfl rfl c1 (hw.2.1 _ _ _ (zokB (r' := 38) (zokB (r' := 9) o rfl rfl) rfl rfl) rfl) dX4_readAnswer_33 ?_
      refine zW_getI lk_RX4_72 (hw.1 _ (zokE (r' := 11) (zokB (r' := 38) (zokB (r' := 9) o rfl rfl) rfl rfl) rfl rfl c1)) rfl rfl dX4_readAnswer_34 ?_
      refine zF_if_eq 44 dX4_readAnswer_37 rfl rfl hf (fun c hf => ?_) (fun c hf => ?_)
      · refine zW_iconst dX4_readAnswer_44 ?_
        refine zW_sub [2, 4, 1] rfl ?_
        exact tX4_readAnswer_b45 hw o (zokE (r' := 10) (zokB (r' := 32) (zokB (r' := 8) o rfl rfl) rfl rfl) rfl rfl c1) hf
      · refine zW_iconst dX4_readAnswer_40 ?_
        refine zW_goto 45 dX4_readAnswer_41 rfl ?_
        refine zW_sub [2, 4, 1] rfl ?_
        exact tX4_readAnswer_b45 hw o (zokE (r' := 10) (zokB (r' := 32) (zokB (r' := 8) o rfl rfl) rfl rfl) rfl rfl c1) hf
theorem kX4_readAnswer {X : zX} {e : Nat → Prop} (hw : zWf X e) {L : Nat} {v1 : Int} {v2 : Int} (o : zOk e (7, L, 0)) {I : zMem} {u : (Int × zMem)} (hf : fX4_readAnswer L v1 v2 I = some u) : zCn X mX4_readAnswer yX4_readAnswer [.ref (zad X (7, L, 0)), vi v1, vi v2] I (some (vi u.1), u.2) := zCn_of (by decide +kernel) rfl rfl ⟨rfl, rfl⟩ (tX4_readAnswer_0 hw.N o hf)
