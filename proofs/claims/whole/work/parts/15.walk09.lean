set_option maxRecDepth 100000 in
theorem tX12_lean_0 {X : zX} {e : Nat → Prop} (hw : zWf X e) {v1 : Int} {v2 : Int} (o : zOk e (50, 0, 0)) {I : zMem} {u : (Int × zMem)} (hf : fX12_lean v1 v2 I = some u) : zW X (some (vi u.1), u.2) mX12_lean 0 [(0, .ref (zad X (50, 0, 0))), (1, vi v1), (2, vi v2)] [] I := by
  unfold fX12_lean at hf
  refine zW_aload_n 0 dX12_lean_0 rfl ?_
  refine zW_iconst dX12_lean_1 ?_
  refine zF_put lk_RX12_1 (hw.1 _ o) rfl rfl (zn_int _) dX12_lean_2 hf (fun I1 hf => ?_)
  refine zW_aload_n 0 dX12_lean_5 rfl ?_
  refine zW_iload_n 1 dX12_lean_6 rfl ?_
  refine zC_Vri (As := [vi v1]) (fun x hx => kX12_isProcess hw (v1 := v1) o hx) mv_RX12_222 (hw.1 _ o) rfl rfl rfl rfl rfl dX12_lean_7 hf (fun r2 hf => ?_)
  refine zF_if_ne 17 dX12_lean_10 rfl rfl hf (fun c hf => ?_) (fun c hf => ?_)
  · refine zW_ldcw dX12_lean_13 wc_RX12_288 ?_
    exact zR_i hw rfl dX12_lean_16 hf
  · refine zW_iload_n 2 dX12_lean_17 rfl ?_
    refine zW_i2l dX12_lean_18 ?_
    refine zW_lconst0 dX12_lean_19 ?_
    refine zW_ldc2 dX12_lean_20 wc_RX12_293 ?_
    refine zC_Sri (As := [vl (w32 v2), vl 0, vl 10]) (fun x hx => kX12_within hw (v0 := w32 v2) (v2 := 0) (v4 := 10)  hx) ms_RX12_94 rfl rfl rfl rfl dX12_lean_23 hf (fun r3 hf => ?_)
    refine zF_if_ne 33 dX12_lean_26 rfl rfl hf (fun c hf => ?_) (fun c hf => ?_)
    · refine zW_ldcw dX12_lean_29 wc_RX12_289 ?_
      exact zR_i hw rfl dX12_lean_32 hf
    · refine zW_aload_n 0 dX12_lean_33 rfl ?_
      refine zW_iload_n 1 dX12_lean_34 rfl ?_
      refine zC_Vwi (As := [vi v1]) (fun x hx => kX12_noSoft hw (v1 := v1) o hx) mv_RX12_281 (hw.1 _ o) rfl rfl rfl rfl rfl dX12_lean_35 hf (fun r4 hf => ?_)
      refine zW_istore_n (lv' := [(3, vi r4.1), (0, .ref (zad X (50, 0, 0))), (1, vi v1), (2, vi v2)]) dX12_lean_38 rfl rfl ?_
      refine zW_iload_n 0 dX12_lean_39 rfl ?_
      refine zF_if_eq 51 dX12_lean_40 rfl rfl hf (fun c hf => ?_) (fun c hf => ?_)
      · refine zW_aload_n 1 dX12_lean_51 rfl ?_
        refine zW_iload_n 3 dX12_lean_52 rfl ?_
        refine zW_iconst dX12_lean_53 ?_
        refine zC_Vri (As := [vi v2, vi 1]) (fun x hx => kX12_greatestOf hw (v1 := v2) (v2 := 1) o hx) mv_RX12_295 (hw.1 _ o) rfl rfl rfl rfl rfl dX12_lean_54 hf (fun r5 hf => ?_)
        refine zW_aload_n 1 dX12_lean_57 rfl ?_
        refine zW_iload_n 3 dX12_lean_58 rfl ?_
        refine zW_iconst dX12_lean_59 ?_
        refine zC_Vri (As := [vi v2, vi 0]) (fun x hx => kX12_greatestOf hw (v1 := v2) (v2 := 0) o hx) mv_RX12_295 (hw.1 _ o) rfl rfl rfl rfl rfl dX12_lean_60 hf (fun r6 hf => ?_)
        refine zW_isub dX12_lean_63 ?_
        exact zR_i hw rfl dX12_lean_64 hf
      · refine zW_ldcw dX12_lean_43 wc_RX12_284 ?_
        refine zW_iload_n 0 dX12_lean_46 rfl ?_
        refine zW_iadd dX12_lean_47 ?_
        refine zW_goto 64 dX12_lean_48 rfl ?_
        exact zR_i hw rfl dX12_lean_64 hf
theorem kX12_lean {X : zX} {e : Nat → Prop} (hw : zWf X e) {v1 : Int} {v2 : Int} (o : zOk e (50, 0, 0)) {I : zMem} {u : (Int × zMem)} (hf : fX12_lean v1 v2 I = some u) : zCn X mX12_lean yX12_lean [.ref (zad X (50, 0, 0)), vi v1, vi v2] I (some (vi u.1), u.2) := zCn_of (by decide +kernel) rfl rfl ⟨rfl, rfl⟩ (tX12_lean_0 hw.N o hf)
set_option maxRecDepth 100000 in
theorem tX12_ties_b54_92 {X : zX} {e : Nat → Prop} (hw : zWf X e) {T : zT} {v1 : Int} {v2 : Int} {w4 : Int} {I : zMem} {w6 : Int} {k0 : Int} {k1 : Int} (o : zOk e (50, 0, 0)) {u : ((Int × Int) ⊕ (Int × Int))} (hf : fX12_ties_b54_92 v1 v2 w4 I w6 k0 k1 = some u) (hk : ∀ s', u = .inl s' → zW X T mX12_ties 54 [(0, .ref (zad X (50, 0, 0))), (2, vi v2), (4, vi w4), (5, vi s'.1), (6, vi s'.2)] [] I) (hx : ∀ x, u = .inr x → zW X T mX12_ties 101 [(5, vi x.1)] [] I) : zW X T mX12_ties 92 [(0, .ref (zad X (50, 0, 0))), (2, vi v2), (4, vi w4), (6, vi w6)] [vi k0, vi k1] I := by
  unfold fX12_ties_b54_92 at hf
  refine zW_iadd dX12_ties_92 ?_
  refine zF_istore (lv' := fun a8 => [(5, vi a8), (0, .ref (zad X (50, 0, 0))), (2, vi v2), (4, vi w4), (6, vi w6)]) dX12_ties_93 hf (fun _ => rfl) rfl (fun a8 hf => ?_)
  refine zW_iinc 4 (lv' := [(6, vi (w6 + 1)), (5, vi a8), (0, .ref (zad X (50, 0, 0))), (2, vi v2), (4, vi w4)]) dX12_ties_95 rfl rfl rfl ?_
  refine zW_goto 54 dX12_ties_98 rfl ?_
  refine zW_sub [2, 3, 4, 1, 0] rfl ?_
  exact hk _ (Option.some.inj hf).symm
set_option maxRecDepth 100000 in
theorem tX12_ties_b54_87 {X : zX} {e : Nat → Prop} (hw : zWf X e) {T : zT} {v1 : Int} {v2 : Int} {w4 : Int} {I : zMem} {w6 : Int} {k0 : Int} (o : zOk e (50, 0, 0)) {u : ((Int × Int) ⊕ (Int × Int))} (hf : fX12_ties_b54_87 v1 v2 w4 I w6 k0 = some u) (hk : ∀ s', u = .inl s' → zW X T mX12_ties 54 [(0, .ref (zad X (50, 0, 0))), (2, vi v2), (4, vi w4), (5, vi s'.1), (6, vi s'.2)] [] I) (hx : ∀ x, u = .inr x → zW X T mX12_ties 101 [(5, vi x.1)] [] I) : zW X T mX12_ties 87 [(0, .ref (zad X (50, 0, 0))), (2, vi v2), (4, vi w4), (6, vi w6)] [vi k0] I := by
  unfold fX12_ties_b54_87 at hf
  refine zW_iconst dX12_ties_87 ?_
  refine zW_goto 92 dX12_ties_88 rfl ?_
  refine zW_sub [0, 1, 2, 3] rfl ?_
  exact tX12_ties_b54_92 hw o hf hk hx
set_option maxRecDepth 100000 in
theorem tX12_ties_b54_91 {X : zX} {e : Nat → Prop} (hw : zWf X e) {T : zT} {v1 : Int} {v2 : Int} {w4 : Int} {I : zMem} {w6 : Int} {k0 : Int} (o : zOk e (50, 0, 0)) {u : ((Int × Int) ⊕ (Int × Int))} (hf : fX12_ties_b54_91 v1 v2 w4 I w6 k0 = some u) (hk : ∀ s', u = .inl s' → zW X T mX12_ties 54 [(0, .ref (zad X (50, 0, 0))), (2, vi v2), (4, vi w4), (5, vi s'.1), (6, vi s'.2)] [] I) (hx : ∀ x, u = .inr x → zW X T mX12_ties 101 [(5, vi x.1)] [] I) : zW X T mX12_ties 91 [(0, .ref (zad X (50, 0, 0))), (2, vi v2), (4, vi w4), (6, vi w6)] [vi k0] I := by
  unfold fX12_ties_b54_91 at hf
  refine zW_iconst dX12_ties_91 ?_
  refine zW_sub [0, 1, 2, 3] rfl ?_
  exact tX12_ties_b54_92 hw o hf hk hx
set_option maxRecDepth 100000 in
theorem tX12_ties_l54_y {X : zX} {e : Nat → Prop} (hw : zWf X e) {T : zT} {v1 : Int} {v2 : Int} {w4 : Int} {I : zMem} (o : zOk e (50, 0, 0)) (s : (Int × Int)) {u : ((Int × Int) ⊕ (Int × Int))} (hf : fX12_ties_l54 v1 v2 w4 I s = some u) (hk : ∀ s', u = .inl s' → zW X T mX12_ties 54 [(0, .ref (zad X (50, 0, 0))), (2, vi v2), (4, vi w4), (5, vi s'.1), (6, vi s'.2)] [] I) (hx : ∀ x, u = .inr x → zW X T mX12_ties 101 [(5, vi x.1)] [] I) : zW X T mX12_ties 54 [(0, .ref (zad X (50, 0, 0))), (2, vi v2), (4, vi w4), (5, vi s.1), (6, vi s.2)] [] I := by
  unfold fX12_ties_l54 at hf
  refine zW_iload 4 dX12_ties_54 rfl ?_
  refine zW_sipush dX12_ties_56 rfl ?_
  refine zF_icmp_ge 101 dX12_ties_59 rfl rfl (w32_lit _ rfl) hf (fun c hf => ?_) (fun c hf => ?_)
  · refine zW_sub [3] rfl ?_
    exact hx _ (Option.some.inj hf).symm
  · refine zW_iload 3 dX12_ties_62 rfl ?_
    refine zW_aload_n 0 dX12_ties_64 rfl ?_
    refine zW_iload 4 dX12_ties_65 rfl ?_
    refine zC_Vri (As := [vi s.2]) (fun x hx => kX12_sumNow hw (v1 := s.2) o hx) mv_RX12_278 (hw.1 _ o) rfl rfl rfl rfl rfl dX12_ties_67 hf (fun r7 hf => ?_)
    refine zW_iload 2 dX12_ties_70 rfl ?_
    refine zF_icmp_ne 91 dX12_ties_72 rfl rfl rfl hf (fun c hf => ?_) (fun c hf => ?_)
    · refine zW_iload_n 1 dX12_ties_75 rfl ?_
      refine zF_if_eq 87 dX12_ties_76 rfl rfl hf (fun c hf => ?_) (fun c hf => ?_)
      · refine zW_sub [0, 1, 2, 4] rfl ?_
        exact tX12_ties_b54_87 hw o hf hk hx
      · refine zW_iload 4 dX12_ties_79 rfl ?_
        refine zC_Sri (As := [vi s.2]) (fun x hx => kX12_isWhole hw (v0 := s.2)  hx) ms_RX12_116 rfl rfl rfl rfl dX12_ties_81 hf (fun r9 hf => ?_)
        refine zF_if_eq 91 dX12_ties_84 rfl rfl hf (fun c hf => ?_) (fun c hf => ?_)
        · refine zW_sub [0, 1, 2, 4] rfl ?_
          exact tX12_ties_b54_91 hw o hf hk hx
        · refine zW_sub [0, 1, 2, 4] rfl ?_
          exact tX12_ties_b54_87 hw o hf hk hx
    · refine zW_sub [0, 1, 2, 4] rfl ?_
      exact tX12_ties_b54_91 hw o hf hk hx
theorem tX12_ties_l54 {X : zX} {e : Nat → Prop} (hw : zWf X e) {T : zT} {v1 : Int} {v2 : Int} {w4 : Int} {I : zMem} (o : zOk e (50, 0, 0)) {s0 : (Int × Int)} {α : Type} {F : (Int × Int) → Option α} {u : α} (hf : zb (zlp (fX12_ties_l54 v1 v2 w4 I) 5000 s0) F = some u) (kx : ∀ x, F x = some u → zW X T mX12_ties 101 [(5, vi x.1)] [] I) : zW X T mX12_ties 54 [(0, .ref (zad X (50, 0, 0))), (2, vi v2), (4, vi w4), (5, vi s0.1), (6, vi s0.2)] [] I := by
  obtain ⟨x, h, hf⟩ := zb_inv hf
  exact zlp_W (P := fun s => zW X T mX12_ties 54 [(0, .ref (zad X (50, 0, 0))), (2, vi v2), (4, vi w4), (5, vi s.1), (6, vi s.2)] [] I) (E := fun x => zW X T mX12_ties 101 [(5, vi x.1)] [] I) (fun s u h hk hx => tX12_ties_l54_y hw o s h hk hx) _ s0 x h (kx x hf)
set_option maxRecDepth 100000 in
theorem tX12_ties_0 {X : zX} {e : Nat → Prop} (hw : zWf X e) {v1 : Int} {v2 : Int} (o : zOk e (50, 0, 0)) {I : zMem} {u : (Int × zMem)} (hf : fX12_ties v1 v2 I = some u) : zW X (some (vi u.1), u.2) mX12_ties 0 [(0, .ref (zad X (50, 0, 0))), (1, vi v1), (2, vi v2)] [] I := by
  unfold fX12_ties at hf
  refine zW_aload_n 0 dX12_ties_0 rfl ?_
  refine zW_iconst dX12_ties_1 ?_
  refine zF_put lk_RX12_1 (hw.1 _ o) rfl rfl (zn_int _) dX12_ties_2 hf (fun I1 hf => ?_)
  refine zW_aload_n 0 dX12_ties_5 rfl ?_
  refine zW_iload_n 1 dX12_ties_6 rfl ?_
  refine zC_Vri (As := [vi v1]) (fun x hx => kX12_isProcess hw (v1 := v1) o hx) mv_RX12_222 (hw.1 _ o) rfl rfl rfl rfl rfl dX12_ties_7 hf (fun r2 hf => ?_)
  refine zF_if_eq 23 dX12_ties_10 rfl rfl hf (fun c hf => ?_) (fun c hf => ?_)
  · refine zW_bipush dX12_ties_23 rfl ?_
    exact zR_i hw rfl dX12_ties_25 hf
  · refine zW_iload_n 2 dX12_ties_13 rfl ?_
    refine zW_i2l dX12_ties_14 ?_
    refine zW_lconst0 dX12_ties_15 ?_
    refine zW_lconst1 dX12_ties_16 ?_
    refine zC_Sri (As := [vl (w32 v2), vl 0, vl 1]) (fun x hx => kX12_within hw (v0 := w32 v2) (v2 := 0) (v4 := 1)  hx) ms_RX12_94 rfl rfl rfl rfl dX12_ties_17 hf (fun r3 hf => ?_)
    refine zF_if_ne 26 dX12_ties_20 rfl rfl hf (fun c hf => ?_) (fun c hf => ?_)
    · refine zW_bipush dX12_ties_23 rfl ?_
      exact zR_i hw rfl dX12_ties_25 hf
    · refine zW_aload_n 0 dX12_ties_26 rfl ?_
      refine zW_iload_n 1 dX12_ties_27 rfl ?_
      refine zC_Vwi (As := [vi v1]) (fun x hx => kX12_noSoft hw (v1 := v1) o hx) mv_RX12_281 (hw.1 _ o) rfl rfl rfl rfl rfl dX12_ties_28 hf (fun r4 hf => ?_)
      refine zW_istore_n (lv' := [(3, vi r4.1), (0, .ref (zad X (50, 0, 0))), (1, vi v1), (2, vi v2)]) dX12_ties_31 rfl rfl ?_
      refine zW_iload_n 0 dX12_ties_32 rfl ?_
      refine zF_if_eq 38 dX12_ties_33 rfl rfl hf (fun c hf => ?_) (fun c hf => ?_)
      · refine zW_aload_n 1 dX12_ties_38 rfl ?_
        refine zW_aload_n 1 dX12_ties_39 rfl ?_
        refine zC_Vwi (As := []) (fun x hx => kX12_bestNow hw o hx) mv_RX12_162 (hw.1 _ o) rfl rfl rfl rfl rfl dX12_ties_40 hf (fun r5 hf => ?_)
        refine zC_Vri (As := [vi r5.1]) (fun x hx => kX12_sumNow hw (v1 := r5.1) o hx) mv_RX12_278 (hw.1 _ o) rfl rfl rfl rfl rfl dX12_ties_43 hf (fun r6 hf => ?_)
        refine zW_istore (lv' := [(4, vi r6), (3, vi r4.1), (0, .ref (zad X (50, 0, 0))), (1, vi v1), (2, vi v2)]) dX12_ties_46 rfl rfl ?_
        refine zW_iconst dX12_ties_48 ?_
        refine zW_istore (lv' := [(5, vi 0), (4, vi r6), (3, vi r4.1), (0, .ref (zad X (50, 0, 0))), (1, vi v1), (2, vi v2)]) dX12_ties_49 rfl rfl ?_
        refine zW_iconst dX12_ties_51 ?_
        refine zW_istore (lv' := [(6, vi 0), (5, vi 0), (4, vi r6), (3, vi r4.1), (0, .ref (zad X (50, 0, 0))), (1, vi v1), (2, vi v2)]) dX12_ties_52 rfl rfl ?_
        refine zW_sub [4, 6, 2, 1, 0] rfl ?_
        refine tX12_ties_l54 hw o (s0 := (0, 0)) hf (fun x10 hf => ?_)
        refine zW_iload 0 dX12_ties_101 rfl ?_
        exact zR_i hw rfl dX12_ties_103 hf
      · refine zW_iload_n 0 dX12_ties_36 rfl ?_
        exact zR_i hw rfl dX12_ties_37 hf
theorem kX12_ties {X : zX} {e : Nat → Prop} (hw : zWf X e) {v1 : Int} {v2 : Int} (o : zOk e (50, 0, 0)) {I : zMem} {u : (Int × zMem)} (hf : fX12_ties v1 v2 I = some u) : zCn X mX12_ties yX12_ties [.ref (zad X (50, 0, 0)), vi v1, vi v2] I (some (vi u.1), u.2) := zCn_of (by decide +kernel) rfl rfl ⟨rfl, rfl⟩ (tX12_ties_0 hw.N o hf)
set_option maxRecDepth 100000 in
theorem tX12_rank_b51_77 {X : zX} {e : Nat → Prop} (hw : zWf X e) {T : zT} {v1 : Int} {v2 : Int} {w4 : Int} {I : zMem} {w6 : Int} {k0 : Int} {k1 : Int} (o : zOk e (50, 0, 0)) {u : ((Int × Int) ⊕ (Int × Int))} (hf : fX12_rank_b51_77 v1 v2 w4 I w6 k0 k1 = some u) (hk : ∀ s', u = .inl s' → zW X T mX12_rank 51 [(0, .ref (zad X (50, 0, 0))), (4, vi w4), (5, vi s'.1), (6, vi s'.2)] [] I) (hx : ∀ x, u = .inr x → zW X T mX12_rank 86 [(5, vi x.1)] [] I) : zW X T mX12_rank 77 [(0, .ref (zad X (50, 0, 0))), (4, vi w4), (6, vi w6)] [vi k0, vi k1] I := by
  unfold fX12_rank_b51_77 at hf
  refine zW_iadd dX12_rank_77 ?_
  refine zF_istore (lv' := fun a7 => [(5, vi a7), (0, .ref (zad X (50, 0, 0))), (4, vi w4), (6, vi w6)]) dX12_rank_78 hf (fun _ => rfl) rfl (fun a7 hf => ?_)
  refine zW_iinc 3 (lv' := [(6, vi (w6 + 1)), (5, vi a7), (0, .ref (zad X (50, 0, 0))), (4, vi w4)]) dX12_rank_80 rfl rfl rfl ?_
  refine zW_goto 51 dX12_rank_83 rfl ?_
  refine zW_sub [2, 3, 1, 0] rfl ?_
  exact hk _ (Option.some.inj hf).symm
set_option maxRecDepth 100000 in
theorem tX12_rank_l51_y {X : zX} {e : Nat → Prop} (hw : zWf X e) {T : zT} {v1 : Int} {v2 : Int} {w4 : Int} {I : zMem} (o : zOk e (50, 0, 0)) (s : (Int × Int)) {u : ((Int × Int) ⊕ (Int × Int))} (hf : fX12_rank_l51 v1 v2 w4 I s = some u) (hk : ∀ s', u = .inl s' → zW X T mX12_rank 51 [(0, .ref (zad X (50, 0, 0))), (4, vi w4), (5, vi s'.1), (6, vi s'.2)] [] I) (hx : ∀ x, u = .inr x → zW X T mX12_rank 86 [(5, vi x.1)] [] I) : zW X T mX12_rank 51 [(0, .ref (zad X (50, 0, 0))), (4, vi w4), (5, vi s.1), (6, vi s.2)] [] I := by
  unfold fX12_rank_l51 at hf
  refine zW_iload 3 dX12_rank_51 rfl ?_
  refine zW_sipush dX12_rank_53 rfl ?_
  refine zF_icmp_ge 86 dX12_rank_56 rfl rfl (w32_lit _ rfl) hf (fun c hf => ?_) (fun c hf => ?_)
  · refine zW_sub [2] rfl ?_
    exact hx _ (Option.some.inj hf).symm
  · refine zW_iload 2 dX12_rank_59 rfl ?_
    refine zW_aload_n 0 dX12_rank_61 rfl ?_
    refine zW_iload 3 dX12_rank_62 rfl ?_
    refine zC_Vri (As := [vi s.2]) (fun x hx => kX12_sumNow hw (v1 := s.2) o hx) mv_RX12_278 (hw.1 _ o) rfl rfl rfl rfl rfl dX12_rank_64 hf (fun r6 hf => ?_)
    refine zW_iload 1 dX12_rank_67 rfl ?_
    refine zF_icmp_le 76 dX12_rank_69 rfl rfl rfl hf (fun c hf => ?_) (fun c hf => ?_)
    · refine zW_iconst dX12_rank_76 ?_
      refine zW_sub [0, 1, 3] rfl ?_
      exact tX12_rank_b51_77 hw o hf hk hx
    · refine zW_iconst dX12_rank_72 ?_
      refine zW_goto 77 dX12_rank_73 rfl ?_
      refine zW_sub [0, 1, 3] rfl ?_
      exact tX12_rank_b51_77 hw o hf hk hx
theorem tX12_rank_l51 {X : zX} {e : Nat → Prop} (hw : zWf X e) {T : zT} {v1 : Int} {v2 : Int} {w4 : Int} {I : zMem} (o : zOk e (50, 0, 0)) {s0 : (Int × Int)} {α : Type} {F : (Int × Int) → Option α} {u : α} (hf : zb (zlp (fX12_rank_l51 v1 v2 w4 I) 5000 s0) F = some u) (kx : ∀ x, F x = some u → zW X T mX12_rank 86 [(5, vi x.1)] [] I) : zW X T mX12_rank 51 [(0, .ref (zad X (50, 0, 0))), (4, vi w4), (5, vi s0.1), (6, vi s0.2)] [] I := by
  obtain ⟨x, h, hf⟩ := zb_inv hf
  exact zlp_W (P := fun s => zW X T mX12_rank 51 [(0, .ref (zad X (50, 0, 0))), (4, vi w4), (5, vi s.1), (6, vi s.2)] [] I) (E := fun x => zW X T mX12_rank 86 [(5, vi x.1)] [] I) (fun s u h hk hx => tX12_rank_l51_y hw o s h hk hx) _ s0 x h (kx x hf)
set_option maxRecDepth 100000 in
theorem tX12_rank_0 {X : zX} {e : Nat → Prop} (hw : zWf X e) {v1 : Int} {v2 : Int} (o : zOk e (50, 0, 0)) {I : zMem} {u : (Int × zMem)} (hf : fX12_rank v1 v2 I = some u) : zW X (some (vi u.1), u.2) mX12_rank 0 [(0, .ref (zad X (50, 0, 0))), (1, vi v1), (2, vi v2)] [] I := by
  unfold fX12_rank at hf
  refine zW_aload_n 0 dX12_rank_0 rfl ?_
  refine zW_iconst dX12_rank_1 ?_
  refine zF_put lk_RX12_1 (hw.1 _ o) rfl rfl (zn_int _) dX12_rank_2 hf (fun I1 hf => ?_)
  refine zW_aload_n 0 dX12_rank_5 rfl ?_
  refine zW_iload_n 1 dX12_rank_6 rfl ?_
  refine zC_Vri (As := [vi v1]) (fun x hx => kX12_isProcess hw (v1 := v1) o hx) mv_RX12_222 (hw.1 _ o) rfl rfl rfl rfl rfl dX12_rank_7 hf (fun r2 hf => ?_)
  refine zF_if_ne 16 dX12_rank_10 rfl rfl hf (fun c hf => ?_) (fun c hf => ?_)
  · refine zW_bipush dX12_rank_13 rfl ?_
    exact zR_i hw rfl dX12_rank_15 hf
  · refine zW_iload_n 2 dX12_rank_16 rfl ?_
    refine zC_Sri (As := [vi v2]) (fun x hx => kX12_isWord hw (v0 := v2)  hx) ms_RX12_127 rfl rfl rfl rfl dX12_rank_17 hf (fun r3 hf => ?_)
    refine zF_if_ne 26 dX12_rank_20 rfl rfl hf (fun c hf => ?_) (fun c hf => ?_)
    · refine zW_bipush dX12_rank_23 rfl ?_
      exact zR_i hw rfl dX12_rank_25 hf
    · refine zW_aload_n 0 dX12_rank_26 rfl ?_
      refine zW_iload_n 1 dX12_rank_27 rfl ?_
      refine zC_Vwi (As := [vi v1]) (fun x hx => kX12_noSoft hw (v1 := v1) o hx) mv_RX12_281 (hw.1 _ o) rfl rfl rfl rfl rfl dX12_rank_28 hf (fun r4 hf => ?_)
      refine zW_istore_n (lv' := [(3, vi r4.1), (0, .ref (zad X (50, 0, 0))), (1, vi v1), (2, vi v2)]) dX12_rank_31 rfl rfl ?_
      refine zW_iload_n 0 dX12_rank_32 rfl ?_
      refine zF_if_eq 38 dX12_rank_33 rfl rfl hf (fun c hf => ?_) (fun c hf => ?_)
      · refine zW_aload_n 1 dX12_rank_38 rfl ?_
        refine zW_iload_n 3 dX12_rank_39 rfl ?_
        refine zC_Vri (As := [vi v2]) (fun x hx => kX12_sumNow hw (v1 := v2) o hx) mv_RX12_278 (hw.1 _ o) rfl rfl rfl rfl rfl dX12_rank_40 hf (fun r5 hf => ?_)
        refine zW_istore (lv' := [(4, vi r5), (3, vi r4.1), (0, .ref (zad X (50, 0, 0))), (1, vi v1), (2, vi v2)]) dX12_rank_43 rfl rfl ?_
        refine zW_iconst dX12_rank_45 ?_
        refine zW_istore (lv' := [(5, vi 0), (4, vi r5), (3, vi r4.1), (0, .ref (zad X (50, 0, 0))), (1, vi v1), (2, vi v2)]) dX12_rank_46 rfl rfl ?_
        refine zW_iconst dX12_rank_48 ?_
        refine zW_istore (lv' := [(6, vi 0), (5, vi 0), (4, vi r5), (3, vi r4.1), (0, .ref (zad X (50, 0, 0))), (1, vi v1), (2, vi v2)]) dX12_rank_49 rfl rfl ?_
        refine zW_sub [4, 2, 1, 0] rfl ?_
        refine tX12_rank_l51 hw o (s0 := (0, 0)) hf (fun x8 hf => ?_)
        refine zW_iload 0 dX12_rank_86 rfl ?_
        exact zR_i hw rfl dX12_rank_88 hf
      · refine zW_iload_n 0 dX12_rank_36 rfl ?_
        exact zR_i hw rfl dX12_rank_37 hf
theorem kX12_rank {X : zX} {e : Nat → Prop} (hw : zWf X e) {v1 : Int} {v2 : Int} (o : zOk e (50, 0, 0)) {I : zMem} {u : (Int × zMem)} (hf : fX12_rank v1 v2 I = some u) : zCn X mX12_rank yX12_rank [.ref (zad X (50, 0, 0)), vi v1, vi v2] I (some (vi u.1), u.2) := zCn_of (by decide +kernel) rfl rfl ⟨rfl, rfl⟩ (tX12_rank_0 hw.N o hf)
set_option maxRecDepth 100000 in
theorem tX12_againstNow_b4_33 {X : zX} {e : Nat → Prop} (hw : zWf X e) {T : zT} {v1 : Int} {I : zMem} {w3 : Int} {k0 : Int} {k1 : Int} (o : zOk e (50, 0, 0)) {u : ((Int × Int) ⊕ (Int × Int))} (hf : fX12_againstNow_b4_33 v1 I w3 k0 k1 = some u) (hk : ∀ s', u = .inl s' → zW X T mX12_againstNow 4 [(0, .ref (zad X (50, 0, 0))), (1, vi v1), (2, vi s'.1), (3, vi s'.2)] [] I) (hx : ∀ x, u = .inr x → zW X T mX12_againstNow 41 [(2, vi x.1)] [] I) : zW X T mX12_againstNow 33 [(0, .ref (zad X (50, 0, 0))), (1, vi v1), (3, vi w3)] [vi k0, vi k1] I := by
  unfold fX12_againstNow_b4_33 at hf
  refine zW_iadd dX12_againstNow_33 ?_
  refine zF_istore_n (lv' := fun a4 => [(2, vi a4), (0, .ref (zad X (50, 0, 0))), (1, vi v1), (3, vi w3)]) dX12_againstNow_34 hf (fun _ => rfl) rfl (fun a4 hf => ?_)
  refine zW_iinc 3 (lv' := [(3, vi (w3 + 1)), (2, vi a4), (0, .ref (zad X (50, 0, 0))), (1, vi v1)]) dX12_againstNow_35 rfl rfl rfl ?_
  refine zW_goto 4 dX12_againstNow_38 rfl ?_
  refine zW_sub [2, 3, 1, 0] rfl ?_
  exact hk _ (Option.some.inj hf).symm
set_option maxRecDepth 100000 in
theorem tX12_againstNow_l4_y {X : zX} {e : Nat → Prop} (hw : zWf X e) {T : zT} {v1 : Int} {I : zMem} (o : zOk e (50, 0, 0)) (s : (Int × Int)) {u : ((Int × Int) ⊕ (Int × Int))} (hf : fX12_againstNow_l4 v1 I s = some u) (hk : ∀ s', u = .inl s' → zW X T mX12_againstNow 4 [(0, .ref (zad X (50, 0, 0))), (1, vi v1), (2, vi s'.1), (3, vi s'.2)] [] I) (hx : ∀ x, u = .inr x → zW X T mX12_againstNow 41 [(2, vi x.1)] [] I) : zW X T mX12_againstNow 4 [(0, .ref (zad X (50, 0, 0))), (1, vi v1), (2, vi s.1), (3, vi s.2)] [] I := by
  unfold fX12_againstNow_l4 at hf
  refine zW_iload_n 3 dX12_againstNow_4 rfl ?_
  refine zW_bipush dX12_againstNow_5 rfl ?_
  refine zF_icmp_ge 41 dX12_againstNow_7 rfl rfl (w32_lit _ rfl) hf (fun c hf => ?_) (fun c hf => ?_)
  · refine zW_sub [2] rfl ?_
    exact hx _ (Option.some.inj hf).symm
  · refine zW_iload_n 2 dX12_againstNow_10 rfl ?_
    refine zW_iload_n 1 dX12_againstNow_11 rfl ?_
    refine zW_iload_n 3 dX12_againstNow_12 rfl ?_
    refine zC_Sri (As := [vi v1, vi s.2]) (fun x hx => kX12_codeBit hw (v0 := v1) (v1 := s.2)  hx) ms_RX12_82 rfl rfl rfl rfl dX12_againstNow_13 hf (fun r1 hf => ?_)
    refine zW_aload_n 0 dX12_againstNow_16 rfl ?_
    refine zW_getR (q' := (58, 0, 0)) lk_RX12_37 (hw.1 _ o) rfl rfl (hw.2.1 _ _ _ o rfl) dX12_againstNow_17 ?_
    refine zW_iload_n 3 dX12_againstNow_20 rfl ?_
    obtain ⟨c2, hf⟩ := zgd hf
    refine zF_iald (hw.1 _ (zokM (r' := 58) o rfl rfl)) rfl c2 rfl dX12_againstNow_21 ?_
    refine zC_Sri (As := [vi r1, vi (I (58, 0, 0) (ix s.2))]) (fun x hx => kX12_signed hw (v0 := r1) (v1 := I (58, 0, 0) (ix s.2))  hx) ms_RX12_154 rfl rfl rfl rfl dX12_againstNow_22 hf (fun r3 hf => ?_)
    refine zF_if_ge 32 dX12_againstNow_25 rfl rfl hf (fun c hf => ?_) (fun c hf => ?_)
    · refine zW_iconst dX12_againstNow_32 ?_
      refine zW_sub [0, 1, 3] rfl ?_
      exact tX12_againstNow_b4_33 hw o hf hk hx
    · refine zW_iconst dX12_againstNow_28 ?_
      refine zW_goto 33 dX12_againstNow_29 rfl ?_
      refine zW_sub [0, 1, 3] rfl ?_
      exact tX12_againstNow_b4_33 hw o hf hk hx
theorem tX12_againstNow_l4 {X : zX} {e : Nat → Prop} (hw : zWf X e) {T : zT} {v1 : Int} {I : zMem} (o : zOk e (50, 0, 0)) {s0 : (Int × Int)} {α : Type} {F : (Int × Int) → Option α} {u : α} (hf : zb (zlp (fX12_againstNow_l4 v1 I) 5000 s0) F = some u) (kx : ∀ x, F x = some u → zW X T mX12_againstNow 41 [(2, vi x.1)] [] I) : zW X T mX12_againstNow 4 [(0, .ref (zad X (50, 0, 0))), (1, vi v1), (2, vi s0.1), (3, vi s0.2)] [] I := by
  obtain ⟨x, h, hf⟩ := zb_inv hf
  exact zlp_W (P := fun s => zW X T mX12_againstNow 4 [(0, .ref (zad X (50, 0, 0))), (1, vi v1), (2, vi s.1), (3, vi s.2)] [] I) (E := fun x => zW X T mX12_againstNow 41 [(2, vi x.1)] [] I) (fun s u h hk hx => tX12_againstNow_l4_y hw o s h hk hx) _ s0 x h (kx x hf)
set_option maxRecDepth 100000 in
theorem tX12_againstNow_0 {X : zX} {e : Nat → Prop} (hw : zWf X e) {v1 : Int} (o : zOk e (50, 0, 0)) {I : zMem} {u : Int} (hf : fX12_againstNow v1 I = some u) : zW X (some (vi u), I) mX12_againstNow 0 [(0, .ref (zad X (50, 0, 0))), (1, vi v1)] [] I := by
  unfold fX12_againstNow at hf
  refine zW_iconst dX12_againstNow_0 ?_
  refine zW_istore_n (lv' := [(2, vi 0), (0, .ref (zad X (50, 0, 0))), (1, vi v1)]) dX12_againstNow_1 rfl rfl ?_
  refine zW_iconst dX12_againstNow_2 ?_
  refine zW_istore_n (lv' := [(3, vi 0), (2, vi 0), (0, .ref (zad X (50, 0, 0))), (1, vi v1)]) dX12_againstNow_3 rfl rfl ?_
  refine zW_sub [2, 3, 1, 0] rfl ?_
  refine tX12_againstNow_l4 hw o (s0 := (0, 0)) hf (fun x5 hf => ?_)
  refine zW_iload_n 0 dX12_againstNow_41 rfl ?_
  exact zS_i hw rfl dX12_againstNow_42 hf
theorem kX12_againstNow {X : zX} {e : Nat → Prop} (hw : zWf X e) {v1 : Int} (o : zOk e (50, 0, 0)) {I : zMem} {u : Int} (hf : fX12_againstNow v1 I = some u) : zCn X mX12_againstNow yX12_againstNow [.ref (zad X (50, 0, 0)), vi v1] I (some (vi u), I) := zCn_of (by decide +kernel) rfl rfl ⟨rfl, rfl⟩ (tX12_againstNow_0 hw.N o hf)
set_option maxRecDepth 100000 in
theorem tX12_wrong_0 {X : zX} {e : Nat → Prop} (hw : zWf X e) {v1 : Int} (o : zOk e (50, 0, 0)) {I : zMem} {u : (Int × zMem)} (hf : fX12_wrong v1 I = some u) : zW X (some (vi u.1), u.2) mX12_wrong 0 [(0, .ref (zad X (50, 0, 0))), (1, vi v1)] [] I := by
  unfold fX12_wrong at hf
  refine zW_aload_n 0 dX12_wrong_0 rfl ?_
  refine zW_iconst dX12_wrong_1 ?_
  refine zF_put lk_RX12_1 (hw.1 _ o) rfl rfl (zn_int _) dX12_wrong_2 hf (fun I1 hf => ?_)
  refine zW_aload_n 0 dX12_wrong_5 rfl ?_
  refine zW_iload_n 1 dX12_wrong_6 rfl ?_
  refine zC_Vwi (As := [vi v1]) (fun x hx => kX12_noSoft hw (v1 := v1) o hx) mv_RX12_281 (hw.1 _ o) rfl rfl rfl rfl rfl dX12_wrong_7 hf (fun r2 hf => ?_)
  refine zW_istore_n (lv' := [(2, vi r2.1), (0, .ref (zad X (50, 0, 0))), (1, vi v1)]) dX12_wrong_10 rfl rfl ?_
  refine zW_iload_n 0 dX12_wrong_11 rfl ?_
  refine zF_if_eq 19 dX12_wrong_12 rfl rfl hf (fun c hf => ?_) (fun c hf => ?_)
  · refine zW_aload_n 1 dX12_wrong_19 rfl ?_
    refine zW_aload_n 1 dX12_wrong_20 rfl ?_
    refine zC_Vwi (As := []) (fun x hx => kX12_bestNow hw o hx) mv_RX12_162 (hw.1 _ o) rfl rfl rfl rfl rfl dX12_wrong_21 hf (fun r3 hf => ?_)
    refine zC_Vri (As := [vi r3.1]) (fun x hx => kX12_againstNow hw (v1 := r3.1) o hx) mv_RX12_298 (hw.1 _ o) rfl rfl rfl rfl rfl dX12_wrong_24 hf (fun r4 hf => ?_)
    exact zR_i hw rfl dX12_wrong_27 hf
  · refine zW_iload_n 0 dX12_wrong_15 rfl ?_
    refine zW_goto 27 dX12_wrong_16 rfl ?_
    exact zR_i hw rfl dX12_wrong_27 hf
theorem kX12_wrong {X : zX} {e : Nat → Prop} (hw : zWf X e) {v1 : Int} (o : zOk e (50, 0, 0)) {I : zMem} {u : (Int × zMem)} (hf : fX12_wrong v1 I = some u) : zCn X mX12_wrong yX12_wrong [.ref (zad X (50, 0, 0)), vi v1] I (some (vi u.1), u.2) := zCn_of (by decide +kernel) rfl rfl ⟨rfl, rfl⟩ (tX12_wrong_0 hw.N o hf)
set_option maxRecDepth 100000 in
theorem tX12_against_0 {X : zX} {e : Nat → Prop} (hw : zWf X e) {v1 : Int} {v2 : Int} (o : zOk e (50, 0, 0)) {I : zMem} {u : (Int × zMem)} (hf : fX12_against v1 v2 I = some u) : zW X (some (vi u.1), u.2) mX12_against 0 [(0, .ref (zad X (50, 0, 0))), (1, vi v1), (2, vi v2)] [] I := by
  unfold fX12_against at hf
  refine zW_aload_n 0 dX12_against_0 rfl ?_
  refine zW_iconst dX12_against_1 ?_
  refine zF_put lk_RX12_1 (hw.1 _ o) rfl rfl (zn_int _) dX12_against_2 hf (fun I1 hf => ?_)
  refine zW_aload_n 0 dX12_against_5 rfl ?_
  refine zW_iload_n 1 dX12_against_6 rfl ?_
  refine zC_Vri (As := [vi v1]) (fun x hx => kX12_isProcess hw (v1 := v1) o hx) mv_RX12_222 (hw.1 _ o) rfl rfl rfl rfl rfl dX12_against_7 hf (fun r2 hf => ?_)
  refine zF_if_ne 16 dX12_against_10 rfl rfl hf (fun c hf => ?_) (fun c hf => ?_)
  · refine zW_bipush dX12_against_13 rfl ?_
    exact zR_i hw rfl dX12_against_15 hf
  · refine zW_iload_n 2 dX12_against_16 rfl ?_
    refine zC_Sri (As := [vi v2]) (fun x hx => kX12_isWord hw (v0 := v2)  hx) ms_RX12_127 rfl rfl rfl rfl dX12_against_17 hf (fun r3 hf => ?_)
    refine zF_if_ne 26 dX12_against_20 rfl rfl hf (fun c hf => ?_) (fun c hf => ?_)
    · refine zW_bipush dX12_against_23 rfl ?_
      exact zR_i hw rfl dX12_against_25 hf
    · refine zW_aload_n 0 dX12_against_26 rfl ?_
      refine zW_iload_n 1 dX12_against_27 rfl ?_
      refine zC_Vwi (As := [vi v1]) (fun x hx => kX12_noSoft hw (v1 := v1) o hx) mv_RX12_281 (hw.1 _ o) rfl rfl rfl rfl rfl dX12_against_28 hf (fun r4 hf => ?_)
      refine zW_istore_n (lv' := [(3, vi r4.1), (0, .ref (zad X (50, 0, 0))), (1, vi v1), (2, vi v2)]) dX12_against_31 rfl rfl ?_
      refine zW_iload_n 0 dX12_against_32 rfl ?_
      refine zF_if_eq 40 dX12_against_33 rfl rfl hf (fun c hf => ?_) (fun c hf => ?_)
      · refine zW_aload_n 1 dX12_against_40 rfl ?_
        refine zW_iload_n 3 dX12_against_41 rfl ?_
        refine zC_Vri (As := [vi v2]) (fun x hx => kX12_againstNow hw (v1 := v2) o hx) mv_RX12_298 (hw.1 _ o) rfl rfl rfl rfl rfl dX12_against_42 hf (fun r5 hf => ?_)
        exact zR_i hw rfl dX12_against_45 hf
      · refine zW_iload_n 0 dX12_against_36 rfl ?_
        refine zW_goto 45 dX12_against_37 rfl ?_
        exact zR_i hw rfl dX12_against_45 hf
theorem kX12_against {X : zX} {e : Nat → Prop} (hw : zWf X e) {v1 : Int} {v2 : Int} (o : zOk e (50, 0, 0)) {I : zMem} {u : (Int × zMem)} (hf : fX12_against v1 v2 I = some u) : zCn X mX12_against yX12_against [.ref (zad X (50, 0, 0)), vi v1, vi v2] I (some (vi u.1), u.2) := zCn_of (by decide +kernel) rfl rfl ⟨rfl, rfl⟩ (tX12_against_0 hw.N o hf)
set_option maxRecDepth 100000 in
theorem tX12_listed_l46_y {X : zX} {e : Nat → Prop} (hw : zWf X e) {T : zT} {v1 : Int} {v2 : Int} (o : zOk e (50, 0, 0)) (s : (Int × zMem)) {u : ((Int × zMem) ⊕ (Int × zMem))} (hf : fX12_listed_l46 v1 v2 s = some u) (hk : ∀ s', u = .inl s' → zW X T mX12_listed 46 [(0, .ref (zad X (50, 0, 0))), (2, vi v2), (4, vi s'.1)] [] s'.2) (hx : ∀ x, u = .inr x → zW X T mX12_listed 98 [(0, .ref (zad X (50, 0, 0))), (2, vi v2)] [] x.2) : zW X T mX12_listed 46 [(0, .ref (zad X (50, 0, 0))), (2, vi v2), (4, vi s.1)] [] s.2 := by
  unfold fX12_listed_l46 at hf
  refine zW_iload 2 dX12_listed_46 rfl ?_
  refine zW_sipush dX12_listed_48 rfl ?_
  refine zF_icmp_ge 98 dX12_listed_51 rfl rfl (w32_lit _ rfl) hf (fun c hf => ?_) (fun c hf => ?_)
  · refine zW_sub [0, 1] rfl ?_
    exact hx _ (Option.some.inj hf).symm
  · refine zW_aload_n 0 dX12_listed_54 rfl ?_
    refine zW_getR (q' := (64, 0, 0)) lk_RX12_55 (hw.1 _ o) rfl rfl (hw.2.1 _ _ _ o rfl) dX12_listed_55 ?_
    refine zW_iload 2 dX12_listed_58 rfl ?_
    refine zW_iload 2 dX12_listed_60 rfl ?_
    refine zW_bipush dX12_listed_62 rfl ?_
    refine zW_idiv dX12_listed_64 (w32_ne0 _ rfl) ?_
    refine zW_iload 2 dX12_listed_65 rfl ?_
    refine zW_bipush dX12_listed_67 rfl ?_
    refine zW_irem dX12_listed_69 (w32_ne0 _ rfl) ?_
    refine zC_Sri (As := [vi (idiv s.1 32), vi (irem s.1 32)]) (fun x hx => kX12_wordOf hw (v0 := idiv s.1 32) (v1 := irem s.1 32)  hx) ms_RX12_112 rfl rfl rfl rfl dX12_listed_70 hf (fun r5 hf => ?_)
    obtain ⟨c6, hf⟩ := zgd hf
    refine zF_iast (hw.1 _ (zokM (r' := 64) o rfl rfl)) rfl c6 rfl dX12_listed_73 hf (fun I7 hf => ?_)
    refine zW_aload_n 0 dX12_listed_74 rfl ?_
    refine zW_getR (q' := (65, 0, 0)) lk_RX12_58 (hw.1 _ o) rfl rfl (hw.2.1 _ _ _ o rfl) dX12_listed_75 ?_
    refine zW_iload 2 dX12_listed_78 rfl ?_
    refine zW_aload_n 0 dX12_listed_80 rfl ?_
    refine zW_aload_n 0 dX12_listed_81 rfl ?_
    refine zW_getR (q' := (64, 0, 0)) lk_RX12_55 (hw.1 _ o) rfl rfl (hw.2.1 _ _ _ o rfl) dX12_listed_82 ?_
    refine zW_iload 2 dX12_listed_85 rfl ?_
    refine zF_iald (hw.1 _ (zokM (r' := 64) o rfl rfl)) rfl c6 rfl dX12_listed_87 ?_
    refine zC_Vri (As := [vi (I7 (64, 0, 0) (ix s.1))]) (fun x hx => kX12_sumNow hw (v1 := I7 (64, 0, 0) (ix s.1)) o hx) mv_RX12_278 (hw.1 _ o) rfl rfl rfl rfl rfl dX12_listed_88 hf (fun r8 hf => ?_)
    refine zF_iast (hw.1 _ (zokM (r' := 65) o rfl rfl)) rfl c6 rfl dX12_listed_91 hf (fun I9 hf => ?_)
    refine zW_iinc 2 (lv' := [(4, vi (s.1 + 1)), (0, .ref (zad X (50, 0, 0))), (2, vi v2)]) dX12_listed_92 rfl rfl rfl ?_
    refine zW_goto 46 dX12_listed_95 rfl ?_
    refine zW_sub [1, 2, 0] rfl ?_
    exact hk _ (Option.some.inj hf).symm
theorem tX12_listed_l46 {X : zX} {e : Nat → Prop} (hw : zWf X e) {T : zT} {v1 : Int} {v2 : Int} (o : zOk e (50, 0, 0)) {s0 : (Int × zMem)} {α : Type} {F : (Int × zMem) → Option α} {u : α} (hf : zb (zlp (fX12_listed_l46 v1 v2) 5000 s0) F = some u) (kx : ∀ x, F x = some u → zW X T mX12_listed 98 [(0, .ref (zad X (50, 0, 0))), (2, vi v2)] [] x.2) : zW X T mX12_listed 46 [(0, .ref (zad X (50, 0, 0))), (2, vi v2), (4, vi s0.1)] [] s0.2 := by
  obtain ⟨x, h, hf⟩ := zb_inv hf
  exact zlp_W (P := fun s => zW X T mX12_listed 46 [(0, .ref (zad X (50, 0, 0))), (2, vi v2), (4, vi s.1)] [] s.2) (E := fun x => zW X T mX12_listed 98 [(0, .ref (zad X (50, 0, 0))), (2, vi v2)] [] x.2) (fun s u h hk hx => tX12_listed_l46_y hw o s h hk hx) _ s0 x h (kx x hf)
set_option maxRecDepth 100000 in
theorem tX12_listed_b115_171 {X : zX} {e : Nat → Prop} (hw : zWf X e) {T : zT} {v1 : Int} {v2 : Int} {I : zMem} {w4 : Int} {w6 : Int} {k0 : Int} {k1 : Int} (o : zOk e (50, 0, 0)) {u : ((Int × Int) ⊕ (Int × Int))} (hf : fX12_listed_b115_171 v1 v2 I w4 w6 k0 k1 = some u) (hk : ∀ s', u = .inl s' → zW X T mX12_listed 115 [(0, .ref (zad X (50, 0, 0))), (2, vi v2), (4, vi w4), (5, vi s'.1), (6, vi s'.2)] [] I) (hx : ∀ x, u = .inr x → zW X T mX12_listed 180 [(0, .ref (zad X (50, 0, 0))), (2, vi v2), (4, vi w4), (5, vi x.1)] [] I) : zW X T mX12_listed 171 [(0, .ref (zad X (50, 0, 0))), (2, vi v2), (4, vi w4), (6, vi w6)] [vi k0, vi k1] I := by
  unfold fX12_listed_b115_171 at hf
  refine zW_iadd dX12_listed_171 ?_
  refine zF_istore (lv' := fun a13 => [(5, vi a13), (0, .ref (zad X (50, 0, 0))), (2, vi v2), (4, vi w4), (6, vi w6)]) dX12_listed_172 hf (fun _ => rfl) rfl (fun a13 hf => ?_)
  refine zW_iinc 4 (lv' := [(6, vi (w6 + 1)), (5, vi a13), (0, .ref (zad X (50, 0, 0))), (2, vi v2), (4, vi w4)]) dX12_listed_174 rfl rfl rfl ?_
  refine zW_goto 115 dX12_listed_177 rfl ?_
  refine zW_sub [2, 3, 4, 1, 0] rfl ?_
  exact hk _ (Option.some.inj hf).symm
set_option maxRecDepth 100000 in
theorem tX12_listed_b115_166 {X : zX} {e : Nat → Prop} (hw : zWf X e) {T : zT} {v1 : Int} {v2 : Int} {I : zMem} {w4 : Int} {w6 : Int} {k0 : Int} (o : zOk e (50, 0, 0)) {u : ((Int × Int) ⊕ (Int × Int))} (hf : fX12_listed_b115_166 v1 v2 I w4 w6 k0 = some u) (hk : ∀ s', u = .inl s' → zW X T mX12_listed 115 [(0, .ref (zad X (50, 0, 0))), (2, vi v2), (4, vi w4), (5, vi s'.1), (6, vi s'.2)] [] I) (hx : ∀ x, u = .inr x → zW X T mX12_listed 180 [(0, .ref (zad X (50, 0, 0))), (2, vi v2), (4, vi w4), (5, vi x.1)] [] I) : zW X T mX12_listed 166 [(0, .ref (zad X (50, 0, 0))), (2, vi v2), (4, vi w4), (6, vi w6)] [vi k0] I := by
  unfold fX12_listed_b115_166 at hf
  refine zW_iconst dX12_listed_166 ?_
  refine zW_goto 171 dX12_listed_167 rfl ?_
  refine zW_sub [0, 1, 2, 3] rfl ?_
  exact tX12_listed_b115_171 hw o hf hk hx
set_option maxRecDepth 100000 in
theorem tX12_listed_b115_170 {X : zX} {e : Nat → Prop} (hw : zWf X e) {T : zT} {v1 : Int} {v2 : Int} {I : zMem} {w4 : Int} {w6 : Int} {k0 : Int} (o : zOk e (50, 0, 0)) {u : ((Int × Int) ⊕ (Int × Int))} (hf : fX12_listed_b115_170 v1 v2 I w4 w6 k0 = some u) (hk : ∀ s', u = .inl s' → zW X T mX12_listed 115 [(0, .ref (zad X (50, 0, 0))), (2, vi v2), (4, vi w4), (5, vi s'.1), (6, vi s'.2)] [] I) (hx : ∀ x, u = .inr x → zW X T mX12_listed 180 [(0, .ref (zad X (50, 0, 0))), (2, vi v2), (4, vi w4), (5, vi x.1)] [] I) : zW X T mX12_listed 170 [(0, .ref (zad X (50, 0, 0))), (2, vi v2), (4, vi w4), (6, vi w6)] [vi k0] I := by
  unfold fX12_listed_b115_170 at hf
  refine zW_iconst dX12_listed_170 ?_
  refine zW_sub [0, 1, 2, 3] rfl ?_
  exact tX12_listed_b115_171 hw o hf hk hx
set_option maxRecDepth 100000 in
theorem tX12_listed_l115_y {X : zX} {e : Nat → Prop} (hw : zWf X e) {T : zT} {v1 : Int} {v2 : Int} {I : zMem} {w4 : Int} (o : zOk e (50, 0, 0)) (s : (Int × Int)) {u : ((Int × Int) ⊕ (Int × Int))} (hf : fX12_listed_l115 v1 v2 I w4 s = some u) (hk : ∀ s', u = .inl s' → zW X T mX12_listed 115 [(0, .ref (zad X (50, 0, 0))), (2, vi v2), (4, vi w4), (5, vi s'.1), (6, vi s'.2)] [] I) (hx : ∀ x, u = .inr x → zW X T mX12_listed 180 [(0, .ref (zad X (50, 0, 0))), (2, vi v2), (4, vi w4), (5, vi x.1)] [] I) : zW X T mX12_listed 115 [(0, .ref (zad X (50, 0, 0))), (2, vi v2), (4, vi w4), (5, vi s.1), (6, vi s.2)] [] I := by
  unfold fX12_listed_l115 at hf
  refine zW_iload 4 dX12_listed_115 rfl ?_
  refine zW_sipush dX12_listed_117 rfl ?_
  refine zF_icmp_ge 180 dX12_listed_120 rfl rfl (w32_lit _ rfl) hf (fun c hf => ?_) (fun c hf => ?_)
  · refine zW_sub [0, 1, 2, 3] rfl ?_
    exact hx _ (Option.some.inj hf).symm
  · refine zW_iload 3 dX12_listed_123 rfl ?_
    refine zW_aload_n 0 dX12_listed_125 rfl ?_
    refine zW_getR (q' := (65, 0, 0)) lk_RX12_58 (hw.1 _ o) rfl rfl (hw.2.1 _ _ _ o rfl) dX12_listed_126 ?_
    refine zW_iload 4 dX12_listed_129 rfl ?_
    obtain ⟨c11, hf⟩ := zgd hf
    refine zF_iald (hw.1 _ (zokM (r' := 65) o rfl rfl)) rfl c11 rfl dX12_listed_131 ?_
    refine zW_aload_n 0 dX12_listed_132 rfl ?_
    refine zW_getR (q' := (65, 0, 0)) lk_RX12_58 (hw.1 _ o) rfl rfl (hw.2.1 _ _ _ o rfl) dX12_listed_133 ?_
    refine zW_iload 2 dX12_listed_136 rfl ?_
    obtain ⟨c12, hf⟩ := zgd hf
    refine zF_iald (hw.1 _ (zokM (r' := 65) o rfl rfl)) rfl c12 rfl dX12_listed_138 ?_
    refine zF_icmp_gt 166 dX12_listed_139 rfl rfl rfl hf (fun c hf => ?_) (fun c hf => ?_)
    · refine zW_sub [0, 1, 2, 4] rfl ?_
      exact tX12_listed_b115_166 hw o hf hk hx
    · refine zW_aload_n 0 dX12_listed_142 rfl ?_
      refine zW_getR (q' := (65, 0, 0)) lk_RX12_58 (hw.1 _ o) rfl rfl (hw.2.1 _ _ _ o rfl) dX12_listed_143 ?_
      refine zW_iload 4 dX12_listed_146 rfl ?_
      refine zF_iald (hw.1 _ (zokM (r' := 65) o rfl rfl)) rfl c11 rfl dX12_listed_148 ?_
      refine zW_aload_n 0 dX12_listed_149 rfl ?_
      refine zW_getR (q' := (65, 0, 0)) lk_RX12_58 (hw.1 _ o) rfl rfl (hw.2.1 _ _ _ o rfl) dX12_listed_150 ?_
      refine zW_iload 2 dX12_listed_153 rfl ?_
      refine zF_iald (hw.1 _ (zokM (r' := 65) o rfl rfl)) rfl c12 rfl dX12_listed_155 ?_
      refine zF_icmp_ne 170 dX12_listed_156 rfl rfl rfl hf (fun c hf => ?_) (fun c hf => ?_)
      · refine zW_iload 4 dX12_listed_159 rfl ?_
        refine zW_iload 2 dX12_listed_161 rfl ?_
        refine zF_icmp_ge 170 dX12_listed_163 rfl rfl rfl hf (fun c hf => ?_) (fun c hf => ?_)
        · refine zW_sub [0, 1, 2, 4] rfl ?_
          exact tX12_listed_b115_170 hw o hf hk hx
        · refine zW_sub [0, 1, 2, 4] rfl ?_
          exact tX12_listed_b115_166 hw o hf hk hx
      · refine zW_sub [0, 1, 2, 4] rfl ?_
        exact tX12_listed_b115_170 hw o hf hk hx
theorem tX12_listed_l115 {X : zX} {e : Nat → Prop} (hw : zWf X e) {T : zT} {v1 : Int} {v2 : Int} {I : zMem} {w4 : Int} (o : zOk e (50, 0, 0)) {s0 : (Int × Int)} {α : Type} {F : (Int × Int) → Option α} {u : α} (hf : zb (zlp (fX12_listed_l115 v1 v2 I w4) 5000 s0) F = some u) (kx : ∀ x, F x = some u → zW X T mX12_listed 180 [(0, .ref (zad X (50, 0, 0))), (2, vi v2), (4, vi w4), (5, vi x.1)] [] I) : zW X T mX12_listed 115 [(0, .ref (zad X (50, 0, 0))), (2, vi v2), (4, vi w4), (5, vi s0.1), (6, vi s0.2)] [] I := by
  obtain ⟨x, h, hf⟩ := zb_inv hf
  exact zlp_W (P := fun s => zW X T mX12_listed 115 [(0, .ref (zad X (50, 0, 0))), (2, vi v2), (4, vi w4), (5, vi s.1), (6, vi s.2)] [] I) (E := fun x => zW X T mX12_listed 180 [(0, .ref (zad X (50, 0, 0))), (2, vi v2), (4, vi w4), (5, vi x.1)] [] I) (fun s u h hk hx => tX12_listed_l115_y hw o s h hk hx) _ s0 x h (kx x hf)
set_option maxRecDepth 100000 in
theorem tX12_listed_l101_y {X : zX} {e : Nat → Prop} (hw : zWf X e) {T : zT} {v1 : Int} {v2 : Int} {I : zMem} (o : zOk e (50, 0, 0)) (s : Int) {u : (Int ⊕ (Int ⊕ (Int × zMem)))} (hf : fX12_listed_l101 v1 v2 I s = some u) (hk : ∀ s', u = .inl s' → zW X T mX12_listed 101 [(0, .ref (zad X (50, 0, 0))), (2, vi v2), (4, vi s')] [] I) (hx : ∀ x, u = .inr (.inl x) → zW X T mX12_listed 200 [] [] I) (hr : ∀ z : (Int × zMem), u = .inr (.inr z) → T = (some (vi z.1), z.2)) : zW X T mX12_listed 101 [(0, .ref (zad X (50, 0, 0))), (2, vi v2), (4, vi s)] [] I := by
  unfold fX12_listed_l101 at hf
  refine zW_iload 2 dX12_listed_101 rfl ?_
  refine zW_sipush dX12_listed_103 rfl ?_
  refine zF_icmp_ge 200 dX12_listed_106 rfl rfl (w32_lit _ rfl) hf (fun c hf => ?_) (fun c hf => ?_)
  · refine zW_sub [] rfl ?_
    exact hx _ (Option.some.inj hf).symm
  · refine zW_iconst dX12_listed_109 ?_
    refine zW_istore (lv' := [(5, vi 0), (0, .ref (zad X (50, 0, 0))), (2, vi v2), (4, vi s)]) dX12_listed_110 rfl rfl ?_
    refine zW_iconst dX12_listed_112 ?_
    refine zW_istore (lv' := [(6, vi 0), (5, vi 0), (0, .ref (zad X (50, 0, 0))), (2, vi v2), (4, vi s)]) dX12_listed_113 rfl rfl ?_
    refine zW_sub [2, 3, 4, 1, 0] rfl ?_
    refine tX12_listed_l115 hw o (s0 := (0, 0)) hf (fun x14 hf => ?_)
    refine zW_iload 3 dX12_listed_180 rfl ?_
    refine zW_iload_n 1 dX12_listed_182 rfl ?_
    refine zF_icmp_ne 194 dX12_listed_183 rfl rfl rfl hf (fun c hf => ?_) (fun c hf => ?_)
    · refine zW_aload_n 0 dX12_listed_186 rfl ?_
      refine zW_getR (q' := (64, 0, 0)) lk_RX12_55 (hw.1 _ o) rfl rfl (hw.2.1 _ _ _ o rfl) dX12_listed_187 ?_
      refine zW_iload 2 dX12_listed_190 rfl ?_
      obtain ⟨c15, hf⟩ := zgd hf
      refine zF_iald (hw.1 _ (zokM (r' := 64) o rfl rfl)) rfl c15 rfl dX12_listed_192 ?_
      exact zQ_i hw rfl dX12_listed_193 (hr _ (Option.some.inj hf).symm)
    · refine zW_iinc 2 (lv' := [(4, vi (s + 1)), (0, .ref (zad X (50, 0, 0))), (2, vi v2), (5, vi x14.1)]) dX12_listed_194 rfl rfl rfl ?_
      refine zW_goto 101 dX12_listed_197 rfl ?_
      refine zW_sub [1, 2, 0] rfl ?_
      exact hk _ (Option.some.inj hf).symm
theorem tX12_listed_l101 {X : zX} {e : Nat → Prop} (hw : zWf X e) {T : zT} {v1 : Int} {v2 : Int} {I : zMem} (o : zOk e (50, 0, 0)) {s0 : Int} {α : Type} {F : Int → Option α} {Gr : (Int × zMem) → α} {u : α} (hf : zbr (zlp (fX12_listed_l101 v1 v2 I) 5000 s0) F Gr = some u) (kx : ∀ x, F x = some u → zW X T mX12_listed 200 [] [] I) (kr : ∀ z, Gr z = u → T = (some (vi z.1), z.2)) : zW X T mX12_listed 101 [(0, .ref (zad X (50, 0, 0))), (2, vi v2), (4, vi s0)] [] I := by
  have hb := zlp_W (body := fX12_listed_l101 v1 v2 I) (P := fun s => zW X T mX12_listed 101 [(0, .ref (zad X (50, 0, 0))), (2, vi v2), (4, vi s)] [] I) (E := fun x => (∀ a, x = .inl a → zW X T mX12_listed 200 [] [] I) ∧ ∀ z, x = .inr z → T = (some (vi z.1), z.2)) (fun s u h hk hx => tX12_listed_l101_y hw o s h hk (fun x hu => (hx _ hu).1 x rfl) (fun z hu => (hx _ hu).2 z rfl))
  rcases zbr_inv hf with ⟨x, h, hf⟩ | ⟨z, h, hz⟩
  · exact hb _ s0 _ h ⟨fun a ea => (by cases ea; exact kx _ hf), fun z ez => (by cases ez)⟩
  · exact hb _ s0 _ h ⟨fun a ea => (by cases ea), fun z ez => (by cases ez; exact kr _ hz)⟩
set_option maxRecDepth 100000 in
theorem tX12_listed_0 {X : zX} {e : Nat → Prop} (hw : zWf X e) {v1 : Int} {v2 : Int} (o : zOk e (50, 0, 0)) {I : zMem} {u : (Int × zMem)} (hf : fX12_listed v1 v2 I = some u) : zW X (some (vi u.1), u.2) mX12_listed 0 [(0, .ref (zad X (50, 0, 0))), (1, vi v1), (2, vi v2)] [] I := by
  unfold fX12_listed at hf
  refine zW_aload_n 0 dX12_listed_0 rfl ?_
  refine zW_iconst dX12_listed_1 ?_
  refine zF_put lk_RX12_1 (hw.1 _ o) rfl rfl (zn_int _) dX12_listed_2 hf (fun I1 hf => ?_)
  refine zW_aload_n 0 dX12_listed_5 rfl ?_
  refine zW_iload_n 1 dX12_listed_6 rfl ?_
  refine zC_Vri (As := [vi v1]) (fun x hx => kX12_isProcess hw (v1 := v1) o hx) mv_RX12_222 (hw.1 _ o) rfl rfl rfl rfl rfl dX12_listed_7 hf (fun r2 hf => ?_)
  refine zF_if_ne 16 dX12_listed_10 rfl rfl hf (fun c hf => ?_) (fun c hf => ?_)
  · refine zW_bipush dX12_listed_13 rfl ?_
    exact zR_i hw rfl dX12_listed_15 hf
  · refine zW_iload_n 2 dX12_listed_16 rfl ?_
    refine zW_i2l dX12_listed_17 ?_
    refine zW_lconst0 dX12_listed_18 ?_
    refine zW_ldc2 dX12_listed_19 wc_RX12_301 ?_
    refine zC_Sri (As := [vl (w32 v2), vl 0, vl 255]) (fun x hx => kX12_within hw (v0 := w32 v2) (v2 := 0) (v4 := 255)  hx) ms_RX12_94 rfl rfl rfl rfl dX12_listed_22 hf (fun r3 hf => ?_)
    refine zF_if_ne 31 dX12_listed_25 rfl rfl hf (fun c hf => ?_) (fun c hf => ?_)
    · refine zW_bipush dX12_listed_28 rfl ?_
      exact zR_i hw rfl dX12_listed_30 hf
    · refine zW_aload_n 0 dX12_listed_31 rfl ?_
      refine zW_iload_n 1 dX12_listed_32 rfl ?_
      refine zC_Vwi (As := [vi v1]) (fun x hx => kX12_noSoft hw (v1 := v1) o hx) mv_RX12_281 (hw.1 _ o) rfl rfl rfl rfl rfl dX12_listed_33 hf (fun r4 hf => ?_)
      refine zW_istore_n (lv' := [(3, vi r4.1), (0, .ref (zad X (50, 0, 0))), (1, vi v1), (2, vi v2)]) dX12_listed_36 rfl rfl ?_
      refine zW_iload_n 0 dX12_listed_37 rfl ?_
      refine zF_if_eq 43 dX12_listed_38 rfl rfl hf (fun c hf => ?_) (fun c hf => ?_)
      · refine zW_iconst dX12_listed_43 ?_
        refine zW_istore (lv' := [(4, vi 0), (3, vi r4.1), (0, .ref (zad X (50, 0, 0))), (1, vi v1), (2, vi v2)]) dX12_listed_44 rfl rfl ?_
        refine zW_sub [2, 4, 0] rfl ?_
        refine tX12_listed_l46 hw o (s0 := (0, r4.2)) hf (fun x10 hf => ?_)
        refine zW_iconst dX12_listed_98 ?_
        refine zW_istore (lv' := [(4, vi 0), (0, .ref (zad X (50, 0, 0))), (2, vi v2)]) dX12_listed_99 rfl rfl ?_
        refine zW_sub [1, 2, 0] rfl ?_
        refine tX12_listed_l101 hw o (s0 := 0) hf (fun x16 hf => ?_) (fun z hz => by cases hz; rfl)
        refine zW_iconst dX12_listed_200 ?_
        exact zR_i hw rfl dX12_listed_201 hf
      · refine zW_iload_n 0 dX12_listed_41 rfl ?_
        exact zR_i hw rfl dX12_listed_42 hf
theorem kX12_listed {X : zX} {e : Nat → Prop} (hw : zWf X e) {v1 : Int} {v2 : Int} (o : zOk e (50, 0, 0)) {I : zMem} {u : (Int × zMem)} (hf : fX12_listed v1 v2 I = some u) : zCn X mX12_listed yX12_listed [.ref (zad X (50, 0, 0)), vi v1, vi v2] I (some (vi u.1), u.2) := zCn_of (by decide +kernel) rfl rfl ⟨rfl, rfl⟩ (tX12_listed_0 hw.N o hf)
set_option maxRecDepth 100000 in
theorem tX12_known_b44_72 {X : zX} {e : Nat → Prop} (hw : zWf X e) {T : zT} {v1 : Int} {v2 : Int} {w4 : Int} {w5 : Int} {k0 : Int} {k1 : Int} {I : zMem} (o : zOk e (50, 0, 0)) (ko2 : zOk e (57, 0, 0)) {u : ((Int × Int × zMem) ⊕ (Int × Int × zMem))} (hf : fX12_known_b44_72 v1 v2 w4 w5 k0 k1 I = some u) (hk : ∀ s', u = .inl s' → zW X T mX12_known 44 [(0, .ref (zad X (50, 0, 0))), (2, vi v2), (4, vi s'.1), (5, vi s'.2.1)] [] s'.2.2) (hx : ∀ x, u = .inr x → zW X T mX12_known 91 [(0, .ref (zad X (50, 0, 0))), (2, vi v2), (4, vi x.1)] [] x.2.2) : zW X T mX12_known 72 [(0, .ref (zad X (50, 0, 0))), (2, vi v2), (4, vi w4), (5, vi w5)] [vi k0, vi k1, .ref (zad X (57, 0, 0))] I := by
  unfold fX12_known_b44_72 at hf
  obtain ⟨c6, hf⟩ := zgd hf
  refine zF_iast (hw.1 _ ko2) rfl c6 rfl dX12_known_72 hf (fun I7 hf => ?_)
  refine zW_iload 2 dX12_known_73 rfl ?_
  refine zW_aload_n 0 dX12_known_75 rfl ?_
  refine zW_getR (q' := (57, 0, 0)) lk_RX12_34 (hw.1 _ o) rfl rfl (hw.2.1 _ _ _ o rfl) dX12_known_76 ?_
  refine zW_iload 3 dX12_known_79 rfl ?_
  obtain ⟨c8, hf⟩ := zgd hf
  refine zF_iald (hw.1 _ (zokM (r' := 57) o rfl rfl)) rfl c8 rfl dX12_known_81 ?_
  refine zW_iadd dX12_known_82 ?_
  refine zF_istore (lv' := fun a9 => [(4, vi a9), (0, .ref (zad X (50, 0, 0))), (2, vi v2), (5, vi w5)]) dX12_known_83 hf (fun _ => rfl) rfl (fun a9 hf => ?_)
  refine zW_iinc 3 (lv' := [(5, vi (w5 + 1)), (4, vi a9), (0, .ref (zad X (50, 0, 0))), (2, vi v2)]) dX12_known_85 rfl rfl rfl ?_
  refine zW_goto 44 dX12_known_88 rfl ?_
  refine zW_sub [2, 3, 1, 0] rfl ?_
  exact hk _ (Option.some.inj hf).symm
set_option maxRecDepth 100000 in
theorem tX12_known_l44_y {X : zX} {e : Nat → Prop} (hw : zWf X e) {T : zT} {v1 : Int} {v2 : Int} (o : zOk e (50, 0, 0)) (s : (Int × Int × zMem)) {u : ((Int × Int × zMem) ⊕ (Int × Int × zMem))} (hf : fX12_known_l44 v1 v2 s = some u) (hk : ∀ s', u = .inl s' → zW X T mX12_known 44 [(0, .ref (zad X (50, 0, 0))), (2, vi v2), (4, vi s'.1), (5, vi s'.2.1)] [] s'.2.2) (hx : ∀ x, u = .inr x → zW X T mX12_known 91 [(0, .ref (zad X (50, 0, 0))), (2, vi v2), (4, vi x.1)] [] x.2.2) : zW X T mX12_known 44 [(0, .ref (zad X (50, 0, 0))), (2, vi v2), (4, vi s.1), (5, vi s.2.1)] [] s.2.2 := by
  unfold fX12_known_l44 at hf
  refine zW_iload 3 dX12_known_44 rfl ?_
  refine zW_bipush dX12_known_46 rfl ?_
  refine zF_icmp_ge 91 dX12_known_48 rfl rfl (w32_lit _ rfl) hf (fun c hf => ?_) (fun c hf => ?_)
  · refine zW_sub [0, 1, 2] rfl ?_
    exact hx _ (Option.some.inj hf).symm
  · refine zW_aload_n 0 dX12_known_51 rfl ?_
    refine zW_getR (q' := (57, 0, 0)) lk_RX12_34 (hw.1 _ o) rfl rfl (hw.2.1 _ _ _ o rfl) dX12_known_52 ?_
    refine zW_iload 3 dX12_known_55 rfl ?_
    refine zW_aload_n 0 dX12_known_57 rfl ?_
    refine zW_getR (q' := (58, 0, 0)) lk_RX12_37 (hw.1 _ o) rfl rfl (hw.2.1 _ _ _ o rfl) dX12_known_58 ?_
    refine zW_iload 3 dX12_known_61 rfl ?_
    obtain ⟨c5, hf⟩ := zgd hf
    refine zF_iald (hw.1 _ (zokM (r' := 58) o rfl rfl)) rfl c5 rfl dX12_known_63 ?_
    refine zF_if_ne 71 dX12_known_64 rfl rfl hf (fun c hf => ?_) (fun c hf => ?_)
    · refine zW_iconst dX12_known_67 ?_
      refine zW_goto 72 dX12_known_68 rfl ?_
      refine zW_sub [0, 1, 2, 3] rfl ?_
      exact tX12_known_b44_72 hw o (zokM (r' := 57) o rfl rfl) hf hk hx
    · refine zW_iconst dX12_known_71 ?_
      refine zW_sub [0, 1, 2, 3] rfl ?_
      exact tX12_known_b44_72 hw o (zokM (r' := 57) o rfl rfl) hf hk hx
theorem tX12_known_l44 {X : zX} {e : Nat → Prop} (hw : zWf X e) {T : zT} {v1 : Int} {v2 : Int} (o : zOk e (50, 0, 0)) {s0 : (Int × Int × zMem)} {α : Type} {F : (Int × Int × zMem) → Option α} {u : α} (hf : zb (zlp (fX12_known_l44 v1 v2) 5000 s0) F = some u) (kx : ∀ x, F x = some u → zW X T mX12_known 91 [(0, .ref (zad X (50, 0, 0))), (2, vi v2), (4, vi x.1)] [] x.2.2) : zW X T mX12_known 44 [(0, .ref (zad X (50, 0, 0))), (2, vi v2), (4, vi s0.1), (5, vi s0.2.1)] [] s0.2.2 := by
  obtain ⟨x, h, hf⟩ := zb_inv hf
  exact zlp_W (P := fun s => zW X T mX12_known 44 [(0, .ref (zad X (50, 0, 0))), (2, vi v2), (4, vi s.1), (5, vi s.2.1)] [] s.2.2) (E := fun x => zW X T mX12_known 91 [(0, .ref (zad X (50, 0, 0))), (2, vi v2), (4, vi x.1)] [] x.2.2) (fun s u h hk hx => tX12_known_l44_y hw o s h hk hx) _ s0 x h (kx x hf)
set_option maxRecDepth 100000 in
theorem tX12_known_0 {X : zX} {e : Nat → Prop} (hw : zWf X e) {v1 : Int} {v2 : Int} (o : zOk e (50, 0, 0)) {I : zMem} {u : (Int × zMem)} (hf : fX12_known v1 v2 I = some u) : zW X (some (vi u.1), u.2) mX12_known 0 [(0, .ref (zad X (50, 0, 0))), (1, vi v1), (2, vi v2)] [] I := by
  unfold fX12_known at hf
  refine zW_aload_n 0 dX12_known_0 rfl ?_
  refine zW_iconst dX12_known_1 ?_
  refine zF_put lk_RX12_1 (hw.1 _ o) rfl rfl (zn_int _) dX12_known_2 hf (fun I1 hf => ?_)
  refine zW_aload_n 0 dX12_known_5 rfl ?_
  refine zW_iload_n 1 dX12_known_6 rfl ?_
  refine zC_Vri (As := [vi v1]) (fun x hx => kX12_isProcess hw (v1 := v1) o hx) mv_RX12_222 (hw.1 _ o) rfl rfl rfl rfl rfl dX12_known_7 hf (fun r2 hf => ?_)
  refine zF_if_eq 23 dX12_known_10 rfl rfl hf (fun c hf => ?_) (fun c hf => ?_)
  · refine zW_bipush dX12_known_23 rfl ?_
    exact zR_i hw rfl dX12_known_25 hf
  · refine zW_iload_n 2 dX12_known_13 rfl ?_
    refine zW_i2l dX12_known_14 ?_
    refine zW_lconst0 dX12_known_15 ?_
    refine zW_lconst1 dX12_known_16 ?_
    refine zC_Sri (As := [vl (w32 v2), vl 0, vl 1]) (fun x hx => kX12_within hw (v0 := w32 v2) (v2 := 0) (v4 := 1)  hx) ms_RX12_94 rfl rfl rfl rfl dX12_known_17 hf (fun r3 hf => ?_)
    refine zF_if_ne 26 dX12_known_20 rfl rfl hf (fun c hf => ?_) (fun c hf => ?_)
    · refine zW_bipush dX12_known_23 rfl ?_
      exact zR_i hw rfl dX12_known_25 hf
    · refine zW_aload_n 0 dX12_known_26 rfl ?_
      refine zW_iload_n 1 dX12_known_27 rfl ?_
      refine zC_Vwi (As := [vi v1]) (fun x hx => kX12_noSoft hw (v1 := v1) o hx) mv_RX12_281 (hw.1 _ o) rfl rfl rfl rfl rfl dX12_known_28 hf (fun r4 hf => ?_)
      refine zW_istore_n (lv' := [(3, vi r4.1), (0, .ref (zad X (50, 0, 0))), (1, vi v1), (2, vi v2)]) dX12_known_31 rfl rfl ?_
      refine zW_iload_n 0 dX12_known_32 rfl ?_
      refine zF_if_eq 38 dX12_known_33 rfl rfl hf (fun c hf => ?_) (fun c hf => ?_)
      · refine zW_iconst dX12_known_38 ?_
        refine zW_istore (lv' := [(4, vi 0), (3, vi r4.1), (0, .ref (zad X (50, 0, 0))), (1, vi v1), (2, vi v2)]) dX12_known_39 rfl rfl ?_
        refine zW_iconst dX12_known_41 ?_
        refine zW_istore (lv' := [(5, vi 0), (4, vi 0), (3, vi r4.1), (0, .ref (zad X (50, 0, 0))), (1, vi v1), (2, vi v2)]) dX12_known_42 rfl rfl ?_
        refine zW_sub [3, 5, 1, 0] rfl ?_
        refine tX12_known_l44 hw o (s0 := (0, 0, r4.2)) hf (fun x10 hf => ?_)
        refine zW_iload_n 1 dX12_known_91 rfl ?_
        refine zF_if_ne 100 dX12_known_92 rfl rfl hf (fun c hf => ?_) (fun c hf => ?_)
        · refine zW_iload 2 dX12_known_95 rfl ?_
          refine zW_goto 105 dX12_known_97 rfl ?_
          exact zR_i hw rfl dX12_known_105 hf
        · refine zW_aload_n 0 dX12_known_100 rfl ?_
          refine zW_iconst dX12_known_101 ?_
          refine zC_Vri (As := [vi 1]) (fun x hx => kX12_leastApart hw (v1 := 1) o hx) mv_RX12_143 (hw.1 _ o) rfl rfl rfl rfl rfl dX12_known_102 hf (fun r11 hf => ?_)
          exact zR_i hw rfl dX12_known_105 hf
      · refine zW_iload_n 0 dX12_known_36 rfl ?_
        exact zR_i hw rfl dX12_known_37 hf
theorem kX12_known {X : zX} {e : Nat → Prop} (hw : zWf X e) {v1 : Int} {v2 : Int} (o : zOk e (50, 0, 0)) {I : zMem} {u : (Int × zMem)} (hf : fX12_known v1 v2 I = some u) : zCn X mX12_known yX12_known [.ref (zad X (50, 0, 0)), vi v1, vi v2] I (some (vi u.1), u.2) := zCn_of (by decide +kernel) rfl rfl ⟨rfl, rfl⟩ (tX12_known_0 hw.N o hf)
set_option maxRecDepth 100000 in
theorem tX12_stored_0 {X : zX} {e : Nat → Prop} (hw : zWf X e) {v1 : Int} (o : zOk e (50, 0, 0)) {I : zMem} {u : (Int × zMem)} (hf : fX12_stored v1 I = some u) : zW X (some (vi u.1), u.2) mX12_stored 0 [(0, .ref (zad X (50, 0, 0))), (1, vi v1)] [] I := by
  unfold fX12_stored at hf
  refine zW_aload_n 0 dX12_stored_0 rfl ?_
  refine zW_iconst dX12_stored_1 ?_
  refine zF_put lk_RX12_1 (hw.1 _ o) rfl rfl (zn_int _) dX12_stored_2 hf (fun I1 hf => ?_)
  refine zW_iload_n 1 dX12_stored_5 rfl ?_
  refine zW_i2l dX12_stored_6 ?_
  refine zW_lconst0 dX12_stored_7 ?_
  refine zW_ldc2 dX12_stored_8 wc_RX12_123 ?_
  refine zC_Sri (As := [vl (w32 v1), vl 0, vl 7]) (fun x hx => kX12_within hw (v0 := w32 v1) (v2 := 0) (v4 := 7)  hx) ms_RX12_94 rfl rfl rfl rfl dX12_stored_11 hf (fun r2 hf => ?_)
  refine zF_if_ne 20 dX12_stored_14 rfl rfl hf (fun c hf => ?_) (fun c hf => ?_)
  · refine zW_bipush dX12_stored_17 rfl ?_
    exact zR_i hw rfl dX12_stored_19 hf
  · refine zW_aload_n 0 dX12_stored_20 rfl ?_
    refine zW_getR (q' := (51, 0, 0)) lk_RX12_13 (hw.1 _ o) rfl rfl (hw.2.1 _ _ _ o rfl) dX12_stored_21 ?_
    refine zW_bipush dX12_stored_24 rfl ?_
    refine zW_iload_n 1 dX12_stored_26 rfl ?_
    refine zW_iadd dX12_stored_27 ?_
    obtain ⟨c3, hf⟩ := zgd hf
    refine zF_iald (hw.1 _ (zokM (r' := 51) o rfl rfl)) rfl c3 rfl dX12_stored_28 ?_
    refine zW_iconst dX12_stored_29 ?_
    refine zF_icmp_ne 38 dX12_stored_30 rfl rfl (w32_lit _ rfl) hf (fun c hf => ?_) (fun c hf => ?_)
    · refine zW_bipush dX12_stored_33 rfl ?_
      refine zW_goto 47 dX12_stored_35 rfl ?_
      exact zR_i hw rfl dX12_stored_47 hf
    · refine zW_aload_n 0 dX12_stored_38 rfl ?_
      refine zW_getR (q' := (51, 0, 0)) lk_RX12_13 (hw.1 _ o) rfl rfl (hw.2.1 _ _ _ o rfl) dX12_stored_39 ?_
      refine zW_bipush dX12_stored_42 rfl ?_
      refine zW_iload_n 1 dX12_stored_44 rfl ?_
      refine zW_iadd dX12_stored_45 ?_
      refine zF_iald (hw.1 _ (zokM (r' := 51) o rfl rfl)) rfl c3 rfl dX12_stored_46 ?_
      exact zR_i hw rfl dX12_stored_47 hf
theorem kX12_stored {X : zX} {e : Nat → Prop} (hw : zWf X e) {v1 : Int} (o : zOk e (50, 0, 0)) {I : zMem} {u : (Int × zMem)} (hf : fX12_stored v1 I = some u) : zCn X mX12_stored yX12_stored [.ref (zad X (50, 0, 0)), vi v1] I (some (vi u.1), u.2) := zCn_of (by decide +kernel) rfl rfl ⟨rfl, rfl⟩ (tX12_stored_0 hw.N o hf)
set_option maxRecDepth 100000 in
theorem tX12_given_b56 {X : zX} {e : Nat → Prop} (hw : zWf X e) {v1 : Int} {I : zMem} (o : zOk e (50, 0, 0)) {u : (Int × zMem)} (hf : fX12_given_b56 v1 I = some u) : zW X (some (vi u.1), u.2) mX12_given 56 [] [] I := by
  unfold fX12_given_b56 at hf
  refine zW_iconst dX12_given_56 ?_
  exact zR_i hw rfl dX12_given_57 hf
set_option maxRecDepth 100000 in
theorem tX12_given_0 {X : zX} {e : Nat → Prop} (hw : zWf X e) {v1 : Int} (o : zOk e (50, 0, 0)) {I : zMem} {u : (Int × zMem)} (hf : fX12_given v1 I = some u) : zW X (some (vi u.1), u.2) mX12_given 0 [(0, .ref (zad X (50, 0, 0))), (1, vi v1)] [] I := by
  unfold fX12_given at hf
  refine zW_aload_n 0 dX12_given_0 rfl ?_
  refine zW_iconst dX12_given_1 ?_
  refine zF_put lk_RX12_1 (hw.1 _ o) rfl rfl (zn_int _) dX12_given_2 hf (fun I1 hf => ?_)
  refine zW_iload_n 1 dX12_given_5 rfl ?_
  refine zF_if_ge 12 dX12_given_6 rfl rfl hf (fun c hf => ?_) (fun c hf => ?_)
  · refine zW_iload_n 1 dX12_given_12 rfl ?_
    refine zW_aload_n 0 dX12_given_13 rfl ?_
    refine zW_getR (q' := (51, 0, 0)) lk_RX12_13 (hw.1 _ o) rfl rfl (hw.2.1 _ _ _ o rfl) dX12_given_14 ?_
    refine zW_bipush dX12_given_17 rfl ?_
    refine zF_iald (hw.1 _ (zokM (r' := 51) o rfl rfl)) rfl (zin_lit _ _ rfl) (ix_lit _ rfl) dX12_given_19 ?_
    refine zF_icmp_ge 56 dX12_given_20 rfl rfl rfl hf (fun c hf => ?_) (fun c hf => ?_)
    · refine zW_sub [] rfl ?_
      exact tX12_given_b56 hw o hf
    · refine zW_iload_n 1 dX12_given_23 rfl ?_
      refine zW_sipush dX12_given_24 rfl ?_
      refine zF_icmp_ge 56 dX12_given_27 rfl rfl (w32_lit _ rfl) hf (fun c hf => ?_) (fun c hf => ?_)
      · refine zW_sub [] rfl ?_
        exact tX12_given_b56 hw o hf
      · refine zW_aload_n 0 dX12_given_30 rfl ?_
        refine zW_getR (q' := (51, 0, 0)) lk_RX12_13 (hw.1 _ o) rfl rfl (hw.2.1 _ _ _ o rfl) dX12_given_31 ?_
        refine zW_bipush dX12_given_34 rfl ?_
        refine zW_aload_n 0 dX12_given_36 rfl ?_
        refine zW_getR (q' := (51, 0, 0)) lk_RX12_13 (hw.1 _ o) rfl rfl (hw.2.1 _ _ _ o rfl) dX12_given_37 ?_
        refine zW_bipush dX12_given_40 rfl ?_
        refine zF_iald (hw.1 _ (zokM (r' := 51) o rfl rfl)) rfl (zin_lit _ _ rfl) (ix_lit _ rfl) dX12_given_42 ?_
        refine zW_iconst dX12_given_43 ?_
        refine zW_isub dX12_given_44 ?_
        refine zW_iload_n 1 dX12_given_45 rfl ?_
        refine zW_isub dX12_given_46 ?_
        refine zW_sipush dX12_given_47 rfl ?_
        refine zW_irem dX12_given_50 (w32_ne0 _ rfl) ?_
        refine zW_iadd dX12_given_51 ?_
        obtain ⟨c2, hf⟩ := zgd hf
        refine zF_iald (hw.1 _ (zokM (r' := 51) o rfl rfl)) rfl c2 rfl dX12_given_52 ?_
        refine zW_goto 57 dX12_given_53 rfl ?_
        exact zR_i hw rfl dX12_given_57 hf
  · refine zW_bipush dX12_given_9 rfl ?_
    exact zR_i hw rfl dX12_given_11 hf
theorem kX12_given {X : zX} {e : Nat → Prop} (hw : zWf X e) {v1 : Int} (o : zOk e (50, 0, 0)) {I : zMem} {u : (Int × zMem)} (hf : fX12_given v1 I = some u) : zCn X mX12_given yX12_given [.ref (zad X (50, 0, 0)), vi v1] I (some (vi u.1), u.2) := zCn_of (by decide +kernel) rfl rfl ⟨rfl, rfl⟩ (tX12_given_0 hw.N o hf)
set_option maxRecDepth 100000 in
theorem tX12_would_b50 {X : zX} {e : Nat → Prop} (hw : zWf X e) {v1 : Int} {v2 : Int} {w3 : Int} {I : zMem} (o : zOk e (50, 0, 0)) {u : (Int × zMem)} (hf : fX12_would_b50 v1 v2 w3 I = some u) : zW X (some (vi u.1), u.2) mX12_would 50 [(0, .ref (zad X (50, 0, 0))), (1, vi v1), (2, vi v2), (3, vi w3)] [] I := by
  unfold fX12_would_b50 at hf
  refine zW_iload_n 2 dX12_would_50 rfl ?_
  refine zW_iconst dX12_would_51 ?_
  refine zF_icmp_ne 59 dX12_would_52 rfl rfl (w32_lit _ rfl) hf (fun c hf => ?_) (fun c hf => ?_)
  · refine zW_iconst dX12_would_55 ?_
    refine zW_goto 99 dX12_would_56 rfl ?_
    exact zR_i hw rfl dX12_would_99 hf
  · refine zW_iload_n 3 dX12_would_59 rfl ?_
    refine zW_aload_n 0 dX12_would_60 rfl ?_
    refine zW_getR (q' := (51, 0, 0)) lk_RX12_13 (hw.1 _ o) rfl rfl (hw.2.1 _ _ _ o rfl) dX12_would_61 ?_
    refine zW_iconst dX12_would_64 ?_
    refine zF_iald (hw.1 _ (zokM (r' := 51) o rfl rfl)) rfl (zin_lit _ _ rfl) (ix_lit _ rfl) dX12_would_65 ?_
    refine zF_icmp_lt 73 dX12_would_66 rfl rfl rfl hf (fun c hf => ?_) (fun c hf => ?_)
    · refine zW_aload_n 0 dX12_would_73 rfl ?_
      refine zW_getR (q' := (51, 0, 0)) lk_RX12_13 (hw.1 _ o) rfl rfl (hw.2.1 _ _ _ o rfl) dX12_would_74 ?_
      refine zW_bipush dX12_would_77 rfl ?_
      refine zW_iload_n 1 dX12_would_79 rfl ?_
      refine zW_iadd dX12_would_80 ?_
      obtain ⟨c5, hf⟩ := zgd hf
      refine zF_iald (hw.1 _ (zokM (r' := 51) o rfl rfl)) rfl c5 rfl dX12_would_81 ?_
      refine zW_iconst dX12_would_82 ?_
      refine zF_icmp_eq 90 dX12_would_83 rfl rfl (w32_lit _ rfl) hf (fun c hf => ?_) (fun c hf => ?_)
      · refine zW_iload_n 3 dX12_would_90 rfl ?_
        refine zF_if_le 98 dX12_would_91 rfl rfl hf (fun c hf => ?_) (fun c hf => ?_)
        · refine zW_iconst dX12_would_98 ?_
          exact zR_i hw rfl dX12_would_99 hf
        · refine zW_iconst dX12_would_94 ?_
          refine zW_goto 99 dX12_would_95 rfl ?_
          exact zR_i hw rfl dX12_would_99 hf
      · refine zW_iconst dX12_would_86 ?_
        refine zW_goto 99 dX12_would_87 rfl ?_
        exact zR_i hw rfl dX12_would_99 hf
    · refine zW_iconst dX12_would_69 ?_
      refine zW_goto 99 dX12_would_70 rfl ?_
      exact zR_i hw rfl dX12_would_99 hf
set_option maxRecDepth 100000 in
theorem tX12_would_l103_y {X : zX} {e : Nat → Prop} (hw : zWf X e) {T : zT} {v1 : Int} {v2 : Int} {I : zMem} (o : zOk e (50, 0, 0)) (s : Int) {u : (Int ⊕ Int)} (hf : fX12_would_l103 v1 v2 I s = some u) (hk : ∀ s', u = .inl s' → zW X T mX12_would 103 [(0, .ref (zad X (50, 0, 0))), (1, vi v1), (4, vi s')] [] I) (hx : ∀ x, u = .inr x → zW X T mX12_would 135 [(4, vi x)] [] I) : zW X T mX12_would 103 [(0, .ref (zad X (50, 0, 0))), (1, vi v1), (4, vi s)] [] I := by
  unfold fX12_would_l103 at hf
  refine zW_iload 2 dX12_would_103 rfl ?_
  refine zW_bipush dX12_would_105 rfl ?_
  refine zF_icmp_ge 135 dX12_would_107 rfl rfl (w32_lit _ rfl) hf (fun c hf => ?_) (fun c hf => ?_)
  · refine zW_sub [2] rfl ?_
    exact hx _ (Option.some.inj hf).symm
  · refine zW_aload_n 0 dX12_would_110 rfl ?_
    refine zW_getR (q' := (51, 0, 0)) lk_RX12_13 (hw.1 _ o) rfl rfl (hw.2.1 _ _ _ o rfl) dX12_would_111 ?_
    refine zW_bipush dX12_would_114 rfl ?_
    refine zW_iload_n 1 dX12_would_116 rfl ?_
    refine zW_iload 2 dX12_would_117 rfl ?_
    refine zW_iadd dX12_would_119 ?_
    refine zW_bipush dX12_would_120 rfl ?_
    refine zW_iand_7 dX12_would_122 ?_
    refine zW_iadd dX12_would_123 ?_
    obtain ⟨c6, hf⟩ := zgd hf
    refine zF_iald (hw.1 _ (zokM (r' := 51) o rfl rfl)) rfl c6 rfl dX12_would_124 ?_
    refine zW_iconst dX12_would_125 ?_
    refine zF_icmp_eq 135 dX12_would_126 rfl rfl (w32_lit _ rfl) hf (fun c hf => ?_) (fun c hf => ?_)
    · refine zW_sub [2] rfl ?_
      exact hx _ (Option.some.inj hf).symm
    · refine zW_iinc 2 (lv' := [(4, vi (s + 1)), (0, .ref (zad X (50, 0, 0))), (1, vi v1)]) dX12_would_129 rfl rfl rfl ?_
      refine zW_goto 103 dX12_would_132 rfl ?_
      refine zW_sub [1, 2, 0] rfl ?_
      exact hk _ (Option.some.inj hf).symm
theorem tX12_would_l103 {X : zX} {e : Nat → Prop} (hw : zWf X e) {T : zT} {v1 : Int} {v2 : Int} {I : zMem} (o : zOk e (50, 0, 0)) {s0 : Int} {α : Type} {F : Int → Option α} {u : α} (hf : zb (zlp (fX12_would_l103 v1 v2 I) 5000 s0) F = some u) (kx : ∀ x, F x = some u → zW X T mX12_would 135 [(4, vi x)] [] I) : zW X T mX12_would 103 [(0, .ref (zad X (50, 0, 0))), (1, vi v1), (4, vi s0)] [] I := by
  obtain ⟨x, h, hf⟩ := zb_inv hf
  exact zlp_W (P := fun s => zW X T mX12_would 103 [(0, .ref (zad X (50, 0, 0))), (1, vi v1), (4, vi s)] [] I) (E := fun x => zW X T mX12_would 135 [(4, vi x)] [] I) (fun s u h hk hx => tX12_would_l103_y hw o s h hk hx) _ s0 x h (kx x hf)
set_option maxRecDepth 100000 in
theorem tX12_would_0 {X : zX} {e : Nat → Prop} (hw : zWf X e) {v1 : Int} {v2 : Int} (o : zOk e (50, 0, 0)) {I : zMem} {u : (Int × zMem)} (hf : fX12_would v1 v2 I = some u) : zW X (some (vi u.1), u.2) mX12_would 0 [(0, .ref (zad X (50, 0, 0))), (1, vi v1), (2, vi v2)] [] I := by
  unfold fX12_would at hf
  refine zW_aload_n 0 dX12_would_0 rfl ?_
  refine zW_iconst dX12_would_1 ?_
  refine zF_put lk_RX12_1 (hw.1 _ o) rfl rfl (zn_int _) dX12_would_2 hf (fun I1 hf => ?_)
  refine zW_iload_n 1 dX12_would_5 rfl ?_
  refine zW_i2l dX12_would_6 ?_
  refine zW_lconst0 dX12_would_7 ?_
  refine zW_ldc2 dX12_would_8 wc_RX12_123 ?_
  refine zC_Sri (As := [vl (w32 v1), vl 0, vl 7]) (fun x hx => kX12_within hw (v0 := w32 v1) (v2 := 0) (v4 := 7)  hx) ms_RX12_94 rfl rfl rfl rfl dX12_would_11 hf (fun r2 hf => ?_)
  refine zF_if_eq 27 dX12_would_14 rfl rfl hf (fun c hf => ?_) (fun c hf => ?_)
  · refine zW_bipush dX12_would_27 rfl ?_
    exact zR_i hw rfl dX12_would_29 hf
  · refine zW_iload_n 2 dX12_would_17 rfl ?_
    refine zW_i2l dX12_would_18 ?_
    refine zW_lconst0 dX12_would_19 ?_
    refine zW_lconst1 dX12_would_20 ?_
    refine zC_Sri (As := [vl (w32 v2), vl 0, vl 1]) (fun x hx => kX12_within hw (v0 := w32 v2) (v2 := 0) (v4 := 1)  hx) ms_RX12_94 rfl rfl rfl rfl dX12_would_21 hf (fun r3 hf => ?_)
    refine zF_if_ne 30 dX12_would_24 rfl rfl hf (fun c hf => ?_) (fun c hf => ?_)
    · refine zW_bipush dX12_would_27 rfl ?_
      exact zR_i hw rfl dX12_would_29 hf
    · refine zW_aload_n 0 dX12_would_30 rfl ?_
      refine zW_getR (q' := (51, 0, 0)) lk_RX12_13 (hw.1 _ o) rfl rfl (hw.2.1 _ _ _ o rfl) dX12_would_31 ?_
      refine zW_bipush dX12_would_34 rfl ?_
      refine zF_iald (hw.1 _ (zokM (r' := 51) o rfl rfl)) rfl (zin_lit _ _ rfl) (ix_lit _ rfl) dX12_would_36 ?_
      refine zW_iload_n 1 dX12_would_37 rfl ?_
      refine zC_Sri (As := [vi (I1 (51, 0, 0) 55), vi v1]) (fun x hx => kX12_past hw (v0 := I1 (51, 0, 0) 55) (v1 := v1)  hx) ms_RX12_182 rfl rfl rfl rfl dX12_would_38 hf (fun r4 hf => ?_)
      refine zW_istore_n (lv' := [(3, vi r4), (0, .ref (zad X (50, 0, 0))), (1, vi v1), (2, vi v2)]) dX12_would_41 rfl rfl ?_
      refine zW_iload_n 0 dX12_would_42 rfl ?_
      refine zF_if_gt 50 dX12_would_43 rfl rfl hf (fun c hf => ?_) (fun c hf => ?_)
      · refine zW_sub [1, 2, 3, 0] rfl ?_
        exact tX12_would_b50 hw o hf
      · refine zW_iload_n 3 dX12_would_46 rfl ?_
        refine zF_if_ne 100 dX12_would_47 rfl rfl hf (fun c hf => ?_) (fun c hf => ?_)
        · refine zW_sub [1, 2, 3, 0] rfl ?_
          exact tX12_would_b50 hw o hf
        · refine zW_iconst dX12_would_100 ?_
          refine zW_istore (lv' := [(4, vi 1), (3, vi r4), (0, .ref (zad X (50, 0, 0))), (1, vi v1), (2, vi v2)]) dX12_would_101 rfl rfl ?_
          refine zW_sub [2, 3, 0] rfl ?_
          refine tX12_would_l103 hw o (s0 := 1) hf (fun x7 hf => ?_)
          refine zW_iload 0 dX12_would_135 rfl ?_
          exact zR_i hw rfl dX12_would_137 hf
theorem kX12_would {X : zX} {e : Nat → Prop} (hw : zWf X e) {v1 : Int} {v2 : Int} (o : zOk e (50, 0, 0)) {I : zMem} {u : (Int × zMem)} (hf : fX12_would v1 v2 I = some u) : zCn X mX12_would yX12_would [.ref (zad X (50, 0, 0)), vi v1, vi v2] I (some (vi u.1), u.2) := zCn_of (by decide +kernel) rfl rfl ⟨rfl, rfl⟩ (tX12_would_0 hw.N o hf)
set_option maxRecDepth 100000 in
theorem tX12_gaps_b30_87 {X : zX} {e : Nat → Prop} (hw : zWf X e) {T : zT} {v1 : Int} {I : zMem} {w2 : Int} {w3 : Int} {w4 : Int} {w5 : Int} (o : zOk e (50, 0, 0)) {u : ((Int × Int × Int × Int) ⊕ (Int × Int × Int × Int))} (hf : fX12_gaps_b30_87 v1 I w2 w3 w4 w5 = some u) (hk : ∀ s', u = .inl s' → zW X T mX12_gaps 30 [(0, .ref (zad X (50, 0, 0))), (1, vi v1), (2, vi s'.1), (3, vi s'.2.1), (4, vi s'.2.2.1), (5, vi s'.2.2.2)] [] I) (hx : ∀ x, u = .inr x → zW X T mX12_gaps 93 [(1, vi v1), (2, vi x.1), (3, vi x.2.1), (4, vi x.2.2.1)] [] I) : zW X T mX12_gaps 87 [(0, .ref (zad X (50, 0, 0))), (1, vi v1), (2, vi w2), (3, vi w3), (4, vi w4), (5, vi w5)] [] I := by
  unfold fX12_gaps_b30_87 at hf
  refine zW_iinc 5 (lv' := [(5, vi (w5 + 1)), (0, .ref (zad X (50, 0, 0))), (1, vi v1), (2, vi w2), (3, vi w3), (4, vi w4)]) dX12_gaps_87 rfl rfl rfl ?_
  refine zW_goto 30 dX12_gaps_90 rfl ?_
  refine zW_sub [1, 2, 3, 4, 5, 0] rfl ?_
  exact hk _ (Option.some.inj hf).symm
set_option maxRecDepth 100000 in
theorem tX12_gaps_b30_80 {X : zX} {e : Nat → Prop} (hw : zWf X e) {T : zT} {v1 : Int} {I : zMem} {w4 : Int} {w5 : Int} {k0 : Int} (o : zOk e (50, 0, 0)) {u : ((Int × Int × Int × Int) ⊕ (Int × Int × Int × Int))} (hf : fX12_gaps_b30_80 v1 I w4 w5 k0 = some u) (hk : ∀ s', u = .inl s' → zW X T mX12_gaps 30 [(0, .ref (zad X (50, 0, 0))), (1, vi v1), (2, vi s'.1), (3, vi s'.2.1), (4, vi s'.2.2.1), (5, vi s'.2.2.2)] [] I) (hx : ∀ x, u = .inr x → zW X T mX12_gaps 93 [(1, vi v1), (2, vi x.1), (3, vi x.2.1), (4, vi x.2.2.1)] [] I) : zW X T mX12_gaps 80 [(0, .ref (zad X (50, 0, 0))), (1, vi v1), (4, vi w4), (5, vi w5)] [vi k0] I := by
  unfold fX12_gaps_b30_80 at hf
  refine zW_istore_n (lv' := [(2, vi k0), (0, .ref (zad X (50, 0, 0))), (1, vi v1), (4, vi w4), (5, vi w5)]) dX12_gaps_80 rfl rfl ?_
  refine zW_iload 4 dX12_gaps_81 rfl ?_
  refine zW_istore_n (lv' := [(3, vi w5), (2, vi k0), (0, .ref (zad X (50, 0, 0))), (1, vi v1), (4, vi w4), (5, vi w5)]) dX12_gaps_83 rfl rfl ?_
  refine zW_iinc 4 (lv' := [(4, vi (w4 + 1)), (3, vi w5), (2, vi k0), (0, .ref (zad X (50, 0, 0))), (1, vi v1), (5, vi w5)]) dX12_gaps_84 rfl rfl rfl ?_
  refine zW_sub [3, 4, 2, 1, 0, 5] rfl ?_
  exact tX12_gaps_b30_87 hw o hf hk hx
set_option maxRecDepth 100000 in
theorem tX12_gaps_l30_y {X : zX} {e : Nat → Prop} (hw : zWf X e) {T : zT} {v1 : Int} {I : zMem} (o : zOk e (50, 0, 0)) (s : (Int × Int × Int × Int)) {u : ((Int × Int × Int × Int) ⊕ (Int × Int × Int × Int))} (hf : fX12_gaps_l30 v1 I s = some u) (hk : ∀ s', u = .inl s' → zW X T mX12_gaps 30 [(0, .ref (zad X (50, 0, 0))), (1, vi v1), (2, vi s'.1), (3, vi s'.2.1), (4, vi s'.2.2.1), (5, vi s'.2.2.2)] [] I) (hx : ∀ x, u = .inr x → zW X T mX12_gaps 93 [(1, vi v1), (2, vi x.1), (3, vi x.2.1), (4, vi x.2.2.1)] [] I) : zW X T mX12_gaps 30 [(0, .ref (zad X (50, 0, 0))), (1, vi v1), (2, vi s.1), (3, vi s.2.1), (4, vi s.2.2.1), (5, vi s.2.2.2)] [] I := by
  unfold fX12_gaps_l30 at hf
  refine zW_iload 5 dX12_gaps_30 rfl ?_
  refine zW_bipush dX12_gaps_32 rfl ?_
  refine zF_icmp_ge 93 dX12_gaps_34 rfl rfl (w32_lit _ rfl) hf (fun c hf => ?_) (fun c hf => ?_)
  · refine zW_sub [1, 2, 3, 4] rfl ?_
    exact hx _ (Option.some.inj hf).symm
  · refine zW_aload_n 0 dX12_gaps_37 rfl ?_
    refine zW_getR (q' := (51, 0, 0)) lk_RX12_13 (hw.1 _ o) rfl rfl (hw.2.1 _ _ _ o rfl) dX12_gaps_38 ?_
    refine zW_bipush dX12_gaps_41 rfl ?_
    refine zF_iald (hw.1 _ (zokM (r' := 51) o rfl rfl)) rfl (zin_lit _ _ rfl) (ix_lit _ rfl) dX12_gaps_43 ?_
    refine zW_iload 5 dX12_gaps_44 rfl ?_
    refine zW_iadd dX12_gaps_46 ?_
    refine zW_bipush dX12_gaps_47 rfl ?_
    refine zW_iand_7 dX12_gaps_49 ?_
    refine zF_istore (lv' := fun a3 => [(6, vi a3), (0, .ref (zad X (50, 0, 0))), (1, vi v1), (2, vi s.1), (3, vi s.2.1), (4, vi s.2.2.1), (5, vi s.2.2.2)]) dX12_gaps_50 hf (fun _ => rfl) rfl (fun a3 hf => ?_)
    refine zW_aload_n 1 dX12_gaps_52 rfl ?_
    refine zW_getR (q' := (51, 0, 0)) lk_RX12_13 (hw.1 _ o) rfl rfl (hw.2.1 _ _ _ o rfl) dX12_gaps_53 ?_
    refine zW_bipush dX12_gaps_56 rfl ?_
    refine zW_iload 0 dX12_gaps_58 rfl ?_
    refine zW_iadd dX12_gaps_60 ?_
    obtain ⟨c4, hf⟩ := zgd hf
    refine zF_iald (hw.1 _ (zokM (r' := 51) o rfl rfl)) rfl c4 rfl dX12_gaps_61 ?_
    refine zW_iconst dX12_gaps_62 ?_
    refine zF_icmp_ne 69 dX12_gaps_63 rfl rfl (w32_lit _ rfl) hf (fun c hf => ?_) (fun c hf => ?_)
    · refine zW_goto 87 dX12_gaps_66 rfl ?_
      refine zW_sub [1, 2, 3, 4, 5, 6] rfl ?_
      exact tX12_gaps_b30_87 hw o hf hk hx
    · refine zW_iload_n 3 dX12_gaps_69 rfl ?_
      refine zW_iconst dX12_gaps_70 ?_
      refine zF_icmp_ne 79 dX12_gaps_71 rfl rfl (w32_lit _ rfl) hf (fun c hf => ?_) (fun c hf => ?_)
      · refine zW_iload 0 dX12_gaps_74 rfl ?_
        refine zW_goto 80 dX12_gaps_76 rfl ?_
        refine zW_sub [1, 2, 5, 6] rfl ?_
        exact tX12_gaps_b30_80 hw o hf hk hx
      · refine zW_iload_n 3 dX12_gaps_79 rfl ?_
        refine zW_sub [1, 2, 5, 6] rfl ?_
        exact tX12_gaps_b30_80 hw o hf hk hx
theorem tX12_gaps_l30 {X : zX} {e : Nat → Prop} (hw : zWf X e) {T : zT} {v1 : Int} {I : zMem} (o : zOk e (50, 0, 0)) {s0 : (Int × Int × Int × Int)} {α : Type} {F : (Int × Int × Int × Int) → Option α} {u : α} (hf : zb (zlp (fX12_gaps_l30 v1 I) 5000 s0) F = some u) (kx : ∀ x, F x = some u → zW X T mX12_gaps 93 [(1, vi v1), (2, vi x.1), (3, vi x.2.1), (4, vi x.2.2.1)] [] I) : zW X T mX12_gaps 30 [(0, .ref (zad X (50, 0, 0))), (1, vi v1), (2, vi s0.1), (3, vi s0.2.1), (4, vi s0.2.2.1), (5, vi s0.2.2.2)] [] I := by
  obtain ⟨x, h, hf⟩ := zb_inv hf
  exact zlp_W (P := fun s => zW X T mX12_gaps 30 [(0, .ref (zad X (50, 0, 0))), (1, vi v1), (2, vi s.1), (3, vi s.2.1), (4, vi s.2.2.1), (5, vi s.2.2.2)] [] I) (E := fun x => zW X T mX12_gaps 93 [(1, vi v1), (2, vi x.1), (3, vi x.2.1), (4, vi x.2.2.1)] [] I) (fun s u h hk hx => tX12_gaps_l30_y hw o s h hk hx) _ s0 x h (kx x hf)
set_option maxRecDepth 100000 in
theorem tX12_gaps_0 {X : zX} {e : Nat → Prop} (hw : zWf X e) {v1 : Int} (o : zOk e (50, 0, 0)) {I : zMem} {u : (Int × zMem)} (hf : fX12_gaps v1 I = some u) : zW X (some (vi u.1), u.2) mX12_gaps 0 [(0, .ref (zad X (50, 0, 0))), (1, vi v1)] [] I := by
  unfold fX12_gaps at hf
  refine zW_aload_n 0 dX12_gaps_0 rfl ?_
  refine zW_iconst dX12_gaps_1 ?_
  refine zF_put lk_RX12_1 (hw.1 _ o) rfl rfl (zn_int _) dX12_gaps_2 hf (fun I1 hf => ?_)
  refine zW_iload_n 1 dX12_gaps_5 rfl ?_
  refine zW_i2l dX12_gaps_6 ?_
  refine zW_lconst0 dX12_gaps_7 ?_
  refine zW_ldc2 dX12_gaps_8 wc_RX12_237 ?_
  refine zC_Sri (As := [vl (w32 v1), vl 0, vl 2]) (fun x hx => kX12_within hw (v0 := w32 v1) (v2 := 0) (v4 := 2)  hx) ms_RX12_94 rfl rfl rfl rfl dX12_gaps_11 hf (fun r2 hf => ?_)
  refine zF_if_ne 20 dX12_gaps_14 rfl rfl hf (fun c hf => ?_) (fun c hf => ?_)
  · refine zW_bipush dX12_gaps_17 rfl ?_
    exact zR_i hw rfl dX12_gaps_19 hf
  · refine zW_iconst dX12_gaps_20 ?_
    refine zW_istore_n (lv' := [(2, vi (-1)), (0, .ref (zad X (50, 0, 0))), (1, vi v1)]) dX12_gaps_21 rfl rfl ?_
    refine zW_iconst dX12_gaps_22 ?_
    refine zW_istore_n (lv' := [(3, vi (-1)), (2, vi (-1)), (0, .ref (zad X (50, 0, 0))), (1, vi v1)]) dX12_gaps_23 rfl rfl ?_
    refine zW_iconst dX12_gaps_24 ?_
    refine zW_istore (lv' := [(4, vi 0), (3, vi (-1)), (2, vi (-1)), (0, .ref (zad X (50, 0, 0))), (1, vi v1)]) dX12_gaps_25 rfl rfl ?_
    refine zW_iconst dX12_gaps_27 ?_
    refine zW_istore (lv' := [(5, vi 0), (4, vi 0), (3, vi (-1)), (2, vi (-1)), (0, .ref (zad X (50, 0, 0))), (1, vi v1)]) dX12_gaps_28 rfl rfl ?_
    refine zW_sub [4, 5, 3, 2, 1, 0] rfl ?_
    refine tX12_gaps_l30 hw o (s0 := ((-1), (-1), 0, 0)) hf (fun x5 hf => ?_)
    refine zW_iload_n 0 dX12_gaps_93 rfl ?_
    refine zW_iconst dX12_gaps_94 ?_
    refine zF_icmp_ne 102 dX12_gaps_95 rfl rfl (w32_lit _ rfl) hf (fun c hf => ?_) (fun c hf => ?_)
    · refine zW_iload_n 1 dX12_gaps_98 rfl ?_
      refine zW_goto 119 dX12_gaps_99 rfl ?_
      exact zR_i hw rfl dX12_gaps_119 hf
    · refine zW_iload_n 0 dX12_gaps_102 rfl ?_
      refine zW_iconst dX12_gaps_103 ?_
      refine zF_icmp_ne 113 dX12_gaps_104 rfl rfl (w32_lit _ rfl) hf (fun c hf => ?_) (fun c hf => ?_)
      · refine zW_iload_n 2 dX12_gaps_107 rfl ?_
        refine zW_iconst dX12_gaps_108 ?_
        refine zW_iadd dX12_gaps_109 ?_
        refine zW_goto 119 dX12_gaps_110 rfl ?_
        exact zR_i hw rfl dX12_gaps_119 hf
      · refine zW_iload_n 2 dX12_gaps_113 rfl ?_
        refine zW_iconst dX12_gaps_114 ?_
        refine zW_iadd dX12_gaps_115 ?_
        refine zW_iload 3 dX12_gaps_116 rfl ?_
        refine zW_isub dX12_gaps_118 ?_
        exact zR_i hw rfl dX12_gaps_119 hf
theorem kX12_gaps {X : zX} {e : Nat → Prop} (hw : zWf X e) {v1 : Int} (o : zOk e (50, 0, 0)) {I : zMem} {u : (Int × zMem)} (hf : fX12_gaps v1 I = some u) : zCn X mX12_gaps yX12_gaps [.ref (zad X (50, 0, 0)), vi v1] I (some (vi u.1), u.2) := zCn_of (by decide +kernel) rfl rfl ⟨rfl, rfl⟩ (tX12_gaps_0 hw.N o hf)
set_option maxRecDepth 100000 in
theorem tX12_tray_l44_y {X : zX} {e : Nat → Prop} (hw : zWf X e) {T : zT} {v1 : Int} {v2 : Int} (o : zOk e (50, 0, 0)) (s : (Int × zMem)) {u : ((Int × zMem) ⊕ (Int × zMem))} (hf : fX12_tray_l44 v1 v2 s = some u) (hk : ∀ s', u = .inl s' → zW X T mX12_tray 44 [(0, .ref (zad X (50, 0, 0))), (1, vi v1), (2, vi v2), (3, vi s'.1)] [] s'.2) (hx : ∀ x, u = .inr x → zW X T mX12_tray 67 [] [] x.2) : zW X T mX12_tray 44 [(0, .ref (zad X (50, 0, 0))), (1, vi v1), (2, vi v2), (3, vi s.1)] [] s.2 := by
  unfold fX12_tray_l44 at hf
  refine zW_iload_n 3 dX12_tray_44 rfl ?_
  refine zW_iload_n 2 dX12_tray_45 rfl ?_
  refine zF_icmp_ge 67 dX12_tray_46 rfl rfl rfl hf (fun c hf => ?_) (fun c hf => ?_)
  · refine zW_sub [] rfl ?_
    exact hx _ (Option.some.inj hf).symm
  · refine zW_aload_n 0 dX12_tray_49 rfl ?_
    refine zW_getR (q' := (67, 0, 0)) lk_RX12_64 (hw.1 _ o) rfl rfl (hw.2.1 _ _ _ o rfl) dX12_tray_50 ?_
    refine zW_bipush dX12_tray_53 rfl ?_
    refine zW_iload_n 1 dX12_tray_55 rfl ?_
    refine zW_imul dX12_tray_56 ?_
    refine zW_iload_n 3 dX12_tray_57 rfl ?_
    refine zW_iadd dX12_tray_58 ?_
    refine zW_iconst dX12_tray_59 ?_
    obtain ⟨c6, hf⟩ := zgd hf
    refine zF_iast (hw.1 _ (zokM (r' := 67) o rfl rfl)) rfl c6 rfl dX12_tray_60 hf (fun I7 hf => ?_)
    refine zW_iinc 3 (lv' := [(3, vi (s.1 + 1)), (0, .ref (zad X (50, 0, 0))), (1, vi v1), (2, vi v2)]) dX12_tray_61 rfl rfl rfl ?_
    refine zW_goto 44 dX12_tray_64 rfl ?_
    refine zW_sub [1, 2, 3, 0] rfl ?_
    exact hk _ (Option.some.inj hf).symm
theorem tX12_tray_l44 {X : zX} {e : Nat → Prop} (hw : zWf X e) {T : zT} {v1 : Int} {v2 : Int} (o : zOk e (50, 0, 0)) {s0 : (Int × zMem)} {α : Type} {F : (Int × zMem) → Option α} {u : α} (hf : zb (zlp (fX12_tray_l44 v1 v2) 5000 s0) F = some u) (kx : ∀ x, F x = some u → zW X T mX12_tray 67 [] [] x.2) : zW X T mX12_tray 44 [(0, .ref (zad X (50, 0, 0))), (1, vi v1), (2, vi v2), (3, vi s0.1)] [] s0.2 := by
  obtain ⟨x, h, hf⟩ := zb_inv hf
  exact zlp_W (P := fun s => zW X T mX12_tray 44 [(0, .ref (zad X (50, 0, 0))), (1, vi v1), (2, vi v2), (3, vi s.1)] [] s.2) (E := fun x => zW X T mX12_tray 67 [] [] x.2) (fun s u h hk hx => tX12_tray_l44_y hw o s h hk hx) _ s0 x h (kx x hf)
set_option maxRecDepth 100000 in
theorem tX12_tray_0 {X : zX} {e : Nat → Prop} (hw : zWf X e) {v1 : Int} {v2 : Int} (o : zOk e (50, 0, 0)) {I : zMem} {u : (Int × zMem)} (hf : fX12_tray v1 v2 I = some u) : zW X (some (vi u.1), u.2) mX12_tray 0 [(0, .ref (zad X (50, 0, 0))), (1, vi v1), (2, vi v2)] [] I := by
  unfold fX12_tray at hf
  refine zW_aload_n 0 dX12_tray_0 rfl ?_
  refine zW_iconst dX12_tray_1 ?_
  refine zF_put lk_RX12_1 (hw.1 _ o) rfl rfl (zn_int _) dX12_tray_2 hf (fun I1 hf => ?_)
  refine zW_iload_n 1 dX12_tray_5 rfl ?_
  refine zW_i2l dX12_tray_6 ?_
  refine zW_lconst0 dX12_tray_7 ?_
  refine zW_ldc2 dX12_tray_8 wc_RX12_132 ?_
  refine zC_Sri (As := [vl (w32 v1), vl 0, vl 3]) (fun x hx => kX12_within hw (v0 := w32 v1) (v2 := 0) (v4 := 3)  hx) ms_RX12_94 rfl rfl rfl rfl dX12_tray_11 hf (fun r2 hf => ?_)
  refine zF_if_ne 20 dX12_tray_14 rfl rfl hf (fun c hf => ?_) (fun c hf => ?_)
  · refine zW_bipush dX12_tray_17 rfl ?_
    exact zR_i hw rfl dX12_tray_19 hf
  · refine zW_iload_n 2 dX12_tray_20 rfl ?_
    refine zW_i2l dX12_tray_21 ?_
    refine zW_lconst0 dX12_tray_22 ?_
    refine zW_ldc2 dX12_tray_23 wc_RX12_98 ?_
    refine zC_Sri (As := [vl (w32 v2), vl 0, vl 60]) (fun x hx => kX12_within hw (v0 := w32 v2) (v2 := 0) (v4 := 60)  hx) ms_RX12_94 rfl rfl rfl rfl dX12_tray_26 hf (fun r3 hf => ?_)
    refine zF_if_ne 35 dX12_tray_29 rfl rfl hf (fun c hf => ?_) (fun c hf => ?_)
    · refine zW_bipush dX12_tray_32 rfl ?_
      exact zR_i hw rfl dX12_tray_34 hf
    · refine zW_aload_n 0 dX12_tray_35 rfl ?_
      refine zW_getR (q' := (66, 0, 0)) lk_RX12_61 (hw.1 _ o) rfl rfl (hw.2.1 _ _ _ o rfl) dX12_tray_36 ?_
      refine zW_iload_n 1 dX12_tray_39 rfl ?_
      refine zW_iload_n 2 dX12_tray_40 rfl ?_
      obtain ⟨c4, hf⟩ := zgd hf
      refine zF_iast (hw.1 _ (zokM (r' := 66) o rfl rfl)) rfl c4 rfl dX12_tray_41 hf (fun I5 hf => ?_)
      refine zW_iconst dX12_tray_42 ?_
      refine zW_istore_n (lv' := [(3, vi 0), (0, .ref (zad X (50, 0, 0))), (1, vi v1), (2, vi v2)]) dX12_tray_43 rfl rfl ?_
      refine zW_sub [1, 2, 3, 0] rfl ?_
      refine tX12_tray_l44 hw o (s0 := (0, I5)) hf (fun x8 hf => ?_)
      refine zW_iconst dX12_tray_67 ?_
      exact zR_i hw rfl dX12_tray_68 hf
theorem kX12_tray {X : zX} {e : Nat → Prop} (hw : zWf X e) {v1 : Int} {v2 : Int} (o : zOk e (50, 0, 0)) {I : zMem} {u : (Int × zMem)} (hf : fX12_tray v1 v2 I = some u) : zCn X mX12_tray yX12_tray [.ref (zad X (50, 0, 0)), vi v1, vi v2] I (some (vi u.1), u.2) := zCn_of (by decide +kernel) rfl rfl ⟨rfl, rfl⟩ (tX12_tray_0 hw.N o hf)
set_option maxRecDepth 100000 in
theorem tX12_write_0 {X : zX} {e : Nat → Prop} (hw : zWf X e) {v1 : Int} {v2 : Int} {v3 : Int} (o : zOk e (50, 0, 0)) {I : zMem} {u : (Int × zMem)} (hf : fX12_write v1 v2 v3 I = some u) : zW X (some (vi u.1), u.2) mX12_write 0 [(0, .ref (zad X (50, 0, 0))), (1, vi v1), (2, vi v2), (3, vi v3)] [] I := by
  unfold fX12_write at hf
  refine zW_aload_n 0 dX12_write_0 rfl ?_
  refine zW_iconst dX12_write_1 ?_
  refine zF_put lk_RX12_1 (hw.1 _ o) rfl rfl (zn_int _) dX12_write_2 hf (fun I1 hf => ?_)
  refine zW_aload_n 0 dX12_write_5 rfl ?_
  refine zW_iload_n 1 dX12_write_6 rfl ?_
  refine zC_Vri (As := [vi v1]) (fun x hx => kX12_noTray hw (v1 := v1) o hx) mv_RX12_303 (hw.1 _ o) rfl rfl rfl rfl rfl dX12_write_7 hf (fun r2 hf => ?_)
  refine zW_istore (lv' := [(4, vi r2), (0, .ref (zad X (50, 0, 0))), (1, vi v1), (2, vi v2), (3, vi v3)]) dX12_write_10 rfl rfl ?_
  refine zW_iload 0 dX12_write_12 rfl ?_
  refine zF_if_eq 24 dX12_write_14 rfl rfl hf (fun c hf => ?_) (fun c hf => ?_)
  · refine zW_iload_n 3 dX12_write_24 rfl ?_
    refine zW_i2l dX12_write_25 ?_
    refine zW_lconst0 dX12_write_26 ?_
    refine zW_aload_n 1 dX12_write_27 rfl ?_
    refine zW_getR (q' := (66, 0, 0)) lk_RX12_61 (hw.1 _ o) rfl rfl (hw.2.1 _ _ _ o rfl) dX12_write_28 ?_
    refine zW_iload_n 2 dX12_write_31 rfl ?_
    obtain ⟨c3, hf⟩ := zgd hf
    refine zF_iald (hw.1 _ (zokM (r' := 66) o rfl rfl)) rfl c3 rfl dX12_write_32 ?_
    refine zW_iconst dX12_write_33 ?_
    refine zW_isub dX12_write_34 ?_
    refine zW_i2l dX12_write_35 ?_
    refine zC_Sri (As := [vl (w32 v2), vl 0, vl (w32 ((I1 (66, 0, 0) (ix v1)) - 1))]) (fun x hx => kX12_within hw (v0 := w32 v2) (v2 := 0) (v4 := w32 ((I1 (66, 0, 0) (ix v1)) - 1))  hx) ms_RX12_94 rfl rfl rfl rfl dX12_write_36 hf (fun r4 hf => ?_)
    refine zF_if_ne 46 dX12_write_39 rfl rfl hf (fun c hf => ?_) (fun c hf => ?_)
    · refine zW_sipush dX12_write_42 rfl ?_
      exact zR_i hw rfl dX12_write_45 hf
    · refine zW_aload_n 1 dX12_write_46 rfl ?_
      refine zW_getR (q' := (67, 0, 0)) lk_RX12_64 (hw.1 _ o) rfl rfl (hw.2.1 _ _ _ o rfl) dX12_write_47 ?_
      refine zW_bipush dX12_write_50 rfl ?_
      refine zW_iload_n 2 dX12_write_52 rfl ?_
      refine zW_imul dX12_write_53 ?_
      refine zW_iload_n 3 dX12_write_54 rfl ?_
      refine zW_iadd dX12_write_55 ?_
      refine zW_iload_n 4 dX12_write_56 rfl ?_
      refine zW_i2b dX12_write_57 ?_
      obtain ⟨c5, hf⟩ := zgd hf
      refine zF_iast (hw.1 _ (zokM (r' := 67) o rfl rfl)) rfl c5 rfl dX12_write_58 hf (fun I6 hf => ?_)
      refine zW_aload_n 1 dX12_write_59 rfl ?_
      refine zW_getR (q' := (67, 0, 0)) lk_RX12_64 (hw.1 _ o) rfl rfl (hw.2.1 _ _ _ o rfl) dX12_write_60 ?_
      refine zW_bipush dX12_write_63 rfl ?_
      refine zW_iload_n 2 dX12_write_65 rfl ?_
      refine zW_imul dX12_write_66 ?_
      refine zW_iload_n 3 dX12_write_67 rfl ?_
      refine zW_iadd dX12_write_68 ?_
      refine zF_iald (hw.1 _ (zokM (r' := 67) o rfl rfl)) rfl c5 rfl dX12_write_69 ?_
      exact zR_i hw rfl dX12_write_70 hf
  · refine zW_iload 0 dX12_write_17 rfl ?_
    refine zW_sipush dX12_write_19 rfl ?_
    refine zW_isub dX12_write_22 ?_
    exact zR_i hw rfl dX12_write_23 hf
theorem kX12_write {X : zX} {e : Nat → Prop} (hw : zWf X e) {v1 : Int} {v2 : Int} {v3 : Int} (o : zOk e (50, 0, 0)) {I : zMem} {u : (Int × zMem)} (hf : fX12_write v1 v2 v3 I = some u) : zCn X mX12_write yX12_write [.ref (zad X (50, 0, 0)), vi v1, vi v2, vi v3] I (some (vi u.1), u.2) := zCn_of (by decide +kernel) rfl rfl ⟨rfl, rfl⟩ (tX12_write_0 hw.N o hf)
set_option maxRecDepth 100000 in
theorem tX12_lists_l75_y {X : zX} {e : Nat → Prop} (hw : zWf X e) {T : zT} {v1 : Int} {v2 : Int} {w3 : Int} (o : zOk e (50, 0, 0)) (s : (Int × zMem)) {u : ((Int × zMem) ⊕ (Int × zMem))} (hf : fX12_lists_l75 v1 v2 w3 s = some u) (hk : ∀ s', u = .inl s' → zW X T mX12_lists 75 [(0, .ref (zad X (50, 0, 0))), (1, vi v1), (3, vi w3), (4, vi s'.1)] [] s'.2) (hx : ∀ x, u = .inr x → zW X T mX12_lists 111 [(3, vi w3)] [] x.2) : zW X T mX12_lists 75 [(0, .ref (zad X (50, 0, 0))), (1, vi v1), (3, vi w3), (4, vi s.1)] [] s.2 := by
  unfold fX12_lists_l75 at hf
  refine zW_iload 3 dX12_lists_75 rfl ?_
  refine zW_iload_n 2 dX12_lists_77 rfl ?_
  refine zF_icmp_ge 111 dX12_lists_78 rfl rfl rfl hf (fun c hf => ?_) (fun c hf => ?_)
  · refine zW_sub [2] rfl ?_
    exact hx _ (Option.some.inj hf).symm
  · refine zW_aload_n 0 dX12_lists_81 rfl ?_
    refine zW_getR (q' := (67, 0, 0)) lk_RX12_64 (hw.1 _ o) rfl rfl (hw.2.1 _ _ _ o rfl) dX12_lists_82 ?_
    refine zW_bipush dX12_lists_85 rfl ?_
    refine zW_iload_n 1 dX12_lists_87 rfl ?_
    refine zW_imul dX12_lists_88 ?_
    refine zW_iload 3 dX12_lists_89 rfl ?_
    refine zW_iadd dX12_lists_91 ?_
    refine zW_aload_n 0 dX12_lists_92 rfl ?_
    refine zW_getR (q' := (58, 0, 0)) lk_RX12_37 (hw.1 _ o) rfl rfl (hw.2.1 _ _ _ o rfl) dX12_lists_93 ?_
    refine zW_iload 3 dX12_lists_96 rfl ?_
    obtain ⟨c6, hf⟩ := zgd hf
    refine zF_iald (hw.1 _ (zokM (r' := 58) o rfl rfl)) rfl c6 rfl dX12_lists_98 ?_
    refine zW_bipush dX12_lists_99 rfl ?_
    refine zC_Sri (As := [vi (s.2 (58, 0, 0) (ix s.1)), vi 127]) (fun x hx => kX12_held hw (v0 := s.2 (58, 0, 0) (ix s.1)) (v1 := 127)  hx) ms_RX12_191 rfl rfl rfl rfl dX12_lists_101 hf (fun r7 hf => ?_)
    obtain ⟨c8, hf⟩ := zgd hf
    refine zF_iast (hw.1 _ (zokM (r' := 67) o rfl rfl)) rfl c8 rfl dX12_lists_104 hf (fun I9 hf => ?_)
    refine zW_iinc 3 (lv' := [(4, vi (s.1 + 1)), (0, .ref (zad X (50, 0, 0))), (1, vi v1), (3, vi w3)]) dX12_lists_105 rfl rfl rfl ?_
    refine zW_goto 75 dX12_lists_108 rfl ?_
    refine zW_sub [1, 2, 3, 0] rfl ?_
    exact hk _ (Option.some.inj hf).symm
theorem tX12_lists_l75 {X : zX} {e : Nat → Prop} (hw : zWf X e) {T : zT} {v1 : Int} {v2 : Int} {w3 : Int} (o : zOk e (50, 0, 0)) {s0 : (Int × zMem)} {α : Type} {F : (Int × zMem) → Option α} {u : α} (hf : zb (zlp (fX12_lists_l75 v1 v2 w3) 5000 s0) F = some u) (kx : ∀ x, F x = some u → zW X T mX12_lists 111 [(3, vi w3)] [] x.2) : zW X T mX12_lists 75 [(0, .ref (zad X (50, 0, 0))), (1, vi v1), (3, vi w3), (4, vi s0.1)] [] s0.2 := by
  obtain ⟨x, h, hf⟩ := zb_inv hf
  exact zlp_W (P := fun s => zW X T mX12_lists 75 [(0, .ref (zad X (50, 0, 0))), (1, vi v1), (3, vi w3), (4, vi s.1)] [] s.2) (E := fun x => zW X T mX12_lists 111 [(3, vi w3)] [] x.2) (fun s u h hk hx => tX12_lists_l75_y hw o s h hk hx) _ s0 x h (kx x hf)
set_option maxRecDepth 100000 in
theorem tX12_lists_b71 {X : zX} {e : Nat → Prop} (hw : zWf X e) {v1 : Int} {v2 : Int} {k0 : Int} {I : zMem} (o : zOk e (50, 0, 0)) {u : (Int × zMem)} (hf : fX12_lists_b71 v1 v2 k0 I = some u) : zW X (some (vi u.1), u.2) mX12_lists 71 [(0, .ref (zad X (50, 0, 0))), (1, vi v1)] [vi k0] I := by
  unfold fX12_lists_b71 at hf
  refine zW_istore_n (lv' := [(3, vi k0), (0, .ref (zad X (50, 0, 0))), (1, vi v1)]) dX12_lists_71 rfl rfl ?_
  refine zW_iconst dX12_lists_72 ?_
  refine zW_istore (lv' := [(4, vi 0), (3, vi k0), (0, .ref (zad X (50, 0, 0))), (1, vi v1)]) dX12_lists_73 rfl rfl ?_
  refine zW_sub [2, 3, 1, 0] rfl ?_
  refine tX12_lists_l75 hw o (s0 := (0, I)) hf (fun x10 hf => ?_)
  refine zW_iload_n 0 dX12_lists_111 rfl ?_
  exact zR_i hw rfl dX12_lists_112 hf
set_option maxRecDepth 100000 in
theorem tX12_lists_0 {X : zX} {e : Nat → Prop} (hw : zWf X e) {v1 : Int} {v2 : Int} (o : zOk e (50, 0, 0)) {I : zMem} {u : (Int × zMem)} (hf : fX12_lists v1 v2 I = some u) : zW X (some (vi u.1), u.2) mX12_lists 0 [(0, .ref (zad X (50, 0, 0))), (1, vi v1), (2, vi v2)] [] I := by
  unfold fX12_lists at hf
  refine zW_aload_n 0 dX12_lists_0 rfl ?_
  refine zW_iconst dX12_lists_1 ?_
  refine zF_put lk_RX12_1 (hw.1 _ o) rfl rfl (zn_int _) dX12_lists_2 hf (fun I1 hf => ?_)
  refine zW_iload_n 1 dX12_lists_5 rfl ?_
  refine zW_i2l dX12_lists_6 ?_
  refine zW_lconst0 dX12_lists_7 ?_
  refine zW_ldc2 dX12_lists_8 wc_RX12_132 ?_
  refine zC_Sri (As := [vl (w32 v1), vl 0, vl 3]) (fun x hx => kX12_within hw (v0 := w32 v1) (v2 := 0) (v4 := 3)  hx) ms_RX12_94 rfl rfl rfl rfl dX12_lists_11 hf (fun r2 hf => ?_)
  refine zF_if_eq 25 dX12_lists_14 rfl rfl hf (fun c hf => ?_) (fun c hf => ?_)
  · refine zW_bipush dX12_lists_25 rfl ?_
    exact zR_i hw rfl dX12_lists_27 hf
  · refine zW_aload_n 0 dX12_lists_17 rfl ?_
    refine zW_iload_n 2 dX12_lists_18 rfl ?_
    refine zC_Vri (As := [vi v2]) (fun x hx => kX12_isProcess hw (v1 := v2) o hx) mv_RX12_222 (hw.1 _ o) rfl rfl rfl rfl rfl dX12_lists_19 hf (fun r3 hf => ?_)
    refine zF_if_ne 28 dX12_lists_22 rfl rfl hf (fun c hf => ?_) (fun c hf => ?_)
    · refine zW_bipush dX12_lists_25 rfl ?_
      exact zR_i hw rfl dX12_lists_27 hf
    · refine zW_aload_n 0 dX12_lists_28 rfl ?_
      refine zW_getR (q' := (66, 0, 0)) lk_RX12_61 (hw.1 _ o) rfl rfl (hw.2.1 _ _ _ o rfl) dX12_lists_29 ?_
      refine zW_iload_n 1 dX12_lists_32 rfl ?_
      obtain ⟨c4, hf⟩ := zgd hf
      refine zF_iald (hw.1 _ (zokM (r' := 66) o rfl rfl)) rfl c4 rfl dX12_lists_33 ?_
      refine zW_iconst dX12_lists_34 ?_
      refine zF_icmp_eq 46 dX12_lists_35 rfl rfl (w32_lit _ rfl) hf (fun c hf => ?_) (fun c hf => ?_)
      · refine zW_bipush dX12_lists_46 rfl ?_
        exact zR_i hw rfl dX12_lists_48 hf
      · refine zW_aload_n 0 dX12_lists_38 rfl ?_
        refine zW_iload_n 2 dX12_lists_39 rfl ?_
        refine zC_Vwi (As := [vi v2]) (fun x hx => kX12_noSoft hw (v1 := v2) o hx) mv_RX12_281 (hw.1 _ o) rfl rfl rfl rfl rfl dX12_lists_40 hf (fun r5 hf => ?_)
        refine zF_if_eq 49 dX12_lists_43 rfl rfl hf (fun c hf => ?_) (fun c hf => ?_)
        · refine zW_aload_n 0 dX12_lists_49 rfl ?_
          refine zW_getR (q' := (66, 0, 0)) lk_RX12_61 (hw.1 _ o) rfl rfl (hw.2.1 _ _ _ o rfl) dX12_lists_50 ?_
          refine zW_iload_n 1 dX12_lists_53 rfl ?_
          refine zF_iald (hw.1 _ (zokM (r' := 66) o rfl rfl)) rfl c4 rfl dX12_lists_54 ?_
          refine zW_bipush dX12_lists_55 rfl ?_
          refine zF_icmp_ge 69 dX12_lists_57 rfl rfl (w32_lit _ rfl) hf (fun c hf => ?_) (fun c hf => ?_)
          · refine zW_bipush dX12_lists_69 rfl ?_
            refine zW_sub [0, 1] rfl ?_
            exact tX12_lists_b71 hw o hf
          · refine zW_aload_n 0 dX12_lists_60 rfl ?_
            refine zW_getR (q' := (66, 0, 0)) lk_RX12_61 (hw.1 _ o) rfl rfl (hw.2.1 _ _ _ o rfl) dX12_lists_61 ?_
            refine zW_iload_n 1 dX12_lists_64 rfl ?_
            refine zF_iald (hw.1 _ (zokM (r' := 66) o rfl rfl)) rfl c4 rfl dX12_lists_65 ?_
            refine zW_goto 71 dX12_lists_66 rfl ?_
            refine zW_sub [0, 1] rfl ?_
            exact tX12_lists_b71 hw o hf
        · refine zW_bipush dX12_lists_46 rfl ?_
          exact zR_i hw rfl dX12_lists_48 hf
theorem kX12_lists {X : zX} {e : Nat → Prop} (hw : zWf X e) {v1 : Int} {v2 : Int} (o : zOk e (50, 0, 0)) {I : zMem} {u : (Int × zMem)} (hf : fX12_lists v1 v2 I = some u) : zCn X mX12_lists yX12_lists [.ref (zad X (50, 0, 0)), vi v1, vi v2] I (some (vi u.1), u.2) := zCn_of (by decide +kernel) rfl rfl ⟨rfl, rfl⟩ (tX12_lists_0 hw.N o hf)
set_option maxRecDepth 100000 in
theorem tX12_image_l20_y {X : zX} {e : Nat → Prop} (hw : zWf X e) {T : zT} {v1 : Int} (o : zOk e (50, 0, 0)) (s : (Int × zMem)) {u : ((Int × zMem) ⊕ (Int × zMem))} (hf : fX12_image_l20 v1 s = some u) (hk : ∀ s', u = .inl s' → zW X T mX12_image 20 [(0, .ref (zad X (50, 0, 0))), (1, vi v1), (2, vi s'.1)] [] s'.2) (hx : ∀ x, u = .inr x → zW X T mX12_image 53 [(0, .ref (zad X (50, 0, 0))), (1, vi v1)] [] x.2) : zW X T mX12_image 20 [(0, .ref (zad X (50, 0, 0))), (1, vi v1), (2, vi s.1)] [] s.2 := by
  unfold fX12_image_l20 at hf
  refine zW_iload_n 2 dX12_image_20 rfl ?_
  refine zW_sipush dX12_image_21 rfl ?_
  refine zF_icmp_ge 53 dX12_image_24 rfl rfl (w32_lit _ rfl) hf (fun c hf => ?_) (fun c hf => ?_)
  · refine zW_sub [0, 1] rfl ?_
    exact hx _ (Option.some.inj hf).symm
  · refine zW_aload_n 0 dX12_image_27 rfl ?_
    refine zW_getR (q' := (51, 0, 0)) lk_RX12_13 (hw.1 _ o) rfl rfl (hw.2.1 _ _ _ o rfl) dX12_image_28 ?_
    refine zW_sipush dX12_image_31 rfl ?_
    refine zW_iload_n 1 dX12_image_34 rfl ?_
    refine zW_iconst dX12_image_35 ?_
    refine zW_iadd dX12_image_36 ?_
    refine zW_imul dX12_image_37 ?_
    refine zW_iload_n 2 dX12_image_38 rfl ?_
    refine zW_iadd dX12_image_39 ?_
    refine zW_aload_n 0 dX12_image_40 rfl ?_
    refine zW_getR (q' := (51, 0, 0)) lk_RX12_13 (hw.1 _ o) rfl rfl (hw.2.1 _ _ _ o rfl) dX12_image_41 ?_
    refine zW_iload_n 2 dX12_image_44 rfl ?_
    obtain ⟨c3, hf⟩ := zgd hf
    refine zF_iald (hw.1 _ (zokM (r' := 51) o rfl rfl)) rfl c3 rfl dX12_image_45 ?_
    obtain ⟨c4, hf⟩ := zgd hf
    refine zF_iast (hw.1 _ (zokM (r' := 51) o rfl rfl)) rfl c4 rfl dX12_image_46 hf (fun I5 hf => ?_)
    refine zW_iinc 2 (lv' := [(2, vi (s.1 + 1)), (0, .ref (zad X (50, 0, 0))), (1, vi v1)]) dX12_image_47 rfl rfl rfl ?_
    refine zW_goto 20 dX12_image_50 rfl ?_
    refine zW_sub [1, 2, 0] rfl ?_
    exact hk _ (Option.some.inj hf).symm
theorem tX12_image_l20 {X : zX} {e : Nat → Prop} (hw : zWf X e) {T : zT} {v1 : Int} (o : zOk e (50, 0, 0)) {s0 : (Int × zMem)} {α : Type} {F : (Int × zMem) → Option α} {u : α} (hf : zb (zlp (fX12_image_l20 v1) 5000 s0) F = some u) (kx : ∀ x, F x = some u → zW X T mX12_image 53 [(0, .ref (zad X (50, 0, 0))), (1, vi v1)] [] x.2) : zW X T mX12_image 20 [(0, .ref (zad X (50, 0, 0))), (1, vi v1), (2, vi s0.1)] [] s0.2 := by
  obtain ⟨x, h, hf⟩ := zb_inv hf
  exact zlp_W (P := fun s => zW X T mX12_image 20 [(0, .ref (zad X (50, 0, 0))), (1, vi v1), (2, vi s.1)] [] s.2) (E := fun x => zW X T mX12_image 53 [(0, .ref (zad X (50, 0, 0))), (1, vi v1)] [] x.2) (fun s u h hk hx => tX12_image_l20_y hw o s h hk hx) _ s0 x h (kx x hf)
set_option maxRecDepth 100000 in
theorem tX12_image_0 {X : zX} {e : Nat → Prop} (hw : zWf X e) {v1 : Int} (o : zOk e (50, 0, 0)) {I : zMem} {u : (Int × zMem)} (hf : fX12_image v1 I = some u) : zW X (some (vi u.1), u.2) mX12_image 0 [(0, .ref (zad X (50, 0, 0))), (1, vi v1)] [] I := by
  unfold fX12_image at hf
  refine zW_aload_n 0 dX12_image_0 rfl ?_
  refine zW_iconst dX12_image_1 ?_
  refine zF_put lk_RX12_1 (hw.1 _ o) rfl rfl (zn_int _) dX12_image_2 hf (fun I1 hf => ?_)
  refine zW_iload_n 1 dX12_image_5 rfl ?_
  refine zW_i2l dX12_image_6 ?_
  refine zW_lconst0 dX12_image_7 ?_
  refine zW_lconst1 dX12_image_8 ?_
  refine zC_Sri (As := [vl (w32 v1), vl 0, vl 1]) (fun x hx => kX12_within hw (v0 := w32 v1) (v2 := 0) (v4 := 1)  hx) ms_RX12_94 rfl rfl rfl rfl dX12_image_9 hf (fun r2 hf => ?_)
  refine zF_if_ne 18 dX12_image_12 rfl rfl hf (fun c hf => ?_) (fun c hf => ?_)
  · refine zW_bipush dX12_image_15 rfl ?_
    exact zR_i hw rfl dX12_image_17 hf
  · refine zW_iconst dX12_image_18 ?_
    refine zW_istore_n (lv' := [(2, vi 0), (0, .ref (zad X (50, 0, 0))), (1, vi v1)]) dX12_image_19 rfl rfl ?_
    refine zW_sub [1, 2, 0] rfl ?_
    refine tX12_image_l20 hw o (s0 := (0, I1)) hf (fun x6 hf => ?_)
    refine zW_aload_n 0 dX12_image_53 rfl ?_
    refine zW_getR (q' := (53, 0, 0)) lk_RX12_20 (hw.1 _ o) rfl rfl (hw.2.1 _ _ _ o rfl) dX12_image_54 ?_
    refine zW_iload_n 1 dX12_image_57 rfl ?_
    refine zW_iconst dX12_image_58 ?_
    obtain ⟨c7, hf⟩ := zgd hf
    refine zF_zast (hw.1 _ (zokM (r' := 53) o rfl rfl)) rfl c7 rfl (Or.inr rfl) dX12_image_59 hf (fun I8 hf => ?_)
    refine zW_iconst dX12_image_60 ?_
    exact zR_i hw rfl dX12_image_61 hf
theorem kX12_image {X : zX} {e : Nat → Prop} (hw : zWf X e) {v1 : Int} (o : zOk e (50, 0, 0)) {I : zMem} {u : (Int × zMem)} (hf : fX12_image v1 I = some u) : zCn X mX12_image yX12_image [.ref (zad X (50, 0, 0)), vi v1] I (some (vi u.1), u.2) := zCn_of (by decide +kernel) rfl rfl ⟨rfl, rfl⟩ (tX12_image_0 hw.N o hf)
set_option maxRecDepth 100000 in
theorem tX12_restore_l32_y {X : zX} {e : Nat → Prop} (hw : zWf X e) {T : zT} {v1 : Int} (o : zOk e (50, 0, 0)) (s : (Int × zMem)) {u : ((Int × zMem) ⊕ (Int × zMem))} (hf : fX12_restore_l32 v1 s = some u) (hk : ∀ s', u = .inl s' → zW X T mX12_restore 32 [(0, .ref (zad X (50, 0, 0))), (1, vi v1), (2, vi s'.1)] [] s'.2) (hx : ∀ x, u = .inr x → zW X T mX12_restore 65 [] [] x.2) : zW X T mX12_restore 32 [(0, .ref (zad X (50, 0, 0))), (1, vi v1), (2, vi s.1)] [] s.2 := by
  unfold fX12_restore_l32 at hf
  refine zW_iload_n 2 dX12_restore_32 rfl ?_
  refine zW_sipush dX12_restore_33 rfl ?_
  refine zF_icmp_ge 65 dX12_restore_36 rfl rfl (w32_lit _ rfl) hf (fun c hf => ?_) (fun c hf => ?_)
  · refine zW_sub [] rfl ?_
    exact hx _ (Option.some.inj hf).symm
  · refine zW_aload_n 0 dX12_restore_39 rfl ?_
    refine zW_getR (q' := (51, 0, 0)) lk_RX12_13 (hw.1 _ o) rfl rfl (hw.2.1 _ _ _ o rfl) dX12_restore_40 ?_
    refine zW_iload_n 2 dX12_restore_43 rfl ?_
    refine zW_aload_n 0 dX12_restore_44 rfl ?_
    refine zW_getR (q' := (51, 0, 0)) lk_RX12_13 (hw.1 _ o) rfl rfl (hw.2.1 _ _ _ o rfl) dX12_restore_45 ?_
    refine zW_sipush dX12_restore_48 rfl ?_
    refine zW_iload_n 1 dX12_restore_51 rfl ?_
    refine zW_iconst dX12_restore_52 ?_
    refine zW_iadd dX12_restore_53 ?_
    refine zW_imul dX12_restore_54 ?_
    refine zW_iload_n 2 dX12_restore_55 rfl ?_
    refine zW_iadd dX12_restore_56 ?_
    obtain ⟨c4, hf⟩ := zgd hf
    refine zF_iald (hw.1 _ (zokM (r' := 51) o rfl rfl)) rfl c4 rfl dX12_restore_57 ?_
    obtain ⟨c5, hf⟩ := zgd hf
    refine zF_iast (hw.1 _ (zokM (r' := 51) o rfl rfl)) rfl c5 rfl dX12_restore_58 hf (fun I6 hf => ?_)
    refine zW_iinc 2 (lv' := [(2, vi (s.1 + 1)), (0, .ref (zad X (50, 0, 0))), (1, vi v1)]) dX12_restore_59 rfl rfl rfl ?_
    refine zW_goto 32 dX12_restore_62 rfl ?_
    refine zW_sub [1, 2, 0] rfl ?_
    exact hk _ (Option.some.inj hf).symm
theorem tX12_restore_l32 {X : zX} {e : Nat → Prop} (hw : zWf X e) {T : zT} {v1 : Int} (o : zOk e (50, 0, 0)) {s0 : (Int × zMem)} {α : Type} {F : (Int × zMem) → Option α} {u : α} (hf : zb (zlp (fX12_restore_l32 v1) 5000 s0) F = some u) (kx : ∀ x, F x = some u → zW X T mX12_restore 65 [] [] x.2) : zW X T mX12_restore 32 [(0, .ref (zad X (50, 0, 0))), (1, vi v1), (2, vi s0.1)] [] s0.2 := by
  obtain ⟨x, h, hf⟩ := zb_inv hf
  exact zlp_W (P := fun s => zW X T mX12_restore 32 [(0, .ref (zad X (50, 0, 0))), (1, vi v1), (2, vi s.1)] [] s.2) (E := fun x => zW X T mX12_restore 65 [] [] x.2) (fun s u h hk hx => tX12_restore_l32_y hw o s h hk hx) _ s0 x h (kx x hf)
set_option maxRecDepth 100000 in
theorem tX12_restore_0 {X : zX} {e : Nat → Prop} (hw : zWf X e) {v1 : Int} (o : zOk e (50, 0, 0)) {I : zMem} {u : (Int × zMem)} (hf : fX12_restore v1 I = some u) : zW X (some (vi u.1), u.2) mX12_restore 0 [(0, .ref (zad X (50, 0, 0))), (1, vi v1)] [] I := by
  unfold fX12_restore at hf
  refine zW_aload_n 0 dX12_restore_0 rfl ?_
  refine zW_iconst dX12_restore_1 ?_
  refine zF_put lk_RX12_1 (hw.1 _ o) rfl rfl (zn_int _) dX12_restore_2 hf (fun I1 hf => ?_)
  refine zW_iload_n 1 dX12_restore_5 rfl ?_
  refine zW_i2l dX12_restore_6 ?_
  refine zW_lconst0 dX12_restore_7 ?_
  refine zW_lconst1 dX12_restore_8 ?_
  refine zC_Sri (As := [vl (w32 v1), vl 0, vl 1]) (fun x hx => kX12_within hw (v0 := w32 v1) (v2 := 0) (v4 := 1)  hx) ms_RX12_94 rfl rfl rfl rfl dX12_restore_9 hf (fun r2 hf => ?_)
  refine zF_if_ne 18 dX12_restore_12 rfl rfl hf (fun c hf => ?_) (fun c hf => ?_)
  · refine zW_bipush dX12_restore_15 rfl ?_
    exact zR_i hw rfl dX12_restore_17 hf
  · refine zW_aload_n 0 dX12_restore_18 rfl ?_
    refine zW_getR (q' := (53, 0, 0)) lk_RX12_20 (hw.1 _ o) rfl rfl (hw.2.1 _ _ _ o rfl) dX12_restore_19 ?_
    refine zW_iload_n 1 dX12_restore_22 rfl ?_
    obtain ⟨c3, hf⟩ := zgd hf
    refine zF_zald (hw.1 _ (zokM (r' := 53) o rfl rfl)) rfl c3 rfl dX12_restore_23 ?_
    refine zF_if_ne 30 dX12_restore_24 rfl rfl hf (fun c hf => ?_) (fun c hf => ?_)
    · refine zW_bipush dX12_restore_27 rfl ?_
      exact zR_i hw rfl dX12_restore_29 hf
    · refine zW_iconst dX12_restore_30 ?_
      refine zW_istore_n (lv' := [(2, vi 0), (0, .ref (zad X (50, 0, 0))), (1, vi v1)]) dX12_restore_31 rfl rfl ?_
      refine zW_sub [1, 2, 0] rfl ?_
      refine tX12_restore_l32 hw o (s0 := (0, I1)) hf (fun x7 hf => ?_)
      refine zW_iconst dX12_restore_65 ?_
      exact zR_i hw rfl dX12_restore_66 hf
theorem kX12_restore {X : zX} {e : Nat → Prop} (hw : zWf X e) {v1 : Int} (o : zOk e (50, 0, 0)) {I : zMem} {u : (Int × zMem)} (hf : fX12_restore v1 I = some u) : zCn X mX12_restore yX12_restore [.ref (zad X (50, 0, 0)), vi v1] I (some (vi u.1), u.2) := zCn_of (by decide +kernel) rfl rfl ⟨rfl, rfl⟩ (tX12_restore_0 hw.N o hf)
set_option maxRecDepth 100000 in
theorem tX12_manyStored_b4_29 {X : zX} {e : Nat → Prop} (hw : zWf X e) {T : zT} {I : zMem} {w2 : Int} {k0 : Int} {k1 : Int} (o : zOk e (50, 0, 0)) {u : ((Int × Int) ⊕ (Int × Int))} (hf : fX12_manyStored_b4_29 I w2 k0 k1 = some u) (hk : ∀ s', u = .inl s' → zW X T mX12_manyStored 4 [(0, .ref (zad X (50, 0, 0))), (1, vi s'.1), (2, vi s'.2)] [] I) (hx : ∀ x, u = .inr x → zW X T mX12_manyStored 37 [(1, vi x.1)] [] I) : zW X T mX12_manyStored 29 [(0, .ref (zad X (50, 0, 0))), (2, vi w2)] [vi k0, vi k1] I := by
  unfold fX12_manyStored_b4_29 at hf
  refine zW_iadd dX12_manyStored_29 ?_
  refine zF_istore_n (lv' := fun a2 => [(1, vi a2), (0, .ref (zad X (50, 0, 0))), (2, vi w2)]) dX12_manyStored_30 hf (fun _ => rfl) rfl (fun a2 hf => ?_)
  refine zW_iinc 2 (lv' := [(2, vi (w2 + 1)), (1, vi a2), (0, .ref (zad X (50, 0, 0)))]) dX12_manyStored_31 rfl rfl rfl ?_
  refine zW_goto 4 dX12_manyStored_34 rfl ?_
  refine zW_sub [2, 1, 0] rfl ?_
  exact hk _ (Option.some.inj hf).symm
set_option maxRecDepth 100000 in
theorem tX12_manyStored_l4_y {X : zX} {e : Nat → Prop} (hw : zWf X e) {T : zT} {I : zMem} (o : zOk e (50, 0, 0)) (s : (Int × Int)) {u : ((Int × Int) ⊕ (Int × Int))} (hf : fX12_manyStored_l4 I s = some u) (hk : ∀ s', u = .inl s' → zW X T mX12_manyStored 4 [(0, .ref (zad X (50, 0, 0))), (1, vi s'.1), (2, vi s'.2)] [] I) (hx : ∀ x, u = .inr x → zW X T mX12_manyStored 37 [(1, vi x.1)] [] I) : zW X T mX12_manyStored 4 [(0, .ref (zad X (50, 0, 0))), (1, vi s.1), (2, vi s.2)] [] I := by
  unfold fX12_manyStored_l4 at hf
  refine zW_iload_n 2 dX12_manyStored_4 rfl ?_
  refine zW_bipush dX12_manyStored_5 rfl ?_
  refine zF_icmp_ge 37 dX12_manyStored_7 rfl rfl (w32_lit _ rfl) hf (fun c hf => ?_) (fun c hf => ?_)
  · refine zW_sub [1] rfl ?_
    exact hx _ (Option.some.inj hf).symm
  · refine zW_iload_n 1 dX12_manyStored_10 rfl ?_
    refine zW_aload_n 0 dX12_manyStored_11 rfl ?_
    refine zW_getR (q' := (51, 0, 0)) lk_RX12_13 (hw.1 _ o) rfl rfl (hw.2.1 _ _ _ o rfl) dX12_manyStored_12 ?_
    refine zW_bipush dX12_manyStored_15 rfl ?_
    refine zW_iload_n 2 dX12_manyStored_17 rfl ?_
    refine zW_iadd dX12_manyStored_18 ?_
    obtain ⟨c1, hf⟩ := zgd hf
    refine zF_iald (hw.1 _ (zokM (r' := 51) o rfl rfl)) rfl c1 rfl dX12_manyStored_19 ?_
    refine zW_iconst dX12_manyStored_20 ?_
    refine zF_icmp_ne 28 dX12_manyStored_21 rfl rfl (w32_lit _ rfl) hf (fun c hf => ?_) (fun c hf => ?_)
    · refine zW_iconst dX12_manyStored_24 ?_
      refine zW_goto 29 dX12_manyStored_25 rfl ?_
      refine zW_sub [0, 2] rfl ?_
      exact tX12_manyStored_b4_29 hw o hf hk hx
    · refine zW_iconst dX12_manyStored_28 ?_
      refine zW_sub [0, 2] rfl ?_
      exact tX12_manyStored_b4_29 hw o hf hk hx
theorem tX12_manyStored_l4 {X : zX} {e : Nat → Prop} (hw : zWf X e) {T : zT} {I : zMem} (o : zOk e (50, 0, 0)) {s0 : (Int × Int)} {α : Type} {F : (Int × Int) → Option α} {u : α} (hf : zb (zlp (fX12_manyStored_l4 I) 5000 s0) F = some u) (kx : ∀ x, F x = some u → zW X T mX12_manyStored 37 [(1, vi x.1)] [] I) : zW X T mX12_manyStored 4 [(0, .ref (zad X (50, 0, 0))), (1, vi s0.1), (2, vi s0.2)] [] I := by
  obtain ⟨x, h, hf⟩ := zb_inv hf
  exact zlp_W (P := fun s => zW X T mX12_manyStored 4 [(0, .ref (zad X (50, 0, 0))), (1, vi s.1), (2, vi s.2)] [] I) (E := fun x => zW X T mX12_manyStored 37 [(1, vi x.1)] [] I) (fun s u h hk hx => tX12_manyStored_l4_y hw o s h hk hx) _ s0 x h (kx x hf)
set_option maxRecDepth 100000 in
theorem tX12_manyStored_0 {X : zX} {e : Nat → Prop} (hw : zWf X e)  (o : zOk e (50, 0, 0)) {I : zMem} {u : Int} (hf : fX12_manyStored  I = some u) : zW X (some (vi u), I) mX12_manyStored 0 [(0, .ref (zad X (50, 0, 0)))] [] I := by
  unfold fX12_manyStored at hf
  refine zW_iconst dX12_manyStored_0 ?_
  refine zW_istore_n (lv' := [(1, vi 0), (0, .ref (zad X (50, 0, 0)))]) dX12_manyStored_1 rfl rfl ?_
  refine zW_iconst dX12_manyStored_2 ?_
  refine zW_istore_n (lv' := [(2, vi 0), (1, vi 0), (0, .ref (zad X (50, 0, 0)))]) dX12_manyStored_3 rfl rfl ?_
  refine zW_sub [2, 1, 0] rfl ?_
  refine tX12_manyStored_l4 hw o (s0 := (0, 0)) hf (fun x3 hf => ?_)
  refine zW_iload_n 0 dX12_manyStored_37 rfl ?_
  exact zS_i hw rfl dX12_manyStored_38 hf
theorem kX12_manyStored {X : zX} {e : Nat → Prop} (hw : zWf X e)  (o : zOk e (50, 0, 0)) {I : zMem} {u : Int} (hf : fX12_manyStored  I = some u) : zCn X mX12_manyStored yX12_manyStored [.ref (zad X (50, 0, 0))] I (some (vi u), I) := zCn_of (by decide +kernel) rfl rfl ⟨rfl, rfl⟩ (tX12_manyStored_0 hw.N o hf)
set_option maxRecDepth 100000 in
theorem tX12_count_0 {X : zX} {e : Nat → Prop} (hw : zWf X e) {v1 : Int} (o : zOk e (50, 0, 0)) {I : zMem} {u : (Int × zMem)} (hf : fX12_count v1 I = some u) : zW X (some (vi u.1), u.2) mX12_count 0 [(0, .ref (zad X (50, 0, 0))), (1, vi v1)] [] I := by
  unfold fX12_count at hf
  refine zW_aload_n 0 dX12_count_0 rfl ?_
  refine zW_iconst dX12_count_1 ?_
  refine zF_put lk_RX12_1 (hw.1 _ o) rfl rfl (zn_int _) dX12_count_2 hf (fun I1 hf => ?_)
  refine zW_iload_n 1 dX12_count_5 rfl ?_
  rcases zif hf with ⟨ts0, hf⟩ | ⟨ts0, hf⟩
  · refine zW_tab 0 100 dX12_count_6 (by rw [ts0]; rfl) rfl rfl rfl ?_
    refine zW_aload_n 0 dX12_count_100 rfl ?_
    refine zW_getR (q' := (51, 0, 0)) lk_RX12_13 (hw.1 _ o) rfl rfl (hw.2.1 _ _ _ o rfl) dX12_count_101 ?_
    refine zW_bipush dX12_count_104 rfl ?_
    refine zF_iald (hw.1 _ (zokM (r' := 51) o rfl rfl)) rfl (zin_lit _ _ rfl) (ix_lit _ rfl) dX12_count_106 ?_
    exact zR_i hw rfl dX12_count_107 hf
  · rcases zif hf with ⟨ts1, hf⟩ | ⟨ts1, hf⟩
    · refine zW_tab 1 108 dX12_count_6 (by rw [ts1]; rfl) rfl rfl rfl ?_
      refine zW_aload_n 0 dX12_count_108 rfl ?_
      refine zW_getR (q' := (51, 0, 0)) lk_RX12_13 (hw.1 _ o) rfl rfl (hw.2.1 _ _ _ o rfl) dX12_count_109 ?_
      refine zW_bipush dX12_count_112 rfl ?_
      refine zF_iald (hw.1 _ (zokM (r' := 51) o rfl rfl)) rfl (zin_lit _ _ rfl) (ix_lit _ rfl) dX12_count_114 ?_
      exact zR_i hw rfl dX12_count_115 hf
    · rcases zif hf with ⟨ts2, hf⟩ | ⟨ts2, hf⟩
      · refine zW_tab 2 116 dX12_count_6 (by rw [ts2]; rfl) rfl rfl rfl ?_
        refine zW_aload_n 0 dX12_count_116 rfl ?_
        refine zW_getR (q' := (51, 0, 0)) lk_RX12_13 (hw.1 _ o) rfl rfl (hw.2.1 _ _ _ o rfl) dX12_count_117 ?_
        refine zW_bipush dX12_count_120 rfl ?_
        refine zF_iald (hw.1 _ (zokM (r' := 51) o rfl rfl)) rfl (zin_lit _ _ rfl) (ix_lit _ rfl) dX12_count_122 ?_
        exact zR_i hw rfl dX12_count_123 hf
      · rcases zif hf with ⟨ts3, hf⟩ | ⟨ts3, hf⟩
        · refine zW_tab 3 124 dX12_count_6 (by rw [ts3]; rfl) rfl rfl rfl ?_
          refine zW_aload_n 0 dX12_count_124 rfl ?_
          refine zW_getR (q' := (51, 0, 0)) lk_RX12_13 (hw.1 _ o) rfl rfl (hw.2.1 _ _ _ o rfl) dX12_count_125 ?_
          refine zW_bipush dX12_count_128 rfl ?_
          refine zF_iald (hw.1 _ (zokM (r' := 51) o rfl rfl)) rfl (zin_lit _ _ rfl) (ix_lit _ rfl) dX12_count_130 ?_
          exact zR_i hw rfl dX12_count_131 hf
        · rcases zif hf with ⟨ts4, hf⟩ | ⟨ts4, hf⟩
          · refine zW_tab 4 132 dX12_count_6 (by rw [ts4]; rfl) rfl rfl rfl ?_
            refine zW_aload_n 0 dX12_count_132 rfl ?_
            refine zW_getR (q' := (51, 0, 0)) lk_RX12_13 (hw.1 _ o) rfl rfl (hw.2.1 _ _ _ o rfl) dX12_count_133 ?_
            refine zW_bipush dX12_count_136 rfl ?_
            refine zF_iald (hw.1 _ (zokM (r' := 51) o rfl rfl)) rfl (zin_lit _ _ rfl) (ix_lit _ rfl) dX12_count_138 ?_
            exact zR_i hw rfl dX12_count_139 hf
          · rcases zif hf with ⟨ts5, hf⟩ | ⟨ts5, hf⟩
            · refine zW_tab 5 140 dX12_count_6 (by rw [ts5]; rfl) rfl rfl rfl ?_
              refine zW_aload_n 0 dX12_count_140 rfl ?_
              refine zC_Vri (As := []) (fun x hx => kX12_manyStored hw o hx) mv_RX12_306 (hw.1 _ o) rfl rfl rfl rfl rfl dX12_count_141 hf (fun r2 hf => ?_)
              exact zR_i hw rfl dX12_count_144 hf
            · rcases zif hf with ⟨ts6, hf⟩ | ⟨ts6, hf⟩
              · refine zW_tab 6 145 dX12_count_6 (by rw [ts6]; rfl) rfl rfl rfl ?_
                refine zW_aload_n 0 dX12_count_145 rfl ?_
                refine zW_getR (q' := (51, 0, 0)) lk_RX12_13 (hw.1 _ o) rfl rfl (hw.2.1 _ _ _ o rfl) dX12_count_146 ?_
                refine zW_bipush dX12_count_149 rfl ?_
                refine zF_iald (hw.1 _ (zokM (r' := 51) o rfl rfl)) rfl (zin_lit _ _ rfl) (ix_lit _ rfl) dX12_count_151 ?_
                exact zR_i hw rfl dX12_count_152 hf
              · rcases zif hf with ⟨ts7, hf⟩ | ⟨ts7, hf⟩
                · refine zW_tab 7 153 dX12_count_6 (by rw [ts7]; rfl) rfl rfl rfl ?_
                  refine zW_aload_n 0 dX12_count_153 rfl ?_
                  refine zW_getR (q' := (51, 0, 0)) lk_RX12_13 (hw.1 _ o) rfl rfl (hw.2.1 _ _ _ o rfl) dX12_count_154 ?_
                  refine zW_bipush dX12_count_157 rfl ?_
                  refine zF_iald (hw.1 _ (zokM (r' := 51) o rfl rfl)) rfl (zin_lit _ _ rfl) (ix_lit _ rfl) dX12_count_159 ?_
                  exact zR_i hw rfl dX12_count_160 hf
                · rcases zif hf with ⟨ts8, hf⟩ | ⟨ts8, hf⟩
                  · refine zW_tab 8 161 dX12_count_6 (by rw [ts8]; rfl) rfl rfl rfl ?_
                    refine zW_aload_n 0 dX12_count_161 rfl ?_
                    refine zW_getR (q' := (51, 0, 0)) lk_RX12_13 (hw.1 _ o) rfl rfl (hw.2.1 _ _ _ o rfl) dX12_count_162 ?_
                    refine zW_bipush dX12_count_165 rfl ?_
                    refine zF_iald (hw.1 _ (zokM (r' := 51) o rfl rfl)) rfl (zin_lit _ _ rfl) (ix_lit _ rfl) dX12_count_167 ?_
                    exact zR_i hw rfl dX12_count_168 hf
                  · rcases zif hf with ⟨ts9, hf⟩ | ⟨ts9, hf⟩
                    · refine zW_tab 9 169 dX12_count_6 (by rw [ts9]; rfl) rfl rfl rfl ?_
                      refine zW_aload_n 0 dX12_count_169 rfl ?_
                      refine zW_getR (q' := (51, 0, 0)) lk_RX12_13 (hw.1 _ o) rfl rfl (hw.2.1 _ _ _ o rfl) dX12_count_170 ?_
                      refine zW_bipush dX12_count_173 rfl ?_
                      refine zF_iald (hw.1 _ (zokM (r' := 51) o rfl rfl)) rfl (zin_lit _ _ rfl) (ix_lit _ rfl) dX12_count_175 ?_
                      exact zR_i hw rfl dX12_count_176 hf
                    · rcases zif hf with ⟨ts10, hf⟩ | ⟨ts10, hf⟩
                      · refine zW_tab 10 177 dX12_count_6 (by rw [ts10]; rfl) rfl rfl rfl ?_
                        refine zW_aload_n 0 dX12_count_177 rfl ?_
                        refine zW_getR (q' := (51, 0, 0)) lk_RX12_13 (hw.1 _ o) rfl rfl (hw.2.1 _ _ _ o rfl) dX12_count_178 ?_
                        refine zW_bipush dX12_count_181 rfl ?_
                        refine zF_iald (hw.1 _ (zokM (r' := 51) o rfl rfl)) rfl (zin_lit _ _ rfl) (ix_lit _ rfl) dX12_count_183 ?_
                        exact zR_i hw rfl dX12_count_184 hf
                      · rcases zif hf with ⟨ts11, hf⟩ | ⟨ts11, hf⟩
                        · refine zW_tab 11 185 dX12_count_6 (by rw [ts11]; rfl) rfl rfl rfl ?_
                          refine zW_aload_n 0 dX12_count_185 rfl ?_
                          refine zW_getR (q' := (51, 0, 0)) lk_RX12_13 (hw.1 _ o) rfl rfl (hw.2.1 _ _ _ o rfl) dX12_count_186 ?_
                          refine zW_bipush dX12_count_189 rfl ?_
                          refine zF_iald (hw.1 _ (zokM (r' := 51) o rfl rfl)) rfl (zin_lit _ _ rfl) (ix_lit _ rfl) dX12_count_191 ?_
                          exact zR_i hw rfl dX12_count_192 hf
                        · rcases zif hf with ⟨ts12, hf⟩ | ⟨ts12, hf⟩
                          · refine zW_tab 12 193 dX12_count_6 (by rw [ts12]; rfl) rfl rfl rfl ?_
                            refine zW_aload_n 0 dX12_count_193 rfl ?_
                            refine zW_getR (q' := (51, 0, 0)) lk_RX12_13 (hw.1 _ o) rfl rfl (hw.2.1 _ _ _ o rfl) dX12_count_194 ?_
                            refine zW_bipush dX12_count_197 rfl ?_
                            refine zF_iald (hw.1 _ (zokM (r' := 51) o rfl rfl)) rfl (zin_lit _ _ rfl) (ix_lit _ rfl) dX12_count_199 ?_
                            exact zR_i hw rfl dX12_count_200 hf
                          · rcases zif hf with ⟨ts13, hf⟩ | ⟨ts13, hf⟩
                            · refine zW_tab 13 201 dX12_count_6 (by rw [ts13]; rfl) rfl rfl rfl ?_
                              refine zW_aload_n 0 dX12_count_201 rfl ?_
                              refine zW_getR (q' := (51, 0, 0)) lk_RX12_13 (hw.1 _ o) rfl rfl (hw.2.1 _ _ _ o rfl) dX12_count_202 ?_
                              refine zW_bipush dX12_count_205 rfl ?_
                              refine zF_iald (hw.1 _ (zokM (r' := 51) o rfl rfl)) rfl (zin_lit _ _ rfl) (ix_lit _ rfl) dX12_count_207 ?_
                              exact zR_i hw rfl dX12_count_208 hf
                            · rcases zif hf with ⟨ts14, hf⟩ | ⟨ts14, hf⟩
                              · refine zW_tab 14 209 dX12_count_6 (by rw [ts14]; rfl) rfl rfl rfl ?_
                                refine zW_aload_n 0 dX12_count_209 rfl ?_
                                refine zW_getR (q' := (51, 0, 0)) lk_RX12_13 (hw.1 _ o) rfl rfl (hw.2.1 _ _ _ o rfl) dX12_count_210 ?_
                                refine zW_bipush dX12_count_213 rfl ?_
                                refine zF_iald (hw.1 _ (zokM (r' := 51) o rfl rfl)) rfl (zin_lit _ _ rfl) (ix_lit _ rfl) dX12_count_215 ?_
                                exact zR_i hw rfl dX12_count_216 hf
                              · rcases zif hf with ⟨ts15, hf⟩ | ⟨ts15, hf⟩
                                · refine zW_tab 15 217 dX12_count_6 (by rw [ts15]; rfl) rfl rfl rfl ?_
                                  refine zW_aload_n 0 dX12_count_217 rfl ?_
                                  refine zW_getR (q' := (51, 0, 0)) lk_RX12_13 (hw.1 _ o) rfl rfl (hw.2.1 _ _ _ o rfl) dX12_count_218 ?_
                                  refine zW_iconst dX12_count_221 ?_
                                  refine zF_iald (hw.1 _ (zokM (r' := 51) o rfl rfl)) rfl (zin_lit _ _ rfl) (ix_lit _ rfl) dX12_count_222 ?_
                                  exact zR_i hw rfl dX12_count_223 hf
                                · rcases zif hf with ⟨ts16, hf⟩ | ⟨ts16, hf⟩
                                  · refine zW_tab 16 224 dX12_count_6 (by rw [ts16]; rfl) rfl rfl rfl ?_
                                    refine zW_aload_n 0 dX12_count_224 rfl ?_
                                    refine zW_getR (q' := (51, 0, 0)) lk_RX12_13 (hw.1 _ o) rfl rfl (hw.2.1 _ _ _ o rfl) dX12_count_225 ?_
                                    refine zW_iconst dX12_count_228 ?_
                                    refine zF_iald (hw.1 _ (zokM (r' := 51) o rfl rfl)) rfl (zin_lit _ _ rfl) (ix_lit _ rfl) dX12_count_229 ?_
                                    exact zR_i hw rfl dX12_count_230 hf
                                  · rcases zif hf with ⟨ts17, hf⟩ | ⟨ts17, hf⟩
                                    · refine zW_tab 17 231 dX12_count_6 (by rw [ts17]; rfl) rfl rfl rfl ?_
                                      refine zW_aload_n 0 dX12_count_231 rfl ?_
                                      refine zW_getR (q' := (51, 0, 0)) lk_RX12_13 (hw.1 _ o) rfl rfl (hw.2.1 _ _ _ o rfl) dX12_count_232 ?_
                                      refine zW_iconst dX12_count_235 ?_
                                      refine zF_iald (hw.1 _ (zokM (r' := 51) o rfl rfl)) rfl (zin_lit _ _ rfl) (ix_lit _ rfl) dX12_count_236 ?_
                                      exact zR_i hw rfl dX12_count_237 hf
                                    · rcases zif hf with ⟨ts18, hf⟩ | ⟨ts18, hf⟩
                                      · refine zW_tab 18 238 dX12_count_6 (by rw [ts18]; rfl) rfl rfl rfl ?_
                                        refine zW_aload_n 0 dX12_count_238 rfl ?_
                                        refine zW_getR (q' := (51, 0, 0)) lk_RX12_13 (hw.1 _ o) rfl rfl (hw.2.1 _ _ _ o rfl) dX12_count_239 ?_
                                        refine zW_iconst dX12_count_242 ?_
                                        refine zF_iald (hw.1 _ (zokM (r' := 51) o rfl rfl)) rfl (zin_lit _ _ rfl) (ix_lit _ rfl) dX12_count_243 ?_
                                        exact zR_i hw rfl dX12_count_244 hf
                                      · rcases zif hf with ⟨ts19, hf⟩ | ⟨ts19, hf⟩
                                        · refine zW_tab 19 245 dX12_count_6 (by rw [ts19]; rfl) rfl rfl rfl ?_
                                          refine zW_aload_n 0 dX12_count_245 rfl ?_
                                          refine zW_getR (q' := (51, 0, 0)) lk_RX12_13 (hw.1 _ o) rfl rfl (hw.2.1 _ _ _ o rfl) dX12_count_246 ?_
                                          refine zW_bipush dX12_count_249 rfl ?_
                                          refine zF_iald (hw.1 _ (zokM (r' := 51) o rfl rfl)) rfl (zin_lit _ _ rfl) (ix_lit _ rfl) dX12_count_251 ?_
                                          exact zR_i hw rfl dX12_count_252 hf
                                        · refine zW_tabd 253 dX12_count_6 (by omega) rfl ?_
                                          refine zW_iconst dX12_count_253 ?_
                                          exact zR_i hw rfl dX12_count_254 hf
theorem kX12_count {X : zX} {e : Nat → Prop} (hw : zWf X e) {v1 : Int} (o : zOk e (50, 0, 0)) {I : zMem} {u : (Int × zMem)} (hf : fX12_count v1 I = some u) : zCn X mX12_count yX12_count [.ref (zad X (50, 0, 0)), vi v1] I (some (vi u.1), u.2) := zCn_of (by decide +kernel) rfl rfl ⟨rfl, rfl⟩ (tX12_count_0 hw.N o hf)
