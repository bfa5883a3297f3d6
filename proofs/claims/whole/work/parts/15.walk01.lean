set_option maxRecDepth 100000 in
theorem tX7_howManyKept_0 {X : zX} {e : Nat → Prop} (hw : zWf X e) {L : Nat} (o : zOk e (8, L, 0)) {I : zMem} {u : Int} (hf : fX7_howManyKept L I = some u) : zW X (some (vi u), I) mX7_howManyKept 0 [(0, .ref (zad X (8, L, 0)))] [] I := by
  unfold fX7_howManyKept at hf
  refine zW_aload_n 0 dX7_howManyKept_0 rfl ?_
  refine zW_getI lk_RX7_41 (hw.1 _ o) rfl rfl dX7_howManyKept_1 ?_
  refine zW_aload_n 0 dX7_howManyKept_4 rfl ?_
  refine zW_getI lk_RX7_44 (hw.1 _ o) rfl rfl dX7_howManyKept_5 ?_
  refine zW_isub dX7_howManyKept_8 ?_
  refine zW_bipush dX7_howManyKept_9 rfl ?_
  refine zW_iand_7 dX7_howManyKept_11 ?_
  exact zS_i hw rfl dX7_howManyKept_12 hf
theorem kX7_howManyKept {X : zX} {e : Nat → Prop} (hw : zWf X e) {L : Nat} (o : zOk e (8, L, 0)) {I : zMem} {u : Int} (hf : fX7_howManyKept L I = some u) : zCn X mX7_howManyKept yX7_howManyKept [.ref (zad X (8, L, 0))] I (some (vi u), I) := zCn_of (by decide +kernel) rfl rfl ⟨rfl, rfl⟩ (tX7_howManyKept_0 hw.N o hf)
set_option maxRecDepth 100000 in
theorem tX7_isAble_b46 {X : zX} {e : Nat → Prop} (hw : zWf X e) {L : Nat} {v1 : Int} {v2 : Int} {I : zMem} (o : zOk e (8, L, 0)) {u : Int} (hf : fX7_isAble_b46 L v1 v2 I = some u) : zW X (some (vi u), I) mX7_isAble 46 [] [] I := by
  unfold fX7_isAble_b46 at hf
  refine zW_iconst dX7_isAble_46 ?_
  refine zW_goto 51 dX7_isAble_47 rfl ?_
  exact zS_z hw rfl (Or.inr rfl) dX7_isAble_51 hf
set_option maxRecDepth 100000 in
theorem tX7_isAble_b50 {X : zX} {e : Nat → Prop} (hw : zWf X e) {L : Nat} {v1 : Int} {v2 : Int} {I : zMem} (o : zOk e (8, L, 0)) {u : Int} (hf : fX7_isAble_b50 L v1 v2 I = some u) : zW X (some (vi u), I) mX7_isAble 50 [] [] I := by
  unfold fX7_isAble_b50 at hf
  refine zW_iconst dX7_isAble_50 ?_
  exact zS_z hw rfl (Or.inl rfl) dX7_isAble_51 hf
set_option maxRecDepth 100000 in
theorem tX7_isAble_0 {X : zX} {e : Nat → Prop} (hw : zWf X e) {L : Nat} {v1 : Int} {v2 : Int} (o : zOk e (8, L, 0)) {I : zMem} {u : Int} (hf : fX7_isAble L v1 v2 I = some u) : zW X (some (vi u), I) mX7_isAble 0 [(0, .ref (zad X (8, L, 0))), (1, vi v1), (2, vi v2)] [] I := by
  unfold fX7_isAble at hf
  refine zW_aload_n 0 dX7_isAble_0 rfl ?_
  refine zW_getR (q' := (32, L, 0)) lk_RX7_11 (hw.1 _ o) rfl rfl (hw.2.1 _ _ _ o rfl) dX7_isAble_1 ?_
  refine zW_iload_n 1 dX7_isAble_4 rfl ?_
  obtain ⟨c1, hf⟩ := zgd hf
  refine zW_aald (q' := (10, L, ix v1)) 6 rfl rfl (hw.1 _ (zokB (r' := 32) o rfl rfl)) rfl rfl c1 (hw.2.1 _ _ _ (zokB (r' := 32) o rfl rfl) rfl) dX7_isAble_5 ?_
  refine zW_astore_n (lv' := [(3, .ref (zad X (10, L, ix v1))), (0, .ref (zad X (8, L, 0))), (1, vi v1), (2, vi v2)]) dX7_isAble_6 rfl rfl ?_
  refine zW_aload_n 0 dX7_isAble_7 rfl ?_
  refine zW_getI lk_RX7_67 (hw.1 _ (zokE (r' := 10) (zokB (r' := 32) o rfl rfl) rfl rfl c1)) rfl rfl dX7_isAble_8 ?_
  refine zF_if_eq 16 dX7_isAble_11 rfl rfl hf (fun c hf => ?_) (fun c hf => ?_)
  · refine zW_aload_n 0 dX7_isAble_16 rfl ?_
    refine zW_getI lk_RX7_71 (hw.1 _ (zokE (r' := 10) (zokB (r' := 32) o rfl rfl) rfl rfl c1)) rfl rfl dX7_isAble_17 ?_
    refine zW_iconst dX7_isAble_20 ?_
    refine zF_icmp_ne 46 dX7_isAble_21 rfl rfl (w32_lit _ rfl) hf (fun c hf => ?_) (fun c hf => ?_)
    · refine zW_aload_n 1 dX7_isAble_24 rfl ?_
      refine zW_getI lk_RX7_38 (hw.1 _ o) rfl rfl dX7_isAble_25 ?_
      refine zF_if_gt 46 dX7_isAble_28 rfl rfl hf (fun c hf => ?_) (fun c hf => ?_)
      · refine zW_sub [] rfl ?_
        exact tX7_isAble_b46 hw o hf
      · refine zW_aload_n 1 dX7_isAble_31 rfl ?_
        refine zW_getI lk_RX7_34 (hw.1 _ o) rfl rfl dX7_isAble_32 ?_
        refine zF_if_le 50 dX7_isAble_35 rfl rfl hf (fun c hf => ?_) (fun c hf => ?_)
        · refine zW_sub [] rfl ?_
          exact tX7_isAble_b50 hw o hf
        · refine zW_aload_n 1 dX7_isAble_38 rfl ?_
          refine zC_Vri (As := []) (fun x hx => kX7_howManyKept hw (L := L) o hx) mv_RX7_63 (hw.1 _ o) rfl rfl rfl rfl rfl dX7_isAble_39 hf (fun r2 hf => ?_)
          refine zW_iload_n 3 dX7_isAble_42 rfl ?_
          refine zF_icmp_ge 50 dX7_isAble_43 rfl rfl rfl hf (fun c hf => ?_) (fun c hf => ?_)
          · refine zW_sub [] rfl ?_
            exact tX7_isAble_b50 hw o hf
          · refine zW_sub [] rfl ?_
            exact tX7_isAble_b46 hw o hf
    · refine zW_sub [] rfl ?_
      exact tX7_isAble_b46 hw o hf
  · refine zW_iconst dX7_isAble_14 ?_
    exact zS_z hw rfl (Or.inl rfl) dX7_isAble_15 hf
theorem kX7_isAble {X : zX} {e : Nat → Prop} (hw : zWf X e) {L : Nat} {v1 : Int} {v2 : Int} (o : zOk e (8, L, 0)) {I : zMem} {u : Int} (hf : fX7_isAble L v1 v2 I = some u) : zCn X mX7_isAble yX7_isAble [.ref (zad X (8, L, 0)), vi v1, vi v2] I (some (vi u), I) := zCn_of (by decide +kernel) rfl rfl ⟨rfl, rfl⟩ (tX7_isAble_0 hw.N o hf)
set_option maxRecDepth 100000 in
theorem tX5_passTime_l31_y {X : zX} {e : Nat → Prop} (hw : zWf X e) {T : zT} {L : Nat} {v1 : Int} (o : zOk e (9, L, 0)) (s : (Int × zMem)) {u : ((Int × zMem) ⊕ (Int × zMem))} (hf : fX5_passTime_l31 L v1 s = some u) (hk : ∀ s', u = .inl s' → zW X T mX5_passTime 31 [(0, .ref (zad X (9, L, 0))), (1, vi v1), (2, vi s'.1)] [] s'.2) (hx : ∀ x, u = .inr x → zW X T mX5_passTime 45 [(0, .ref (zad X (9, L, 0))), (1, vi v1)] [] x.2) : zW X T mX5_passTime 31 [(0, .ref (zad X (9, L, 0))), (1, vi v1), (2, vi s.1)] [] s.2 := by
  unfold fX5_passTime_l31 at hf
  refine zW_iload_n 2 dX5_passTime_31 rfl ?_
  refine zF_if_le 45 dX5_passTime_32 rfl rfl hf (fun c hf => ?_) (fun c hf => ?_)
  · refine zW_sub [0, 1] rfl ?_
    exact hx _ (Option.some.inj hf).symm
  · refine zW_aload_n 0 dX5_passTime_35 rfl ?_
    refine zC_Vwv (As := []) (fun x hx => kX5_moveOn hw (L := L) o hx) mv_RX5_74 (hw.1 _ o) rfl rfl rfl rfl rfl dX5_passTime_36 hf (fun r3 hf => ?_)
    refine zW_iinc 2 (lv' := [(2, vi (s.1 + (-1))), (0, .ref (zad X (9, L, 0))), (1, vi v1)]) dX5_passTime_39 rfl rfl rfl ?_
    refine zW_goto 31 dX5_passTime_42 rfl ?_
    refine zW_sub [1, 2, 0] rfl ?_
    exact hk _ (Option.some.inj hf).symm
theorem tX5_passTime_l31 {X : zX} {e : Nat → Prop} (hw : zWf X e) {T : zT} {L : Nat} {v1 : Int} (o : zOk e (9, L, 0)) {s0 : (Int × zMem)} {α : Type} {F : (Int × zMem) → Option α} {u : α} (hf : zb (zlp (fX5_passTime_l31 L v1) 5000 s0) F = some u) (kx : ∀ x, F x = some u → zW X T mX5_passTime 45 [(0, .ref (zad X (9, L, 0))), (1, vi v1)] [] x.2) : zW X T mX5_passTime 31 [(0, .ref (zad X (9, L, 0))), (1, vi v1), (2, vi s0.1)] [] s0.2 := by
  obtain ⟨x, h, hf⟩ := zb_inv hf
  exact zlp_W (P := fun s => zW X T mX5_passTime 31 [(0, .ref (zad X (9, L, 0))), (1, vi v1), (2, vi s.1)] [] s.2) (E := fun x => zW X T mX5_passTime 45 [(0, .ref (zad X (9, L, 0))), (1, vi v1)] [] x.2) (fun s u h hk hx => tX5_passTime_l31_y hw o s h hk hx) _ s0 x h (kx x hf)
set_option maxRecDepth 100000 in
theorem tX5_passTime_0 {X : zX} {e : Nat → Prop} (hw : zWf X e) {L : Nat} {v1 : Int} (o : zOk e (9, L, 0)) {I : zMem} {u : zMem} (hf : fX5_passTime L v1 I = some u) : zW X (none, u) mX5_passTime 0 [(0, .ref (zad X (9, L, 0))), (1, vi v1)] [] I := by
  unfold fX5_passTime at hf
  refine zW_aload_n 0 dX5_passTime_0 rfl ?_
  refine zW_getI lk_RX5_39 (hw.1 _ o) rfl rfl dX5_passTime_1 ?_
  refine zF_if_ne 8 dX5_passTime_4 rfl rfl hf (fun c hf => ?_) (fun c hf => ?_)
  · exact zR_v hw rfl dX5_passTime_7 hf
  · refine zW_aload_n 0 dX5_passTime_8 rfl ?_
    refine zW_dup dX5_passTime_9 rfl ?_
    refine zW_getI lk_RX5_39 (hw.1 _ o) rfl rfl dX5_passTime_10 ?_
    refine zW_iconst dX5_passTime_13 ?_
    refine zW_isub dX5_passTime_14 ?_
    refine zF_put lk_RX5_39 (hw.1 _ o) rfl rfl (zn_int _) dX5_passTime_15 hf (fun I1 hf => ?_)
    refine zW_aload_n 0 dX5_passTime_18 rfl ?_
    refine zW_getI lk_RX5_39 (hw.1 _ o) rfl rfl dX5_passTime_19 ?_
    refine zF_if_le 26 dX5_passTime_22 rfl rfl hf (fun c hf => ?_) (fun c hf => ?_)
    · refine zW_aload_n 0 dX5_passTime_26 rfl ?_
      refine zW_getI lk_RX5_42 (hw.1 _ o) rfl rfl dX5_passTime_27 ?_
      refine zF_istore_n (lv' := fun a2 => [(2, vi a2), (0, .ref (zad X (9, L, 0))), (1, vi v1)]) dX5_passTime_30 hf (fun _ => rfl) rfl (fun a2 hf => ?_)
      refine zW_sub [1, 2, 0] rfl ?_
      refine tX5_passTime_l31 hw o (s0 := (a2, I1)) hf (fun x4 hf => ?_)
      refine zW_aload_n 0 dX5_passTime_45 rfl ?_
      refine zW_iload_n 1 dX5_passTime_46 rfl ?_
      refine zC_Vwv (As := [vi v1]) (fun x hx => kX5_settle hw (L := L) (v1 := v1) o hx) mv_RX5_81 (hw.1 _ o) rfl rfl rfl rfl rfl dX5_passTime_47 hf (fun r5 hf => ?_)
      exact zR_v hw rfl dX5_passTime_50 hf
    · exact zR_v hw rfl dX5_passTime_25 hf
theorem kX5_passTime {X : zX} {e : Nat → Prop} (hw : zWf X e) {L : Nat} {v1 : Int} (o : zOk e (9, L, 0)) {I : zMem} {u : zMem} (hf : fX5_passTime L v1 I = some u) : zCn X mX5_passTime yX5_passTime [.ref (zad X (9, L, 0)), vi v1] I (none, u) := zCn_of (by decide +kernel) rfl rfl ⟨rfl, rfl⟩ (tX5_passTime_0 hw.N o hf)
set_option maxRecDepth 100000 in
theorem tX7_isKept_0 {X : zX} {e : Nat → Prop} (hw : zWf X e) {L : Nat} {v1 : Int} (o : zOk e (8, L, 0)) {I : zMem} {u : Int} (hf : fX7_isKept L v1 I = some u) : zW X (some (vi u), I) mX7_isKept 0 [(0, .ref (zad X (8, L, 0))), (1, vi v1)] [] I := by
  unfold fX7_isKept at hf
  refine zW_iload_n 1 dX7_isKept_0 rfl ?_
  refine zW_aload_n 0 dX7_isKept_1 rfl ?_
  refine zW_getI lk_RX7_44 (hw.1 _ o) rfl rfl dX7_isKept_2 ?_
  refine zW_isub dX7_isKept_5 ?_
  refine zW_bipush dX7_isKept_6 rfl ?_
  refine zW_iand_7 dX7_isKept_8 ?_
  refine zW_aload_n 0 dX7_isKept_9 rfl ?_
  refine zC_Vri (As := []) (fun x hx => kX7_howManyKept hw (L := L) o hx) mv_RX7_63 (hw.1 _ o) rfl rfl rfl rfl rfl dX7_isKept_10 hf (fun r1 hf => ?_)
  refine zF_icmp_ge 20 dX7_isKept_13 rfl (w32_emod _ _ rfl) rfl hf (fun c hf => ?_) (fun c hf => ?_)
  · refine zW_iconst dX7_isKept_20 ?_
    exact zS_z hw rfl (Or.inl rfl) dX7_isKept_21 hf
  · refine zW_iconst dX7_isKept_16 ?_
    refine zW_goto 21 dX7_isKept_17 rfl ?_
    exact zS_z hw rfl (Or.inr rfl) dX7_isKept_21 hf
theorem kX7_isKept {X : zX} {e : Nat → Prop} (hw : zWf X e) {L : Nat} {v1 : Int} (o : zOk e (8, L, 0)) {I : zMem} {u : Int} (hf : fX7_isKept L v1 I = some u) : zCn X mX7_isKept yX7_isKept [.ref (zad X (8, L, 0)), vi v1] I (some (vi u), I) := zCn_of (by decide +kernel) rfl rfl ⟨rfl, rfl⟩ (tX7_isKept_0 hw.N o hf)
set_option maxRecDepth 100000 in
theorem tX7_learn_b51_112 {X : zX} {e : Nat → Prop} (hw : zWf X e) {T : zT} {L : Nat} {L2 : Nat} {w3 : Int} {w4 : Int} {I : zMem} (o : zOk e (8, L, 0)) (o2 : zOk e (9, L2, 0)) {u : ((Int × Int × zMem) ⊕ (Int × Int × zMem))} (hf : fX7_learn_b51_112 L L2 w3 w4 I = some u) (hk : ∀ s', u = .inl s' → zW X T mX7_learn 51 [(0, .ref (zad X (8, L, 0))), (1, .ref (zad X (9, L2, 0))), (3, vi s'.1), (4, vi s'.2.1)] [] s'.2.2) (hx : ∀ x, u = .inr x → zW X T mX7_learn 118 [(0, .ref (zad X (8, L, 0))), (1, .ref (zad X (9, L2, 0))), (3, vi x.1)] [] x.2.2) : zW X T mX7_learn 112 [(0, .ref (zad X (8, L, 0))), (1, .ref (zad X (9, L2, 0))), (3, vi w3), (4, vi w4)] [] I := by
  unfold fX7_learn_b51_112 at hf
  refine zW_iinc 3 (lv' := [(4, vi (w4 + 1)), (0, .ref (zad X (8, L, 0))), (1, .ref (zad X (9, L2, 0))), (3, vi w3)]) dX7_learn_112 rfl rfl rfl ?_
  refine zW_goto 51 dX7_learn_115 rfl ?_
  refine zW_sub [1, 2, 3, 0] rfl ?_
  exact hk _ (Option.some.inj hf).symm
set_option maxRecDepth 100000 in
theorem tX7_learn_b51_93 {X : zX} {e : Nat → Prop} (hw : zWf X e) {T : zT} {L : Nat} {L2 : Nat} {w3 : Int} {w4 : Int} {wp5 : Nat} {I : zMem} (o : zOk e (8, L, 0)) (o2 : zOk e (9, L2, 0)) (wo5 : zOk e (10, L, wp5)) {u : ((Int × Int × zMem) ⊕ (Int × Int × zMem))} (hf : fX7_learn_b51_93 L L2 w3 w4 wp5 I = some u) (hk : ∀ s', u = .inl s' → zW X T mX7_learn 51 [(0, .ref (zad X (8, L, 0))), (1, .ref (zad X (9, L2, 0))), (3, vi s'.1), (4, vi s'.2.1)] [] s'.2.2) (hx : ∀ x, u = .inr x → zW X T mX7_learn 118 [(0, .ref (zad X (8, L, 0))), (1, .ref (zad X (9, L2, 0))), (3, vi x.1)] [] x.2.2) : zW X T mX7_learn 93 [(0, .ref (zad X (8, L, 0))), (1, .ref (zad X (9, L2, 0))), (3, vi w3), (4, vi w4), (5, .ref (zad X (10, L, wp5)))] [] I := by
  unfold fX7_learn_b51_93 at hf
  refine zW_aload 4 dX7_learn_93 rfl ?_
  refine zW_getI lk_RX7_71 (hw.1 _ wo5) rfl rfl dX7_learn_95 ?_
  refine zW_iconst dX7_learn_98 ?_
  refine zF_icmp_eq 112 dX7_learn_99 rfl rfl (w32_lit _ rfl) hf (fun c hf => ?_) (fun c hf => ?_)
  · refine zW_sub [0, 1, 2, 3] rfl ?_
    exact tX7_learn_b51_112 hw o o2 hf hk hx
  · refine zW_iload_n 2 dX7_learn_102 rfl ?_
    refine zW_iconst dX7_learn_103 ?_
    refine zW_aload 4 dX7_learn_104 rfl ?_
    refine zW_getI lk_RX7_71 (hw.1 _ wo5) rfl rfl dX7_learn_106 ?_
    refine zW_ishl dX7_learn_109 ?_
    refine zW_ior dX7_learn_110 ?_
    refine zF_istore_n (lv' := fun a6 => [(3, vi a6), (0, .ref (zad X (8, L, 0))), (1, .ref (zad X (9, L2, 0))), (4, vi w4), (5, .ref (zad X (10, L, wp5)))]) dX7_learn_111 hf (fun _ => rfl) rfl (fun a6 hf => ?_)
    refine zW_sub [1, 2, 0, 3] rfl ?_
    exact tX7_learn_b51_112 hw o o2 hf hk hx
set_option maxRecDepth 100000 in
theorem tX7_learn_l51_y {X : zX} {e : Nat → Prop} (hw : zWf X e) {T : zT} {L : Nat} {L2 : Nat} (o : zOk e (8, L, 0)) (o2 : zOk e (9, L2, 0)) (s : (Int × Int × zMem)) {u : ((Int × Int × zMem) ⊕ (Int × Int × zMem))} (hf : fX7_learn_l51 L L2 s = some u) (hk : ∀ s', u = .inl s' → zW X T mX7_learn 51 [(0, .ref (zad X (8, L, 0))), (1, .ref (zad X (9, L2, 0))), (3, vi s'.1), (4, vi s'.2.1)] [] s'.2.2) (hx : ∀ x, u = .inr x → zW X T mX7_learn 118 [(0, .ref (zad X (8, L, 0))), (1, .ref (zad X (9, L2, 0))), (3, vi x.1)] [] x.2.2) : zW X T mX7_learn 51 [(0, .ref (zad X (8, L, 0))), (1, .ref (zad X (9, L2, 0))), (3, vi s.1), (4, vi s.2.1)] [] s.2.2 := by
  unfold fX7_learn_l51 at hf
  refine zW_iload 3 dX7_learn_51 rfl ?_
  refine zW_bipush dX7_learn_53 rfl ?_
  refine zF_icmp_ge 118 dX7_learn_55 rfl rfl (w32_lit _ rfl) hf (fun c hf => ?_) (fun c hf => ?_)
  · refine zW_sub [0, 1, 2] rfl ?_
    exact hx _ (Option.some.inj hf).symm
  · refine zW_aload_n 0 dX7_learn_58 rfl ?_
    refine zW_getR (q' := (32, L, 0)) lk_RX7_11 (hw.1 _ o) rfl rfl (hw.2.1 _ _ _ o rfl) dX7_learn_59 ?_
    refine zW_iload 3 dX7_learn_62 rfl ?_
    obtain ⟨c5, hf⟩ := zgd hf
    refine zW_aald (q' := (10, L, ix s.2.1)) 6 rfl rfl (hw.1 _ (zokB (r' := 32) o rfl rfl)) rfl rfl c5 (hw.2.1 _ _ _ (zokB (r' := 32) o rfl rfl) rfl) dX7_learn_64 ?_
    refine zW_astore (lv' := [(5, .ref (zad X (10, L, ix s.2.1))), (0, .ref (zad X (8, L, 0))), (1, .ref (zad X (9, L2, 0))), (3, vi s.1), (4, vi s.2.1)]) dX7_learn_65 rfl rfl ?_
    refine zW_aload 0 dX7_learn_67 rfl ?_
    refine zW_getI lk_RX7_71 (hw.1 _ (zokE (r' := 10) (zokB (r' := 32) o rfl rfl) rfl rfl c5)) rfl rfl dX7_learn_69 ?_
    refine zW_iconst dX7_learn_72 ?_
    refine zF_icmp_eq 93 dX7_learn_73 rfl rfl (w32_lit _ rfl) hf (fun c hf => ?_) (fun c hf => ?_)
    · refine zW_sub [1, 2, 3, 4, 0] rfl ?_
      exact tX7_learn_b51_93 hw o o2 (zokE (r' := 10) (zokB (r' := 32) o rfl rfl) rfl rfl c5) hf hk hx
    · refine zW_aload_n 1 dX7_learn_76 rfl ?_
      refine zW_aload 0 dX7_learn_77 rfl ?_
      refine zW_getI lk_RX7_71 (hw.1 _ (zokE (r' := 10) (zokB (r' := 32) o rfl rfl) rfl rfl c5)) rfl rfl dX7_learn_79 ?_
      refine zC_Vri (As := [vi (s.2.2 (10, L, ix s.2.1) 0)]) (fun x hx => kX7_isKept hw (L := L) (v1 := s.2.2 (10, L, ix s.2.1) 0) o hx) mv_RX7_100 (hw.1 _ o) rfl rfl rfl rfl rfl dX7_learn_82 hf (fun r7 hf => ?_)
      refine zF_if_ne 93 dX7_learn_85 rfl rfl hf (fun c hf => ?_) (fun c hf => ?_)
      · refine zW_aload 0 dX7_learn_88 rfl ?_
        refine zC_Vwv (As := []) (fun x hx => kX8_letGo hw (L := L) (p := ix s.2.1) (zokE (r' := 10) (zokB (r' := 32) o rfl rfl) rfl rfl c5) hx) mv_RX7_104 (hw.1 _ (zokE (r' := 10) (zokB (r' := 32) o rfl rfl) rfl rfl c5)) rfl rfl rfl rfl rfl dX7_learn_90 hf (fun r8 hf => ?_)
        refine zW_sub [1, 2, 3, 4, 0] rfl ?_
        exact tX7_learn_b51_93 hw o o2 (zokE (r' := 10) (zokB (r' := 32) o rfl rfl) rfl rfl c5) hf hk hx
      · refine zW_sub [1, 2, 3, 4, 0] rfl ?_
        exact tX7_learn_b51_93 hw o o2 (zokE (r' := 10) (zokB (r' := 32) o rfl rfl) rfl rfl c5) hf hk hx
theorem tX7_learn_l51 {X : zX} {e : Nat → Prop} (hw : zWf X e) {T : zT} {L : Nat} {L2 : Nat} (o : zOk e (8, L, 0)) (o2 : zOk e (9, L2, 0)) {s0 : (Int × Int × zMem)} {α : Type} {F : (Int × Int × zMem) → Option α} {u : α} (hf : zb (zlp (fX7_learn_l51 L L2) 5000 s0) F = some u) (kx : ∀ x, F x = some u → zW X T mX7_learn 118 [(0, .ref (zad X (8, L, 0))), (1, .ref (zad X (9, L2, 0))), (3, vi x.1)] [] x.2.2) : zW X T mX7_learn 51 [(0, .ref (zad X (8, L, 0))), (1, .ref (zad X (9, L2, 0))), (3, vi s0.1), (4, vi s0.2.1)] [] s0.2.2 := by
  obtain ⟨x, h, hf⟩ := zb_inv hf
  exact zlp_W (P := fun s => zW X T mX7_learn 51 [(0, .ref (zad X (8, L, 0))), (1, .ref (zad X (9, L2, 0))), (3, vi s.1), (4, vi s.2.1)] [] s.2.2) (E := fun x => zW X T mX7_learn 118 [(0, .ref (zad X (8, L, 0))), (1, .ref (zad X (9, L2, 0))), (3, vi x.1)] [] x.2.2) (fun s u h hk hx => tX7_learn_l51_y hw o o2 s h hk hx) _ s0 x h (kx x hf)
set_option maxRecDepth 100000 in
theorem tX7_learn_b127_209 {X : zX} {e : Nat → Prop} (hw : zWf X e) {T : zT} {L : Nat} {L2 : Nat} {w3 : Int} {w4 : Int} {w5 : Int} {I : zMem} (o : zOk e (8, L, 0)) (o2 : zOk e (9, L2, 0)) {u : ((Int × zMem) ⊕ (Int × zMem))} (hf : fX7_learn_b127_209 L L2 w3 w4 w5 I = some u) (hk : ∀ s', u = .inl s' → zW X T mX7_learn 127 [(0, .ref (zad X (8, L, 0))), (1, .ref (zad X (9, L2, 0))), (3, vi w3), (4, vi w4), (5, vi s'.1)] [] s'.2) (hx : ∀ x, u = .inr x → zW X T mX7_learn 215 [] [] x.2) : zW X T mX7_learn 209 [(0, .ref (zad X (8, L, 0))), (1, .ref (zad X (9, L2, 0))), (3, vi w3), (4, vi w4), (5, vi w5)] [] I := by
  unfold fX7_learn_b127_209 at hf
  refine zW_iinc 4 (lv' := [(5, vi (w5 + 1)), (0, .ref (zad X (8, L, 0))), (1, .ref (zad X (9, L2, 0))), (3, vi w3), (4, vi w4)]) dX7_learn_209 rfl rfl rfl ?_
  refine zW_goto 127 dX7_learn_212 rfl ?_
  refine zW_sub [1, 2, 3, 4, 0] rfl ?_
  exact hk _ (Option.some.inj hf).symm
set_option maxRecDepth 100000 in
theorem tX7_learn_b127_168 {X : zX} {e : Nat → Prop} (hw : zWf X e) {T : zT} {L : Nat} {L2 : Nat} {w3 : Int} {w4 : Int} {w5 : Int} {w6 : Int} {k0 : Int} {k1 : Int} {I : zMem} (o : zOk e (8, L, 0)) (o2 : zOk e (9, L2, 0)) (ko2 : zOk e (35, L, 0)) {u : ((Int × zMem) ⊕ (Int × zMem))} (hf : fX7_learn_b127_168 L L2 w3 w4 w5 w6 k0 k1 I = some u) (hk : ∀ s', u = .inl s' → zW X T mX7_learn 127 [(0, .ref (zad X (8, L, 0))), (1, .ref (zad X (9, L2, 0))), (3, vi w3), (4, vi w4), (5, vi s'.1)] [] s'.2) (hx : ∀ x, u = .inr x → zW X T mX7_learn 215 [] [] x.2) : zW X T mX7_learn 168 [(0, .ref (zad X (8, L, 0))), (1, .ref (zad X (9, L2, 0))), (3, vi w3), (4, vi w4), (5, vi w5), (6, vi w6)] [vi k0, vi k1, .ref (zad X (35, L, 0))] I := by
  unfold fX7_learn_b127_168 at hf
  obtain ⟨c13, hf⟩ := zgd hf
  refine zF_iast (hw.1 _ ko2) rfl c13 rfl dX7_learn_168 hf (fun I14 hf => ?_)
  refine zW_aload_n 0 dX7_learn_169 rfl ?_
  refine zW_getR (q' := (35, L, 0)) lk_RX7_24 (hw.1 _ o) rfl rfl (hw.2.1 _ _ _ o rfl) dX7_learn_170 ?_
  refine zW_iload 5 dX7_learn_173 rfl ?_
  obtain ⟨c15, hf⟩ := zgd hf
  refine zF_iald (hw.1 _ (zokB (r' := 35) o rfl rfl)) rfl c15 rfl dX7_learn_175 ?_
  refine zF_if_ne 209 dX7_learn_176 rfl rfl hf (fun c hf => ?_) (fun c hf => ?_)
  · refine zW_iload_n 2 dX7_learn_179 rfl ?_
    refine zW_iload 5 dX7_learn_180 rfl ?_
    refine zW_ishr dX7_learn_182 ?_
    refine zW_iconst dX7_learn_183 ?_
    refine zW_iand_1 dX7_learn_184 ?_
    refine zF_if_ne 209 dX7_learn_185 rfl (w32_emod _ _ rfl) hf (fun c hf => ?_) (fun c hf => ?_)
    · refine zW_aload_n 0 dX7_learn_188 rfl ?_
      refine zW_getR (q' := (36, L, 0)) lk_RX7_27 (hw.1 _ o) rfl rfl (hw.2.1 _ _ _ o rfl) dX7_learn_189 ?_
      refine zW_aload_n 0 dX7_learn_192 rfl ?_
      refine zW_getI lk_RX7_38 (hw.1 _ o) rfl rfl dX7_learn_193 ?_
      refine zW_iload 5 dX7_learn_196 rfl ?_
      obtain ⟨c16, hf⟩ := zgd hf
      refine zF_iast (hw.1 _ (zokB (r' := 36) o rfl rfl)) rfl c16 rfl dX7_learn_198 hf (fun I17 hf => ?_)
      refine zW_aload_n 0 dX7_learn_199 rfl ?_
      refine zW_dup dX7_learn_200 rfl ?_
      refine zW_getI lk_RX7_38 (hw.1 _ o) rfl rfl dX7_learn_201 ?_
      refine zW_iconst dX7_learn_204 ?_
      refine zW_iadd dX7_learn_205 ?_
      refine zF_put lk_RX7_38 (hw.1 _ o) rfl rfl (zn_int _) dX7_learn_206 hf (fun I18 hf => ?_)
      refine zW_sub [0, 1, 2, 3, 4] rfl ?_
      exact tX7_learn_b127_209 hw o o2 hf hk hx
    · refine zW_sub [0, 1, 2, 3, 4] rfl ?_
      exact tX7_learn_b127_209 hw o o2 hf hk hx
  · refine zW_sub [0, 1, 2, 3, 4] rfl ?_
    exact tX7_learn_b127_209 hw o o2 hf hk hx
set_option maxRecDepth 100000 in
theorem tX7_learn_l127_y {X : zX} {e : Nat → Prop} (hw : zWf X e) {T : zT} {L : Nat} {L2 : Nat} {w3 : Int} {w4 : Int} (o : zOk e (8, L, 0)) (o2 : zOk e (9, L2, 0)) (s : (Int × zMem)) {u : ((Int × zMem) ⊕ (Int × zMem))} (hf : fX7_learn_l127 L L2 w3 w4 s = some u) (hk : ∀ s', u = .inl s' → zW X T mX7_learn 127 [(0, .ref (zad X (8, L, 0))), (1, .ref (zad X (9, L2, 0))), (3, vi w3), (4, vi w4), (5, vi s'.1)] [] s'.2) (hx : ∀ x, u = .inr x → zW X T mX7_learn 215 [] [] x.2) : zW X T mX7_learn 127 [(0, .ref (zad X (8, L, 0))), (1, .ref (zad X (9, L2, 0))), (3, vi w3), (4, vi w4), (5, vi s.1)] [] s.2 := by
  unfold fX7_learn_l127 at hf
  refine zW_iload 4 dX7_learn_127 rfl ?_
  refine zW_iload 3 dX7_learn_129 rfl ?_
  refine zF_icmp_ge 215 dX7_learn_131 rfl rfl rfl hf (fun c hf => ?_) (fun c hf => ?_)
  · refine zW_sub [] rfl ?_
    exact hx _ (Option.some.inj hf).symm
  · refine zW_aload_n 0 dX7_learn_134 rfl ?_
    refine zW_getI lk_RX7_44 (hw.1 _ o) rfl rfl dX7_learn_135 ?_
    refine zW_iload 4 dX7_learn_138 rfl ?_
    refine zW_iadd dX7_learn_140 ?_
    refine zW_bipush dX7_learn_141 rfl ?_
    refine zW_iand_7 dX7_learn_143 ?_
    refine zF_istore (lv' := fun a11 => [(6, vi a11), (0, .ref (zad X (8, L, 0))), (1, .ref (zad X (9, L2, 0))), (3, vi w3), (4, vi w4), (5, vi s.1)]) dX7_learn_144 hf (fun _ => rfl) rfl (fun a11 hf => ?_)
    refine zW_aload_n 1 dX7_learn_146 rfl ?_
    refine zW_getR (q' := (35, L, 0)) lk_RX7_24 (hw.1 _ o) rfl rfl (hw.2.1 _ _ _ o rfl) dX7_learn_147 ?_
    refine zW_iload 0 dX7_learn_150 rfl ?_
    refine zW_aload_n 2 dX7_learn_152 rfl ?_
    refine zW_getR (q' := (39, L2, 0)) lk_RX7_107 (hw.1 _ o2) rfl rfl (hw.2.1 _ _ _ o2 rfl) dX7_learn_153 ?_
    refine zW_iload 0 dX7_learn_156 rfl ?_
    obtain ⟨c12, hf⟩ := zgd hf
    refine zF_iald (hw.1 _ (zokB (r' := 39) o2 rfl rfl)) rfl c12 rfl dX7_learn_158 ?_
    refine zW_iconst dX7_learn_159 ?_
    refine zF_icmp_eq 167 dX7_learn_160 rfl rfl (w32_lit _ rfl) hf (fun c hf => ?_) (fun c hf => ?_)
    · refine zW_iconst dX7_learn_167 ?_
      refine zW_sub [1, 2, 3, 4, 5, 0] rfl ?_
      exact tX7_learn_b127_168 hw o o2 (zokB (r' := 35) o rfl rfl) hf hk hx
    · refine zW_iconst dX7_learn_163 ?_
      refine zW_goto 168 dX7_learn_164 rfl ?_
      refine zW_sub [1, 2, 3, 4, 5, 0] rfl ?_
      exact tX7_learn_b127_168 hw o o2 (zokB (r' := 35) o rfl rfl) hf hk hx
theorem tX7_learn_l127 {X : zX} {e : Nat → Prop} (hw : zWf X e) {T : zT} {L : Nat} {L2 : Nat} {w3 : Int} {w4 : Int} (o : zOk e (8, L, 0)) (o2 : zOk e (9, L2, 0)) {s0 : (Int × zMem)} {α : Type} {F : (Int × zMem) → Option α} {u : α} (hf : zb (zlp (fX7_learn_l127 L L2 w3 w4) 5000 s0) F = some u) (kx : ∀ x, F x = some u → zW X T mX7_learn 215 [] [] x.2) : zW X T mX7_learn 127 [(0, .ref (zad X (8, L, 0))), (1, .ref (zad X (9, L2, 0))), (3, vi w3), (4, vi w4), (5, vi s0.1)] [] s0.2 := by
  obtain ⟨x, h, hf⟩ := zb_inv hf
  exact zlp_W (P := fun s => zW X T mX7_learn 127 [(0, .ref (zad X (8, L, 0))), (1, .ref (zad X (9, L2, 0))), (3, vi w3), (4, vi w4), (5, vi s.1)] [] s.2) (E := fun x => zW X T mX7_learn 215 [] [] x.2) (fun s u h hk hx => tX7_learn_l127_y hw o o2 s h hk hx) _ s0 x h (kx x hf)
set_option maxRecDepth 100000 in
theorem tX7_learn_b41 {X : zX} {e : Nat → Prop} (hw : zWf X e) {L : Nat} {L2 : Nat} {w2 : Int} {I : zMem} (o : zOk e (8, L, 0)) (o2 : zOk e (9, L2, 0)) {u : zMem} (hf : fX7_learn_b41 L L2 w2 I = some u) : zW X (none, u) mX7_learn 41 [(0, .ref (zad X (8, L, 0))), (1, .ref (zad X (9, L2, 0))), (2, vi w2)] [] I := by
  unfold fX7_learn_b41 at hf
  refine zW_aload_n 0 dX7_learn_41 rfl ?_
  refine zW_iload_n 2 dX7_learn_42 rfl ?_
  refine zF_put lk_RX7_44 (hw.1 _ o) rfl rfl (zn_int _) dX7_learn_43 hf (fun I4 hf => ?_)
  refine zW_iconst dX7_learn_46 ?_
  refine zW_istore_n (lv' := [(3, vi 0), (0, .ref (zad X (8, L, 0))), (1, .ref (zad X (9, L2, 0))), (2, vi w2)]) dX7_learn_47 rfl rfl ?_
  refine zW_iconst dX7_learn_48 ?_
  refine zW_istore (lv' := [(4, vi 0), (3, vi 0), (0, .ref (zad X (8, L, 0))), (1, .ref (zad X (9, L2, 0))), (2, vi w2)]) dX7_learn_49 rfl rfl ?_
  refine zW_sub [2, 3, 1, 0] rfl ?_
  refine tX7_learn_l51 hw o o2 (s0 := (0, 0, I4)) hf (fun x9 hf => ?_)
  refine zW_aload_n 0 dX7_learn_118 rfl ?_
  refine zC_Vri (As := []) (fun x hx => kX7_howManyKept hw (L := L) o hx) mv_RX7_63 (hw.1 _ o) rfl rfl rfl rfl rfl dX7_learn_119 hf (fun r10 hf => ?_)
  refine zW_istore (lv' := [(4, vi r10), (0, .ref (zad X (8, L, 0))), (1, .ref (zad X (9, L2, 0))), (3, vi x9.1)]) dX7_learn_122 rfl rfl ?_
  refine zW_iconst dX7_learn_124 ?_
  refine zW_istore (lv' := [(5, vi 0), (4, vi r10), (0, .ref (zad X (8, L, 0))), (1, .ref (zad X (9, L2, 0))), (3, vi x9.1)]) dX7_learn_125 rfl rfl ?_
  refine zW_sub [2, 3, 4, 1, 0] rfl ?_
  refine tX7_learn_l127 hw o o2 (s0 := (0, x9.2.2)) hf (fun x19 hf => ?_)
  exact zR_v hw rfl dX7_learn_215 hf
set_option maxRecDepth 100000 in
theorem tX7_learn_0 {X : zX} {e : Nat → Prop} (hw : zWf X e) {L : Nat} {L2 : Nat} (o : zOk e (8, L, 0)) (o2 : zOk e (9, L2, 0)) {I : zMem} {u : zMem} (hf : fX7_learn L L2 I = some u) : zW X (none, u) mX7_learn 0 [(0, .ref (zad X (8, L, 0))), (1, .ref (zad X (9, L2, 0)))] [] I := by
  unfold fX7_learn at hf
  refine zW_aload_n 1 dX7_learn_0 rfl ?_
  refine zW_getI lk_RX7_95 (hw.1 _ o2) rfl rfl dX7_learn_1 ?_
  refine zF_istore_n (lv' := fun a1 => [(2, vi a1), (0, .ref (zad X (8, L, 0))), (1, .ref (zad X (9, L2, 0)))]) dX7_learn_4 hf (fun _ => rfl) rfl (fun a1 hf => ?_)
  refine zW_aload_n 1 dX7_learn_5 rfl ?_
  refine zW_iconst dX7_learn_6 ?_
  refine zF_put lk_RX7_38 (hw.1 _ o) rfl rfl (zn_int _) dX7_learn_7 hf (fun I2 hf => ?_)
  refine zW_iload_n 0 dX7_learn_10 rfl ?_
  refine zW_aload_n 1 dX7_learn_11 rfl ?_
  refine zW_getI lk_RX7_44 (hw.1 _ o) rfl rfl dX7_learn_12 ?_
  refine zW_isub dX7_learn_15 ?_
  refine zW_bipush dX7_learn_16 rfl ?_
  refine zW_iand_7 dX7_learn_18 ?_
  refine zW_aload_n 1 dX7_learn_19 rfl ?_
  refine zC_Vri (As := []) (fun x hx => kX7_howManyKept hw (L := L) o hx) mv_RX7_63 (hw.1 _ o) rfl rfl rfl rfl rfl dX7_learn_20 hf (fun r3 hf => ?_)
  refine zF_icmp_le 41 dX7_learn_23 rfl (w32_emod _ _ rfl) rfl hf (fun c hf => ?_) (fun c hf => ?_)
  · refine zW_sub [1, 2, 0] rfl ?_
    exact tX7_learn_b41 hw o o2 hf
  · refine zW_aload_n 1 dX7_learn_26 rfl ?_
    refine zW_dup dX7_learn_27 rfl ?_
    refine zW_getI lk_RX7_50 (hw.1 _ o) rfl rfl dX7_learn_28 ?_
    refine zW_iconst dX7_learn_31 ?_
    refine zW_iadd dX7_learn_32 ?_
    refine zF_put lk_RX7_50 (hw.1 _ o) rfl rfl (zn_int _) dX7_learn_33 hf (fun I20 hf => ?_)
    refine zW_aload_n 1 dX7_learn_36 rfl ?_
    refine zW_iload_n 0 dX7_learn_37 rfl ?_
    refine zF_put lk_RX7_41 (hw.1 _ o) rfl rfl (zn_int _) dX7_learn_38 hf (fun I21 hf => ?_)
    refine zW_sub [1, 2, 0] rfl ?_
    exact tX7_learn_b41 hw o o2 hf
theorem kX7_learn {X : zX} {e : Nat → Prop} (hw : zWf X e) {L : Nat} {L2 : Nat} (o : zOk e (8, L, 0)) (o2 : zOk e (9, L2, 0)) {I : zMem} {u : zMem} (hf : fX7_learn L L2 I = some u) : zCn X mX7_learn yX7_learn [.ref (zad X (8, L, 0)), .ref (zad X (9, L2, 0))] I (none, u) := zCn_of (by decide +kernel) rfl rfl ⟨rfl, rfl⟩ (tX7_learn_0 hw.N o o2 hf)
set_option maxRecDepth 100000 in
theorem tX0_drawnRound_b144 {X : zX} {e : Nat → Prop} (hw : zWf X e) {L2 : Nat} {v2 : Int} {v3 : Int} {v4 : Int} {I : zMem} (o : zOk e (5, 0, 0)) (o2 : zOk e (7, L2, 0)) {u : zMem} (hf : fX0_drawnRound_b144 L2 v2 v3 v4 I = some u) : zW X (none, u) mX0_drawnRound 144 [(1, .ref (zad X (7, L2, 0))), (2, vi v2)] [] I := by
  unfold fX0_drawnRound_b144 at hf
  refine zW_aload_n 0 dX0_drawnRound_144 rfl ?_
  refine zW_getR (q' := (9, L2, 0)) lk_RX0_126 (hw.1 _ o2) rfl rfl (hw.2.1 _ _ _ o2 rfl) dX0_drawnRound_145 ?_
  refine zW_aload_n 0 dX0_drawnRound_148 rfl ?_
  refine zW_getI lk_RX0_176 (hw.1 _ o2) rfl rfl dX0_drawnRound_149 ?_
  refine zC_Vwv (As := [vi (I (7, L2, 0) 2)]) (fun x hx => kX5_passTime hw (L := L2) (v1 := I (7, L2, 0) 2) (zokB (r' := 9) o2 rfl rfl) hx) mv_RX0_204 (hw.1 _ (zokB (r' := 9) o2 rfl rfl)) rfl rfl rfl rfl rfl dX0_drawnRound_152 hf (fun r4 hf => ?_)
  refine zW_iload_n 1 dX0_drawnRound_155 rfl ?_
  refine zW_bipush dX0_drawnRound_156 rfl ?_
  refine zW_iand_7 dX0_drawnRound_158 ?_
  refine zW_bipush dX0_drawnRound_159 rfl ?_
  refine zF_icmp_ne 175 dX0_drawnRound_161 rfl (w32_emod _ _ rfl) (w32_lit _ rfl) hf (fun c hf => ?_) (fun c hf => ?_)
  · refine zW_aload_n 0 dX0_drawnRound_164 rfl ?_
    refine zW_getR (q' := (8, L2, 0)) lk_RX0_49 (hw.1 _ o2) rfl rfl (hw.2.1 _ _ _ o2 rfl) dX0_drawnRound_165 ?_
    refine zW_aload_n 0 dX0_drawnRound_168 rfl ?_
    refine zW_getR (q' := (9, L2, 0)) lk_RX0_126 (hw.1 _ o2) rfl rfl (hw.2.1 _ _ _ o2 rfl) dX0_drawnRound_169 ?_
    refine zC_Vwv (As := [.ref (zad X (9, L2, 0))]) (fun x hx => kX7_learn hw (L := L2) (L2 := L2) (zokB (r' := 8) o2 rfl rfl) (zokB (r' := 9) o2 rfl rfl) hx) mv_RX0_207 (hw.1 _ (zokB (r' := 8) o2 rfl rfl)) rfl rfl rfl rfl rfl dX0_drawnRound_172 hf (fun r5 hf => ?_)
    exact zR_v hw rfl dX0_drawnRound_175 hf
  · exact zR_v hw rfl dX0_drawnRound_175 hf
set_option maxRecDepth 100000 in
theorem tX0_drawnRound_l100_y {X : zX} {e : Nat → Prop} (hw : zWf X e) {T : zT} {L2 : Nat} {v2 : Int} {v3 : Int} {v4 : Int} {w5 : Int} {w6 : Int} (o : zOk e (5, 0, 0)) (o2 : zOk e (7, L2, 0)) (s : (Int × zMem)) {u : ((Int × zMem) ⊕ (Int × zMem))} (hf : fX0_drawnRound_l100 L2 v2 v3 v4 w5 w6 s = some u) (hk : ∀ s', u = .inl s' → zW X T mX0_drawnRound 100 [(0, .ref (zad X (5, 0, 0))), (1, .ref (zad X (7, L2, 0))), (2, vi v2), (3, vi v3), (4, vi v4), (5, vi w5), (6, vi w6), (7, vi s'.1)] [] s'.2) (hx : ∀ x, u = .inr x → zW X T mX0_drawnRound 133 [(0, .ref (zad X (5, 0, 0))), (1, .ref (zad X (7, L2, 0))), (2, vi v2), (3, vi v3), (5, vi w5), (6, vi w6)] [] x.2) : zW X T mX0_drawnRound 100 [(0, .ref (zad X (5, 0, 0))), (1, .ref (zad X (7, L2, 0))), (2, vi v2), (3, vi v3), (4, vi v4), (5, vi w5), (6, vi w6), (7, vi s.1)] [] s.2 := by
  unfold fX0_drawnRound_l100 at hf
  refine zW_iload 7 dX0_drawnRound_100 rfl ?_
  refine zW_iload_n 3 dX0_drawnRound_102 rfl ?_
  refine zF_icmp_ge 133 dX0_drawnRound_103 rfl rfl rfl hf (fun c hf => ?_) (fun c hf => ?_)
  · refine zW_sub [0, 1, 2, 3, 5, 6] rfl ?_
    exact hx _ (Option.some.inj hf).symm
  · refine zW_aload_n 0 dX0_drawnRound_106 rfl ?_
    refine zW_getR (q' := (28, 0, 0)) lk_RX0_9 (hw.1 _ o) rfl rfl (hw.2.1 _ _ _ o rfl) dX0_drawnRound_107 ?_
    refine zW_iload 7 dX0_drawnRound_110 rfl ?_
    refine zW_aload_n 0 dX0_drawnRound_112 rfl ?_
    refine zC_Vwi (As := []) (fun x hx => kX0_draw hw o hx) mv_RX0_189 (hw.1 _ o) rfl rfl rfl rfl rfl dX0_drawnRound_113 hf (fun r7 hf => ?_)
    refine zW_iconst dX0_drawnRound_116 ?_
    refine zW_iload 4 dX0_drawnRound_117 rfl ?_
    refine zW_imul dX0_drawnRound_119 ?_
    refine zW_iconst dX0_drawnRound_120 ?_
    refine zW_iadd dX0_drawnRound_121 ?_
    obtain ⟨c, hf⟩ := zgd hf
    refine zW_irem dX0_drawnRound_122 c ?_
    refine zW_iload 4 dX0_drawnRound_123 rfl ?_
    refine zW_isub dX0_drawnRound_125 ?_
    obtain ⟨c8, hf⟩ := zgd hf
    refine zF_iast (hw.1 _ (zokA (r' := 28) o rfl rfl)) rfl c8 rfl dX0_drawnRound_126 hf (fun I9 hf => ?_)
    refine zW_iinc 7 (lv' := [(7, vi (s.1 + 1)), (0, .ref (zad X (5, 0, 0))), (1, .ref (zad X (7, L2, 0))), (2, vi v2), (3, vi v3), (4, vi v4), (5, vi w5), (6, vi w6)]) dX0_drawnRound_127 rfl rfl rfl ?_
    refine zW_goto 100 dX0_drawnRound_130 rfl ?_
    refine zW_sub [1, 2, 3, 4, 5, 6, 7, 0] rfl ?_
    exact hk _ (Option.some.inj hf).symm
theorem tX0_drawnRound_l100 {X : zX} {e : Nat → Prop} (hw : zWf X e) {T : zT} {L2 : Nat} {v2 : Int} {v3 : Int} {v4 : Int} {w5 : Int} {w6 : Int} (o : zOk e (5, 0, 0)) (o2 : zOk e (7, L2, 0)) {s0 : (Int × zMem)} {α : Type} {F : (Int × zMem) → Option α} {u : α} (hf : zb (zlp (fX0_drawnRound_l100 L2 v2 v3 v4 w5 w6) 5000 s0) F = some u) (kx : ∀ x, F x = some u → zW X T mX0_drawnRound 133 [(0, .ref (zad X (5, 0, 0))), (1, .ref (zad X (7, L2, 0))), (2, vi v2), (3, vi v3), (5, vi w5), (6, vi w6)] [] x.2) : zW X T mX0_drawnRound 100 [(0, .ref (zad X (5, 0, 0))), (1, .ref (zad X (7, L2, 0))), (2, vi v2), (3, vi v3), (4, vi v4), (5, vi w5), (6, vi w6), (7, vi s0.1)] [] s0.2 := by
  obtain ⟨x, h, hf⟩ := zb_inv hf
  exact zlp_W (P := fun s => zW X T mX0_drawnRound 100 [(0, .ref (zad X (5, 0, 0))), (1, .ref (zad X (7, L2, 0))), (2, vi v2), (3, vi v3), (4, vi v4), (5, vi w5), (6, vi w6), (7, vi s.1)] [] s.2) (E := fun x => zW X T mX0_drawnRound 133 [(0, .ref (zad X (5, 0, 0))), (1, .ref (zad X (7, L2, 0))), (2, vi v2), (3, vi v3), (5, vi w5), (6, vi w6)] [] x.2) (fun s u h hk hx => tX0_drawnRound_l100_y hw o o2 s h hk hx) _ s0 x h (kx x hf)
set_option maxRecDepth 100000 in
theorem tX0_drawnRound_b95 {X : zX} {e : Nat → Prop} (hw : zWf X e) {L2 : Nat} {v2 : Int} {v3 : Int} {v4 : Int} {w5 : Int} {k0 : Int} {I : zMem} (o : zOk e (5, 0, 0)) (o2 : zOk e (7, L2, 0)) {u : zMem} (hf : fX0_drawnRound_b95 L2 v2 v3 v4 w5 k0 I = some u) : zW X (none, u) mX0_drawnRound 95 [(0, .ref (zad X (5, 0, 0))), (1, .ref (zad X (7, L2, 0))), (2, vi v2), (3, vi v3), (4, vi v4), (5, vi w5)] [vi k0] I := by
  unfold fX0_drawnRound_b95 at hf
  refine zW_istore (lv' := [(6, vi k0), (0, .ref (zad X (5, 0, 0))), (1, .ref (zad X (7, L2, 0))), (2, vi v2), (3, vi v3), (4, vi v4), (5, vi w5)]) dX0_drawnRound_95 rfl rfl ?_
  refine zW_iconst dX0_drawnRound_97 ?_
  refine zW_istore (lv' := [(7, vi 0), (6, vi k0), (0, .ref (zad X (5, 0, 0))), (1, .ref (zad X (7, L2, 0))), (2, vi v2), (3, vi v3), (4, vi v4), (5, vi w5)]) dX0_drawnRound_98 rfl rfl ?_
  refine zW_sub [2, 3, 4, 5, 6, 7, 1, 0] rfl ?_
  refine tX0_drawnRound_l100 hw o o2 (s0 := (0, I)) hf (fun x10 hf => ?_)
  refine zW_aload_n 0 dX0_drawnRound_133 rfl ?_
  refine zW_aload_n 1 dX0_drawnRound_134 rfl ?_
  refine zW_iload 4 dX0_drawnRound_135 rfl ?_
  refine zW_iload_n 3 dX0_drawnRound_137 rfl ?_
  refine zW_iload 5 dX0_drawnRound_138 rfl ?_
  refine zC_Vwi (As := [.ref (zad X (7, L2, 0)), vi w5, vi v3, vi k0]) (fun x hx => kX0_transmit hw (L2 := L2) (v2 := w5) (v3 := v3) (v4 := k0) o o2 hx) mv_RX0_200 (hw.1 _ o) rfl rfl rfl rfl rfl dX0_drawnRound_140 hf (fun r11 hf => ?_)
  refine zW_pop dX0_drawnRound_143 rfl ?_
  refine zW_sub [1, 2] rfl ?_
  exact tX0_drawnRound_b144 hw o o2 hf
set_option maxRecDepth 100000 in
theorem tX0_drawnRound_b64 {X : zX} {e : Nat → Prop} (hw : zWf X e) {L2 : Nat} {v2 : Int} {v3 : Int} {v4 : Int} {w5 : Int} {I : zMem} (o : zOk e (5, 0, 0)) (o2 : zOk e (7, L2, 0)) {u : zMem} (hf : fX0_drawnRound_b64 L2 v2 v3 v4 w5 I = some u) : zW X (none, u) mX0_drawnRound 64 [(0, .ref (zad X (5, 0, 0))), (1, .ref (zad X (7, L2, 0))), (2, vi v2), (3, vi v3), (4, vi v4), (5, vi w5)] [] I := by
  unfold fX0_drawnRound_b64 at hf
  refine zW_aload_n 1 dX0_drawnRound_64 rfl ?_
  refine zW_getR (q' := (8, L2, 0)) lk_RX0_49 (hw.1 _ o2) rfl rfl (hw.2.1 _ _ _ o2 rfl) dX0_drawnRound_65 ?_
  refine zW_iload 5 dX0_drawnRound_68 rfl ?_
  refine zW_aload_n 1 dX0_drawnRound_70 rfl ?_
  refine zW_getI lk_RX0_170 (hw.1 _ o2) rfl rfl dX0_drawnRound_71 ?_
  refine zC_Vri (As := [vi w5, vi (I (7, L2, 0) 1)]) (fun x hx => kX7_isAble hw (L := L2) (v1 := w5) (v2 := I (7, L2, 0) 1) (zokB (r' := 8) o2 rfl rfl) hx) mv_RX0_196 (hw.1 _ (zokB (r' := 8) o2 rfl rfl)) rfl rfl rfl rfl rfl dX0_drawnRound_74 hf (fun r3 hf => ?_)
  refine zF_if_eq 144 dX0_drawnRound_77 rfl rfl hf (fun c hf => ?_) (fun c hf => ?_)
  · refine zW_sub [1, 2] rfl ?_
    exact tX0_drawnRound_b144 hw o o2 hf
  · refine zW_aload_n 0 dX0_drawnRound_80 rfl ?_
    refine zC_Vwi (As := []) (fun x hx => kX0_draw hw o hx) mv_RX0_189 (hw.1 _ o) rfl rfl rfl rfl rfl dX0_drawnRound_81 hf (fun r6 hf => ?_)
    refine zW_bipush dX0_drawnRound_84 rfl ?_
    refine zW_iand_15 dX0_drawnRound_86 ?_
    refine zF_if_eq 94 dX0_drawnRound_87 rfl (w32_emod _ _ rfl) hf (fun c hf => ?_) (fun c hf => ?_)
    · refine zW_iconst dX0_drawnRound_94 ?_
      refine zW_sub [0, 1, 2, 3, 4, 5] rfl ?_
      exact tX0_drawnRound_b95 hw o o2 hf
    · refine zW_iconst dX0_drawnRound_90 ?_
      refine zW_goto 95 dX0_drawnRound_91 rfl ?_
      refine zW_sub [0, 1, 2, 3, 4, 5] rfl ?_
      exact tX0_drawnRound_b95 hw o o2 hf
set_option maxRecDepth 100000 in
theorem tX0_drawnRound_b60 {X : zX} {e : Nat → Prop} (hw : zWf X e) {L2 : Nat} {v2 : Int} {v3 : Int} {v4 : Int} {w5 : Int} {k0 : Int} {k1 : Int} {I : zMem} (o : zOk e (5, 0, 0)) (o2 : zOk e (7, L2, 0)) (ko2 : zOk e (7, L2, 0)) {u : zMem} (hf : fX0_drawnRound_b60 L2 v2 v3 v4 w5 k0 k1 I = some u) : zW X (none, u) mX0_drawnRound 60 [(0, .ref (zad X (5, 0, 0))), (1, .ref (zad X (7, L2, 0))), (2, vi v2), (3, vi v3), (4, vi v4), (5, vi w5)] [vi k0, vi k1, .ref (zad X (7, L2, 0))] I := by
  unfold fX0_drawnRound_b60 at hf
  refine zC_Vwi (As := [vi k1, vi k0]) (fun x hx => kX4_readAnswer hw (L := L2) (v1 := k1) (v2 := k0) ko2 hx) mv_RX0_193 (hw.1 _ ko2) rfl rfl rfl rfl rfl dX0_drawnRound_60 hf (fun r14 hf => ?_)
  refine zW_pop dX0_drawnRound_63 rfl ?_
  refine zW_sub [0, 1, 2, 3, 4, 5] rfl ?_
  exact tX0_drawnRound_b64 hw o o2 hf
set_option maxRecDepth 100000 in
theorem tX0_drawnRound_0 {X : zX} {e : Nat → Prop} (hw : zWf X e) {L2 : Nat} {v2 : Int} {v3 : Int} {v4 : Int} (o : zOk e (5, 0, 0)) (o2 : zOk e (7, L2, 0)) {I : zMem} {u : zMem} (hf : fX0_drawnRound L2 v2 v3 v4 I = some u) : zW X (none, u) mX0_drawnRound 0 [(0, .ref (zad X (5, 0, 0))), (1, .ref (zad X (7, L2, 0))), (2, vi v2), (3, vi v3), (4, vi v4)] [] I := by
  unfold fX0_drawnRound at hf
  refine zW_iload_n 2 dX0_drawnRound_0 rfl ?_
  refine zW_iconst dX0_drawnRound_1 ?_
  refine zW_aload_n 1 dX0_drawnRound_2 rfl ?_
  refine zW_getI lk_RX0_186 (hw.1 _ o2) rfl rfl dX0_drawnRound_3 ?_
  refine zW_max mm_RX0_40 rfl dX0_drawnRound_6 ?_
  obtain ⟨c, hf⟩ := zgd hf
  refine zW_irem dX0_drawnRound_9 c ?_
  refine zF_istore (lv' := fun a1 => [(5, vi a1), (0, .ref (zad X (5, 0, 0))), (1, .ref (zad X (7, L2, 0))), (2, vi v2), (3, vi v3), (4, vi v4)]) dX0_drawnRound_10 hf (fun _ => rfl) rfl (fun a1 hf => ?_)
  refine zW_aload_n 2 dX0_drawnRound_12 rfl ?_
  refine zW_getR (q' := (8, L2, 0)) lk_RX0_49 (hw.1 _ o2) rfl rfl (hw.2.1 _ _ _ o2 rfl) dX0_drawnRound_13 ?_
  refine zW_getR (q' := (32, L2, 0)) lk_RX0_53 (hw.1 _ (zokB (r' := 8) o2 rfl rfl)) rfl rfl (hw.2.1 _ _ _ (zokB (r' := 8) o2 rfl rfl) rfl) dX0_drawnRound_16 ?_
  refine zW_iload 0 dX0_drawnRound_19 rfl ?_
  obtain ⟨c2, hf⟩ := zgd hf
  refine zW_aald (q' := (10, L2, ix a1)) 6 rfl rfl (hw.1 _ (zokB (r' := 32) (zokB (r' := 8) o2 rfl rfl) rfl rfl)) rfl rfl c2 (hw.2.1 _ _ _ (zokB (r' := 32) (zokB (r' := 8) o2 rfl rfl) rfl rfl) rfl) dX0_drawnRound_21 ?_
  refine zW_getI lk_RX0_89 (hw.1 _ (zokE (r' := 10) (zokB (r' := 32) (zokB (r' := 8) o2 rfl rfl) rfl rfl) rfl rfl c2)) rfl rfl dX0_drawnRound_22 ?_
  refine zF_if_eq 64 dX0_drawnRound_25 rfl rfl hf (fun c hf => ?_) (fun c hf => ?_)
  · refine zW_sub [1, 2, 3, 4, 5, 0] rfl ?_
    exact tX0_drawnRound_b64 hw o o2 hf
  · refine zW_aload_n 1 dX0_drawnRound_28 rfl ?_
    refine zC_Vwi (As := []) (fun x hx => kX0_draw hw o hx) mv_RX0_189 (hw.1 _ o) rfl rfl rfl rfl rfl dX0_drawnRound_29 hf (fun r12 hf => ?_)
    refine zW_bipush dX0_drawnRound_32 rfl ?_
    refine zW_iand_7 dX0_drawnRound_34 ?_
    refine zF_istore (lv' := fun a13 => [(6, vi a13), (5, vi a1), (0, .ref (zad X (5, 0, 0))), (1, .ref (zad X (7, L2, 0))), (2, vi v2), (3, vi v3), (4, vi v4)]) dX0_drawnRound_35 hf (fun _ => rfl) rfl (fun a13 hf => ?_)
    refine zW_aload_n 3 dX0_drawnRound_37 rfl ?_
    refine zW_iload 1 dX0_drawnRound_38 rfl ?_
    refine zW_iload 0 dX0_drawnRound_40 rfl ?_
    refine zF_if_ne 49 dX0_drawnRound_42 rfl rfl hf (fun c hf => ?_) (fun c hf => ?_)
    · refine zW_iconst dX0_drawnRound_45 ?_
      refine zW_goto 60 dX0_drawnRound_46 rfl ?_
      refine zW_sub [2, 3, 4, 5, 6, 1] rfl ?_
      exact tX0_drawnRound_b60 hw o o2 o2 hf
    · refine zW_iload 0 dX0_drawnRound_49 rfl ?_
      refine zW_iconst dX0_drawnRound_51 ?_
      refine zF_icmp_ne 59 dX0_drawnRound_52 rfl rfl (w32_lit _ rfl) hf (fun c hf => ?_) (fun c hf => ?_)
      · refine zW_iconst dX0_drawnRound_55 ?_
        refine zW_goto 60 dX0_drawnRound_56 rfl ?_
        refine zW_sub [2, 3, 4, 5, 6, 1] rfl ?_
        exact tX0_drawnRound_b60 hw o o2 o2 hf
      · refine zW_iconst dX0_drawnRound_59 ?_
        refine zW_sub [2, 3, 4, 5, 6, 1] rfl ?_
        exact tX0_drawnRound_b60 hw o o2 o2 hf
theorem kX0_drawnRound {X : zX} {e : Nat → Prop} (hw : zWf X e) {L2 : Nat} {v2 : Int} {v3 : Int} {v4 : Int} (o : zOk e (5, 0, 0)) (o2 : zOk e (7, L2, 0)) {I : zMem} {u : zMem} (hf : fX0_drawnRound L2 v2 v3 v4 I = some u) : zCn X mX0_drawnRound yX0_drawnRound [.ref (zad X (5, 0, 0)), .ref (zad X (7, L2, 0)), vi v2, vi v3, vi v4] I (none, u) := zCn_of (by decide +kernel) rfl rfl ⟨rfl, rfl⟩ (tX0_drawnRound_0 hw.N o o2 hf)
set_option maxRecDepth 100000 in
theorem tX0_cleanRound_b2_61 {X : zX} {e : Nat → Prop} (hw : zWf X e) {T : zT} {L2 : Nat} {v2 : Int} {w3 : Int} {I : zMem} (o : zOk e (5, 0, 0)) (o2 : zOk e (7, L2, 0)) {u : ((Int × zMem) ⊕ (Int × zMem))} (hf : fX0_cleanRound_b2_61 L2 v2 w3 I = some u) (hk : ∀ s', u = .inl s' → zW X T mX0_cleanRound 2 [(0, .ref (zad X (5, 0, 0))), (1, .ref (zad X (7, L2, 0))), (2, vi v2), (3, vi s'.1)] [] s'.2) (hx : ∀ x, u = .inr x → zW X T mX0_cleanRound 67 [(1, .ref (zad X (7, L2, 0)))] [] x.2) : zW X T mX0_cleanRound 61 [(0, .ref (zad X (5, 0, 0))), (1, .ref (zad X (7, L2, 0))), (2, vi v2), (3, vi w3)] [] I := by
  unfold fX0_cleanRound_b2_61 at hf
  refine zW_iinc 3 (lv' := [(3, vi (w3 + 1)), (0, .ref (zad X (5, 0, 0))), (1, .ref (zad X (7, L2, 0))), (2, vi v2)]) dX0_cleanRound_61 rfl rfl rfl ?_
  refine zW_goto 2 dX0_cleanRound_64 rfl ?_
  refine zW_sub [1, 2, 3, 0] rfl ?_
  exact hk _ (Option.some.inj hf).symm
set_option maxRecDepth 100000 in
theorem tX0_cleanRound_b2_32 {X : zX} {e : Nat → Prop} (hw : zWf X e) {T : zT} {L2 : Nat} {v2 : Int} {w3 : Int} {I : zMem} (o : zOk e (5, 0, 0)) (o2 : zOk e (7, L2, 0)) {u : ((Int × zMem) ⊕ (Int × zMem))} (hf : fX0_cleanRound_b2_32 L2 v2 w3 I = some u) (hk : ∀ s', u = .inl s' → zW X T mX0_cleanRound 2 [(0, .ref (zad X (5, 0, 0))), (1, .ref (zad X (7, L2, 0))), (2, vi v2), (3, vi s'.1)] [] s'.2) (hx : ∀ x, u = .inr x → zW X T mX0_cleanRound 67 [(1, .ref (zad X (7, L2, 0)))] [] x.2) : zW X T mX0_cleanRound 32 [(0, .ref (zad X (5, 0, 0))), (1, .ref (zad X (7, L2, 0))), (2, vi v2), (3, vi w3)] [] I := by
  unfold fX0_cleanRound_b2_32 at hf
  refine zW_aload_n 1 dX0_cleanRound_32 rfl ?_
  refine zW_getR (q' := (8, L2, 0)) lk_RX0_49 (hw.1 _ o2) rfl rfl (hw.2.1 _ _ _ o2 rfl) dX0_cleanRound_33 ?_
  refine zW_iload_n 3 dX0_cleanRound_36 rfl ?_
  refine zW_aload_n 1 dX0_cleanRound_37 rfl ?_
  refine zW_getI lk_RX0_170 (hw.1 _ o2) rfl rfl dX0_cleanRound_38 ?_
  refine zC_Vri (As := [vi w3, vi (I (7, L2, 0) 1)]) (fun x hx => kX7_isAble hw (L := L2) (v1 := w3) (v2 := I (7, L2, 0) 1) (zokB (r' := 8) o2 rfl rfl) hx) mv_RX0_196 (hw.1 _ (zokB (r' := 8) o2 rfl rfl)) rfl rfl rfl rfl rfl dX0_cleanRound_41 hf (fun r2 hf => ?_)
  refine zF_if_eq 61 dX0_cleanRound_44 rfl rfl hf (fun c hf => ?_) (fun c hf => ?_)
  · refine zW_sub [0, 1, 2, 3] rfl ?_
    exact tX0_cleanRound_b2_61 hw o o2 hf hk hx
  · refine zW_aload_n 0 dX0_cleanRound_47 rfl ?_
    refine zC_Vwv (As := []) (fun x hx => kX0_quiet hw o hx) mv_RX0_211 (hw.1 _ o) rfl rfl rfl rfl rfl dX0_cleanRound_48 hf (fun r3 hf => ?_)
    refine zW_aload_n 0 dX0_cleanRound_51 rfl ?_
    refine zW_aload_n 1 dX0_cleanRound_52 rfl ?_
    refine zW_iload_n 3 dX0_cleanRound_53 rfl ?_
    refine zW_bipush dX0_cleanRound_54 rfl ?_
    refine zW_iconst dX0_cleanRound_56 ?_
    refine zC_Vwi (As := [.ref (zad X (7, L2, 0)), vi w3, vi 39, vi 1]) (fun x hx => kX0_transmit hw (L2 := L2) (v2 := w3) (v3 := 39) (v4 := 1) o o2 hx) mv_RX0_200 (hw.1 _ o) rfl rfl rfl rfl rfl dX0_cleanRound_57 hf (fun r4 hf => ?_)
    refine zW_pop dX0_cleanRound_60 rfl ?_
    refine zW_sub [0, 1, 2, 3] rfl ?_
    exact tX0_cleanRound_b2_61 hw o o2 hf hk hx
set_option maxRecDepth 100000 in
theorem tX0_cleanRound_l2_y {X : zX} {e : Nat → Prop} (hw : zWf X e) {T : zT} {L2 : Nat} {v2 : Int} (o : zOk e (5, 0, 0)) (o2 : zOk e (7, L2, 0)) (s : (Int × zMem)) {u : ((Int × zMem) ⊕ (Int × zMem))} (hf : fX0_cleanRound_l2 L2 v2 s = some u) (hk : ∀ s', u = .inl s' → zW X T mX0_cleanRound 2 [(0, .ref (zad X (5, 0, 0))), (1, .ref (zad X (7, L2, 0))), (2, vi v2), (3, vi s'.1)] [] s'.2) (hx : ∀ x, u = .inr x → zW X T mX0_cleanRound 67 [(1, .ref (zad X (7, L2, 0)))] [] x.2) : zW X T mX0_cleanRound 2 [(0, .ref (zad X (5, 0, 0))), (1, .ref (zad X (7, L2, 0))), (2, vi v2), (3, vi s.1)] [] s.2 := by
  unfold fX0_cleanRound_l2 at hf
  refine zW_iload_n 3 dX0_cleanRound_2 rfl ?_
  refine zW_aload_n 1 dX0_cleanRound_3 rfl ?_
  refine zW_getI lk_RX0_186 (hw.1 _ o2) rfl rfl dX0_cleanRound_4 ?_
  refine zF_icmp_ge 67 dX0_cleanRound_7 rfl rfl rfl hf (fun c hf => ?_) (fun c hf => ?_)
  · refine zW_sub [1] rfl ?_
    exact hx _ (Option.some.inj hf).symm
  · refine zW_aload_n 1 dX0_cleanRound_10 rfl ?_
    refine zW_getR (q' := (8, L2, 0)) lk_RX0_49 (hw.1 _ o2) rfl rfl (hw.2.1 _ _ _ o2 rfl) dX0_cleanRound_11 ?_
    refine zW_getR (q' := (32, L2, 0)) lk_RX0_53 (hw.1 _ (zokB (r' := 8) o2 rfl rfl)) rfl rfl (hw.2.1 _ _ _ (zokB (r' := 8) o2 rfl rfl) rfl) dX0_cleanRound_14 ?_
    refine zW_iload_n 3 dX0_cleanRound_17 rfl ?_
    obtain ⟨c1, hf⟩ := zgd hf
    refine zW_aald (q' := (10, L2, ix s.1)) 6 rfl rfl (hw.1 _ (zokB (r' := 32) (zokB (r' := 8) o2 rfl rfl) rfl rfl)) rfl rfl c1 (hw.2.1 _ _ _ (zokB (r' := 32) (zokB (r' := 8) o2 rfl rfl) rfl rfl) rfl) dX0_cleanRound_18 ?_
    refine zW_getI lk_RX0_89 (hw.1 _ (zokE (r' := 10) (zokB (r' := 32) (zokB (r' := 8) o2 rfl rfl) rfl rfl) rfl rfl c1)) rfl rfl dX0_cleanRound_19 ?_
    refine zF_if_eq 32 dX0_cleanRound_22 rfl rfl hf (fun c hf => ?_) (fun c hf => ?_)
    · refine zW_sub [0, 1, 2, 3] rfl ?_
      exact tX0_cleanRound_b2_32 hw o o2 hf hk hx
    · refine zW_aload_n 1 dX0_cleanRound_25 rfl ?_
      refine zW_iload_n 3 dX0_cleanRound_26 rfl ?_
      refine zW_iload_n 2 dX0_cleanRound_27 rfl ?_
      refine zC_Vwi (As := [vi s.1, vi v2]) (fun x hx => kX4_readAnswer hw (L := L2) (v1 := s.1) (v2 := v2) o2 hx) mv_RX0_193 (hw.1 _ o2) rfl rfl rfl rfl rfl dX0_cleanRound_28 hf (fun r5 hf => ?_)
      refine zW_pop dX0_cleanRound_31 rfl ?_
      refine zW_sub [0, 1, 2, 3] rfl ?_
      exact tX0_cleanRound_b2_32 hw o o2 hf hk hx
theorem tX0_cleanRound_l2 {X : zX} {e : Nat → Prop} (hw : zWf X e) {T : zT} {L2 : Nat} {v2 : Int} (o : zOk e (5, 0, 0)) (o2 : zOk e (7, L2, 0)) {s0 : (Int × zMem)} {α : Type} {F : (Int × zMem) → Option α} {u : α} (hf : zb (zlp (fX0_cleanRound_l2 L2 v2) 5000 s0) F = some u) (kx : ∀ x, F x = some u → zW X T mX0_cleanRound 67 [(1, .ref (zad X (7, L2, 0)))] [] x.2) : zW X T mX0_cleanRound 2 [(0, .ref (zad X (5, 0, 0))), (1, .ref (zad X (7, L2, 0))), (2, vi v2), (3, vi s0.1)] [] s0.2 := by
  obtain ⟨x, h, hf⟩ := zb_inv hf
  exact zlp_W (P := fun s => zW X T mX0_cleanRound 2 [(0, .ref (zad X (5, 0, 0))), (1, .ref (zad X (7, L2, 0))), (2, vi v2), (3, vi s.1)] [] s.2) (E := fun x => zW X T mX0_cleanRound 67 [(1, .ref (zad X (7, L2, 0)))] [] x.2) (fun s u h hk hx => tX0_cleanRound_l2_y hw o o2 s h hk hx) _ s0 x h (kx x hf)
set_option maxRecDepth 100000 in
theorem tX0_cleanRound_0 {X : zX} {e : Nat → Prop} (hw : zWf X e) {L2 : Nat} {v2 : Int} (o : zOk e (5, 0, 0)) (o2 : zOk e (7, L2, 0)) {I : zMem} {u : zMem} (hf : fX0_cleanRound L2 v2 I = some u) : zW X (none, u) mX0_cleanRound 0 [(0, .ref (zad X (5, 0, 0))), (1, .ref (zad X (7, L2, 0))), (2, vi v2)] [] I := by
  unfold fX0_cleanRound at hf
  refine zW_iconst dX0_cleanRound_0 ?_
  refine zW_istore_n (lv' := [(3, vi 0), (0, .ref (zad X (5, 0, 0))), (1, .ref (zad X (7, L2, 0))), (2, vi v2)]) dX0_cleanRound_1 rfl rfl ?_
  refine zW_sub [1, 2, 3, 0] rfl ?_
  refine tX0_cleanRound_l2 hw o o2 (s0 := (0, I)) hf (fun x6 hf => ?_)
  refine zW_aload_n 0 dX0_cleanRound_67 rfl ?_
  refine zW_getR (q' := (9, L2, 0)) lk_RX0_126 (hw.1 _ o2) rfl rfl (hw.2.1 _ _ _ o2 rfl) dX0_cleanRound_68 ?_
  refine zW_aload_n 0 dX0_cleanRound_71 rfl ?_
  refine zW_getI lk_RX0_176 (hw.1 _ o2) rfl rfl dX0_cleanRound_72 ?_
  refine zC_Vwv (As := [vi (x6.2 (7, L2, 0) 2)]) (fun x hx => kX5_passTime hw (L := L2) (v1 := x6.2 (7, L2, 0) 2) (zokB (r' := 9) o2 rfl rfl) hx) mv_RX0_204 (hw.1 _ (zokB (r' := 9) o2 rfl rfl)) rfl rfl rfl rfl rfl dX0_cleanRound_75 hf (fun r7 hf => ?_)
  refine zW_aload_n 0 dX0_cleanRound_78 rfl ?_
  refine zW_getR (q' := (8, L2, 0)) lk_RX0_49 (hw.1 _ o2) rfl rfl (hw.2.1 _ _ _ o2 rfl) dX0_cleanRound_79 ?_
  refine zW_aload_n 0 dX0_cleanRound_82 rfl ?_
  refine zW_getR (q' := (9, L2, 0)) lk_RX0_126 (hw.1 _ o2) rfl rfl (hw.2.1 _ _ _ o2 rfl) dX0_cleanRound_83 ?_
  refine zC_Vwv (As := [.ref (zad X (9, L2, 0))]) (fun x hx => kX7_learn hw (L := L2) (L2 := L2) (zokB (r' := 8) o2 rfl rfl) (zokB (r' := 9) o2 rfl rfl) hx) mv_RX0_207 (hw.1 _ (zokB (r' := 8) o2 rfl rfl)) rfl rfl rfl rfl rfl dX0_cleanRound_86 hf (fun r8 hf => ?_)
  exact zR_v hw rfl dX0_cleanRound_89 hf
theorem kX0_cleanRound {X : zX} {e : Nat → Prop} (hw : zWf X e) {L2 : Nat} {v2 : Int} (o : zOk e (5, 0, 0)) (o2 : zOk e (7, L2, 0)) {I : zMem} {u : zMem} (hf : fX0_cleanRound L2 v2 I = some u) : zCn X mX0_cleanRound yX0_cleanRound [.ref (zad X (5, 0, 0)), .ref (zad X (7, L2, 0)), vi v2] I (none, u) := zCn_of (by decide +kernel) rfl rfl ⟨rfl, rfl⟩ (tX0_cleanRound_0 hw.N o o2 hf)
set_option maxRecDepth 100000 in
theorem tX8_copyFrom_0 {X : zX} {e : Nat → Prop} (hw : zWf X e) {L : Nat} {p : Nat} {L2 : Nat} {p2 : Nat} (o : zOk e (10, L, p)) (o2 : zOk e (10, L2, p2)) {I : zMem} {u : zMem} (hf : fX8_copyFrom L p L2 p2 I = some u) : zW X (none, u) mX8_copyFrom 0 [(0, .ref (zad X (10, L, p))), (1, .ref (zad X (10, L2, p2)))] [] I := by
  unfold fX8_copyFrom at hf
  refine zW_aload_n 0 dX8_copyFrom_0 rfl ?_
  refine zW_aload_n 1 dX8_copyFrom_1 rfl ?_
  refine zW_getI lk_RX8_9 (hw.1 _ o2) rfl rfl dX8_copyFrom_2 ?_
  refine zF_put lk_RX8_9 (hw.1 _ o) rfl rfl (zn_int _) dX8_copyFrom_5 hf (fun I1 hf => ?_)
  refine zW_aload_n 0 dX8_copyFrom_8 rfl ?_
  refine zW_aload_n 1 dX8_copyFrom_9 rfl ?_
  refine zW_getI lk_RX8_22 (hw.1 _ o2) rfl rfl dX8_copyFrom_10 ?_
  refine zF_put lk_RX8_22 (hw.1 _ o) rfl rfl (zn_int _) dX8_copyFrom_13 hf (fun I2 hf => ?_)
  refine zW_aload_n 0 dX8_copyFrom_16 rfl ?_
  refine zW_aload_n 1 dX8_copyFrom_17 rfl ?_
  refine zW_getI lk_RX8_35 (hw.1 _ o2) rfl rfl dX8_copyFrom_18 ?_
  refine zF_put lk_RX8_35 (hw.1 _ o) rfl rfl (zn_int _) dX8_copyFrom_21 hf (fun I3 hf => ?_)
  refine zW_aload_n 0 dX8_copyFrom_24 rfl ?_
  refine zW_aload_n 1 dX8_copyFrom_25 rfl ?_
  refine zW_getI lk_RX8_38 (hw.1 _ o2) rfl rfl dX8_copyFrom_26 ?_
  obtain ⟨c, hf⟩ := zgd hf
  refine zF_put lk_RX8_38 (hw.1 _ o) rfl rfl (zn_bool c) dX8_copyFrom_29 hf (fun I4 hf => ?_)
  refine zW_aload_n 0 dX8_copyFrom_32 rfl ?_
  refine zW_aload_n 1 dX8_copyFrom_33 rfl ?_
  refine zW_getI lk_RX8_25 (hw.1 _ o2) rfl rfl dX8_copyFrom_34 ?_
  obtain ⟨c, hf⟩ := zgd hf
  refine zF_put lk_RX8_25 (hw.1 _ o) rfl rfl (zn_bool c) dX8_copyFrom_37 hf (fun I5 hf => ?_)
  refine zW_aload_n 1 dX8_copyFrom_40 rfl ?_
  refine zW_getR (q' := (37, L2, p2)) lk_RX8_15 (hw.1 _ o2) rfl rfl (hw.2.1 _ _ _ o2 rfl) dX8_copyFrom_41 ?_
  refine zW_iconst dX8_copyFrom_44 ?_
  refine zW_aload_n 0 dX8_copyFrom_45 rfl ?_
  refine zW_getR (q' := (37, L, p)) lk_RX8_15 (hw.1 _ o) rfl rfl (hw.2.1 _ _ _ o rfl) dX8_copyFrom_46 ?_
  refine zW_iconst dX8_copyFrom_49 ?_
  refine zW_bipush dX8_copyFrom_50 rfl ?_
  refine zF_copy ma_RX8_41 (hw.1 _ (zokC (r' := 37) o2 rfl rfl)) rfl (hw.1 _ (zokC (r' := 37) o rfl rfl)) rfl (by decide) (ix_lit _ rfl) (ix_lit _ rfl) (ix_lit _ rfl) rfl dX8_copyFrom_52 hf (fun I6 hf => ?_)
  exact zR_v hw rfl dX8_copyFrom_55 hf
theorem kX8_copyFrom {X : zX} {e : Nat → Prop} (hw : zWf X e) {L : Nat} {p : Nat} {L2 : Nat} {p2 : Nat} (o : zOk e (10, L, p)) (o2 : zOk e (10, L2, p2)) {I : zMem} {u : zMem} (hf : fX8_copyFrom L p L2 p2 I = some u) : zCn X mX8_copyFrom yX8_copyFrom [.ref (zad X (10, L, p)), .ref (zad X (10, L2, p2))] I (none, u) := zCn_of (by decide +kernel) rfl rfl ⟨rfl, rfl⟩ (tX8_copyFrom_0 hw.N o o2 hf)
set_option maxRecDepth 100000 in
theorem tX7_copyFrom_l2_y {X : zX} {e : Nat → Prop} (hw : zWf X e) {T : zT} {L : Nat} {L2 : Nat} (o : zOk e (8, L, 0)) (o2 : zOk e (8, L2, 0)) (s : (Int × zMem)) {u : ((Int × zMem) ⊕ (Int × zMem))} (hf : fX7_copyFrom_l2 L L2 s = some u) (hk : ∀ s', u = .inl s' → zW X T mX7_copyFrom 2 [(0, .ref (zad X (8, L, 0))), (1, .ref (zad X (8, L2, 0))), (2, vi s'.1)] [] s'.2) (hx : ∀ x, u = .inr x → zW X T mX7_copyFrom 29 [(0, .ref (zad X (8, L, 0))), (1, .ref (zad X (8, L2, 0)))] [] x.2) : zW X T mX7_copyFrom 2 [(0, .ref (zad X (8, L, 0))), (1, .ref (zad X (8, L2, 0))), (2, vi s.1)] [] s.2 := by
  unfold fX7_copyFrom_l2 at hf
  refine zW_iload_n 2 dX7_copyFrom_2 rfl ?_
  refine zW_bipush dX7_copyFrom_3 rfl ?_
  refine zF_icmp_ge 29 dX7_copyFrom_5 rfl rfl (w32_lit _ rfl) hf (fun c hf => ?_) (fun c hf => ?_)
  · refine zW_sub [0, 1] rfl ?_
    exact hx _ (Option.some.inj hf).symm
  · refine zW_aload_n 0 dX7_copyFrom_8 rfl ?_
    refine zW_getR (q' := (32, L, 0)) lk_RX7_11 (hw.1 _ o) rfl rfl (hw.2.1 _ _ _ o rfl) dX7_copyFrom_9 ?_
    refine zW_iload_n 2 dX7_copyFrom_12 rfl ?_
    obtain ⟨c1, hf⟩ := zgd hf
    refine zW_aald (q' := (10, L, ix s.1)) 6 rfl rfl (hw.1 _ (zokB (r' := 32) o rfl rfl)) rfl rfl c1 (hw.2.1 _ _ _ (zokB (r' := 32) o rfl rfl) rfl) dX7_copyFrom_13 ?_
    refine zW_aload_n 1 dX7_copyFrom_14 rfl ?_
    refine zW_getR (q' := (32, L2, 0)) lk_RX7_11 (hw.1 _ o2) rfl rfl (hw.2.1 _ _ _ o2 rfl) dX7_copyFrom_15 ?_
    refine zW_iload_n 2 dX7_copyFrom_18 rfl ?_
    refine zW_aald (q' := (10, L2, ix s.1)) 6 rfl rfl (hw.1 _ (zokB (r' := 32) o2 rfl rfl)) rfl rfl c1 (hw.2.1 _ _ _ (zokB (r' := 32) o2 rfl rfl) rfl) dX7_copyFrom_19 ?_
    refine zC_Vwv (As := [.ref (zad X (10, L2, ix s.1))]) (fun x hx => kX8_copyFrom hw (L := L) (p := ix s.1) (L2 := L2) (p2 := ix s.1) (zokE (r' := 10) (zokB (r' := 32) o rfl rfl) rfl rfl c1) (zokE (r' := 10) (zokB (r' := 32) o2 rfl rfl) rfl rfl c1) hx) mv_RX7_53 (hw.1 _ (zokE (r' := 10) (zokB (r' := 32) o rfl rfl) rfl rfl c1)) rfl rfl rfl rfl rfl dX7_copyFrom_20 hf (fun r2 hf => ?_)
    refine zW_iinc 2 (lv' := [(2, vi (s.1 + 1)), (0, .ref (zad X (8, L, 0))), (1, .ref (zad X (8, L2, 0)))]) dX7_copyFrom_23 rfl rfl rfl ?_
    refine zW_goto 2 dX7_copyFrom_26 rfl ?_
    refine zW_sub [1, 2, 0] rfl ?_
    exact hk _ (Option.some.inj hf).symm
theorem tX7_copyFrom_l2 {X : zX} {e : Nat → Prop} (hw : zWf X e) {T : zT} {L : Nat} {L2 : Nat} (o : zOk e (8, L, 0)) (o2 : zOk e (8, L2, 0)) {s0 : (Int × zMem)} {α : Type} {F : (Int × zMem) → Option α} {u : α} (hf : zb (zlp (fX7_copyFrom_l2 L L2) 5000 s0) F = some u) (kx : ∀ x, F x = some u → zW X T mX7_copyFrom 29 [(0, .ref (zad X (8, L, 0))), (1, .ref (zad X (8, L2, 0)))] [] x.2) : zW X T mX7_copyFrom 2 [(0, .ref (zad X (8, L, 0))), (1, .ref (zad X (8, L2, 0))), (2, vi s0.1)] [] s0.2 := by
  obtain ⟨x, h, hf⟩ := zb_inv hf
  exact zlp_W (P := fun s => zW X T mX7_copyFrom 2 [(0, .ref (zad X (8, L, 0))), (1, .ref (zad X (8, L2, 0))), (2, vi s.1)] [] s.2) (E := fun x => zW X T mX7_copyFrom 29 [(0, .ref (zad X (8, L, 0))), (1, .ref (zad X (8, L2, 0)))] [] x.2) (fun s u h hk hx => tX7_copyFrom_l2_y hw o o2 s h hk hx) _ s0 x h (kx x hf)
set_option maxRecDepth 100000 in
theorem tX7_copyFrom_0 {X : zX} {e : Nat → Prop} (hw : zWf X e) {L : Nat} {L2 : Nat} (o : zOk e (8, L, 0)) (o2 : zOk e (8, L2, 0)) {I : zMem} {u : zMem} (hf : fX7_copyFrom L L2 I = some u) : zW X (none, u) mX7_copyFrom 0 [(0, .ref (zad X (8, L, 0))), (1, .ref (zad X (8, L2, 0)))] [] I := by
  unfold fX7_copyFrom at hf
  refine zW_iconst dX7_copyFrom_0 ?_
  refine zW_istore_n (lv' := [(2, vi 0), (0, .ref (zad X (8, L, 0))), (1, .ref (zad X (8, L2, 0)))]) dX7_copyFrom_1 rfl rfl ?_
  refine zW_sub [1, 2, 0] rfl ?_
  refine tX7_copyFrom_l2 hw o o2 (s0 := (0, I)) hf (fun x3 hf => ?_)
  refine zW_aload_n 1 dX7_copyFrom_29 rfl ?_
  refine zW_getR (q' := (33, L2, 0)) lk_RX7_17 (hw.1 _ o2) rfl rfl (hw.2.1 _ _ _ o2 rfl) dX7_copyFrom_30 ?_
  refine zW_iconst dX7_copyFrom_33 ?_
  refine zW_aload_n 0 dX7_copyFrom_34 rfl ?_
  refine zW_getR (q' := (33, L, 0)) lk_RX7_17 (hw.1 _ o) rfl rfl (hw.2.1 _ _ _ o rfl) dX7_copyFrom_35 ?_
  refine zW_iconst dX7_copyFrom_38 ?_
  refine zW_bipush dX7_copyFrom_39 rfl ?_
  refine zF_copy ma_RX7_57 (hw.1 _ (zokB (r' := 33) o2 rfl rfl)) rfl (hw.1 _ (zokB (r' := 33) o rfl rfl)) rfl (by decide) (ix_lit _ rfl) (ix_lit _ rfl) (ix_lit _ rfl) rfl dX7_copyFrom_41 hf (fun I4 hf => ?_)
  refine zW_aload_n 1 dX7_copyFrom_44 rfl ?_
  refine zW_getR (q' := (34, L2, 0)) lk_RX7_21 (hw.1 _ o2) rfl rfl (hw.2.1 _ _ _ o2 rfl) dX7_copyFrom_45 ?_
  refine zW_iconst dX7_copyFrom_48 ?_
  refine zW_aload_n 0 dX7_copyFrom_49 rfl ?_
  refine zW_getR (q' := (34, L, 0)) lk_RX7_21 (hw.1 _ o) rfl rfl (hw.2.1 _ _ _ o rfl) dX7_copyFrom_50 ?_
  refine zW_iconst dX7_copyFrom_53 ?_
  refine zW_bipush dX7_copyFrom_54 rfl ?_
  refine zF_copy ma_RX7_57 (hw.1 _ (zokB (r' := 34) o2 rfl rfl)) rfl (hw.1 _ (zokB (r' := 34) o rfl rfl)) rfl (by decide) (ix_lit _ rfl) (ix_lit _ rfl) (ix_lit _ rfl) rfl dX7_copyFrom_56 hf (fun I5 hf => ?_)
  refine zW_aload_n 1 dX7_copyFrom_59 rfl ?_
  refine zW_getR (q' := (35, L2, 0)) lk_RX7_24 (hw.1 _ o2) rfl rfl (hw.2.1 _ _ _ o2 rfl) dX7_copyFrom_60 ?_
  refine zW_iconst dX7_copyFrom_63 ?_
  refine zW_aload_n 0 dX7_copyFrom_64 rfl ?_
  refine zW_getR (q' := (35, L, 0)) lk_RX7_24 (hw.1 _ o) rfl rfl (hw.2.1 _ _ _ o rfl) dX7_copyFrom_65 ?_
  refine zW_iconst dX7_copyFrom_68 ?_
  refine zW_bipush dX7_copyFrom_69 rfl ?_
  refine zF_copy ma_RX7_57 (hw.1 _ (zokB (r' := 35) o2 rfl rfl)) rfl (hw.1 _ (zokB (r' := 35) o rfl rfl)) rfl (by decide) (ix_lit _ rfl) (ix_lit _ rfl) (ix_lit _ rfl) rfl dX7_copyFrom_71 hf (fun I6 hf => ?_)
  refine zW_aload_n 1 dX7_copyFrom_74 rfl ?_
  refine zW_getR (q' := (36, L2, 0)) lk_RX7_27 (hw.1 _ o2) rfl rfl (hw.2.1 _ _ _ o2 rfl) dX7_copyFrom_75 ?_
  refine zW_iconst dX7_copyFrom_78 ?_
  refine zW_aload_n 0 dX7_copyFrom_79 rfl ?_
  refine zW_getR (q' := (36, L, 0)) lk_RX7_27 (hw.1 _ o) rfl rfl (hw.2.1 _ _ _ o rfl) dX7_copyFrom_80 ?_
  refine zW_iconst dX7_copyFrom_83 ?_
  refine zW_bipush dX7_copyFrom_84 rfl ?_
  refine zF_copy ma_RX7_57 (hw.1 _ (zokB (r' := 36) o2 rfl rfl)) rfl (hw.1 _ (zokB (r' := 36) o rfl rfl)) rfl (by decide) (ix_lit _ rfl) (ix_lit _ rfl) (ix_lit _ rfl) rfl dX7_copyFrom_86 hf (fun I7 hf => ?_)
  refine zW_aload_n 0 dX7_copyFrom_89 rfl ?_
  refine zW_aload_n 1 dX7_copyFrom_90 rfl ?_
  refine zW_getI lk_RX7_34 (hw.1 _ o2) rfl rfl dX7_copyFrom_91 ?_
  refine zF_put lk_RX7_34 (hw.1 _ o) rfl rfl (zn_int _) dX7_copyFrom_94 hf (fun I8 hf => ?_)
  refine zW_aload_n 0 dX7_copyFrom_97 rfl ?_
  refine zW_aload_n 1 dX7_copyFrom_98 rfl ?_
  refine zW_getI lk_RX7_38 (hw.1 _ o2) rfl rfl dX7_copyFrom_99 ?_
  refine zF_put lk_RX7_38 (hw.1 _ o) rfl rfl (zn_int _) dX7_copyFrom_102 hf (fun I9 hf => ?_)
  refine zW_aload_n 0 dX7_copyFrom_105 rfl ?_
  refine zW_aload_n 1 dX7_copyFrom_106 rfl ?_
  refine zW_getI lk_RX7_41 (hw.1 _ o2) rfl rfl dX7_copyFrom_107 ?_
  refine zF_put lk_RX7_41 (hw.1 _ o) rfl rfl (zn_int _) dX7_copyFrom_110 hf (fun I10 hf => ?_)
  refine zW_aload_n 0 dX7_copyFrom_113 rfl ?_
  refine zW_aload_n 1 dX7_copyFrom_114 rfl ?_
  refine zW_getI lk_RX7_44 (hw.1 _ o2) rfl rfl dX7_copyFrom_115 ?_
  refine zF_put lk_RX7_44 (hw.1 _ o) rfl rfl (zn_int _) dX7_copyFrom_118 hf (fun I11 hf => ?_)
  refine zW_aload_n 0 dX7_copyFrom_121 rfl ?_
  refine zW_aload_n 1 dX7_copyFrom_122 rfl ?_
  refine zW_getI lk_RX7_47 (hw.1 _ o2) rfl rfl dX7_copyFrom_123 ?_
  refine zF_put lk_RX7_47 (hw.1 _ o) rfl rfl (zn_int _) dX7_copyFrom_126 hf (fun I12 hf => ?_)
  refine zW_aload_n 0 dX7_copyFrom_129 rfl ?_
  refine zW_aload_n 1 dX7_copyFrom_130 rfl ?_
  refine zW_getI lk_RX7_50 (hw.1 _ o2) rfl rfl dX7_copyFrom_131 ?_
  refine zF_put lk_RX7_50 (hw.1 _ o) rfl rfl (zn_int _) dX7_copyFrom_134 hf (fun I13 hf => ?_)
  exact zR_v hw rfl dX7_copyFrom_137 hf
theorem kX7_copyFrom {X : zX} {e : Nat → Prop} (hw : zWf X e) {L : Nat} {L2 : Nat} (o : zOk e (8, L, 0)) (o2 : zOk e (8, L2, 0)) {I : zMem} {u : zMem} (hf : fX7_copyFrom L L2 I = some u) : zCn X mX7_copyFrom yX7_copyFrom [.ref (zad X (8, L, 0)), .ref (zad X (8, L2, 0))] I (none, u) := zCn_of (by decide +kernel) rfl rfl ⟨rfl, rfl⟩ (tX7_copyFrom_0 hw.N o o2 hf)
set_option maxRecDepth 100000 in
theorem tX3_copyFrom_0 {X : zX} {e : Nat → Prop} (hw : zWf X e) {L : Nat} {p : Nat} {L2 : Nat} {p2 : Nat} (o : zOk e (11, L, p)) (o2 : zOk e (11, L2, p2)) {I : zMem} {u : zMem} (hf : fX3_copyFrom L p L2 p2 I = some u) : zW X (none, u) mX3_copyFrom 0 [(0, .ref (zad X (11, L, p))), (1, .ref (zad X (11, L2, p2)))] [] I := by
  unfold fX3_copyFrom at hf
  refine zW_aload_n 0 dX3_copyFrom_0 rfl ?_
  refine zW_aload_n 1 dX3_copyFrom_1 rfl ?_
  refine zW_getI lk_RX3_9 (hw.1 _ o2) rfl rfl dX3_copyFrom_2 ?_
  refine zF_put lk_RX3_9 (hw.1 _ o) rfl rfl (zn_int _) dX3_copyFrom_5 hf (fun I1 hf => ?_)
  refine zW_aload_n 0 dX3_copyFrom_8 rfl ?_
  refine zW_aload_n 1 dX3_copyFrom_9 rfl ?_
  refine zW_getI lk_RX3_19 (hw.1 _ o2) rfl rfl dX3_copyFrom_10 ?_
  refine zF_put lk_RX3_19 (hw.1 _ o) rfl rfl (zn_int _) dX3_copyFrom_13 hf (fun I2 hf => ?_)
  refine zW_aload_n 0 dX3_copyFrom_16 rfl ?_
  refine zW_aload_n 1 dX3_copyFrom_17 rfl ?_
  refine zW_getI lk_RX3_22 (hw.1 _ o2) rfl rfl dX3_copyFrom_18 ?_
  obtain ⟨c, hf⟩ := zgd hf
  refine zF_put lk_RX3_22 (hw.1 _ o) rfl rfl (zn_bool c) dX3_copyFrom_21 hf (fun I3 hf => ?_)
  refine zW_aload_n 1 dX3_copyFrom_24 rfl ?_
  refine zW_getR (q' := (41, L2, p2)) lk_RX3_15 (hw.1 _ o2) rfl rfl (hw.2.1 _ _ _ o2 rfl) dX3_copyFrom_25 ?_
  refine zW_iconst dX3_copyFrom_28 ?_
  refine zW_aload_n 0 dX3_copyFrom_29 rfl ?_
  refine zW_getR (q' := (41, L, p)) lk_RX3_15 (hw.1 _ o) rfl rfl (hw.2.1 _ _ _ o rfl) dX3_copyFrom_30 ?_
  refine zW_iconst dX3_copyFrom_33 ?_
  refine zW_bipush dX3_copyFrom_34 rfl ?_
  refine zF_copy ma_RX3_32 (hw.1 _ (zokC (r' := 41) o2 rfl rfl)) rfl (hw.1 _ (zokC (r' := 41) o rfl rfl)) rfl (by decide) (ix_lit _ rfl) (ix_lit _ rfl) (ix_lit _ rfl) rfl dX3_copyFrom_36 hf (fun I4 hf => ?_)
  exact zR_v hw rfl dX3_copyFrom_39 hf
theorem kX3_copyFrom {X : zX} {e : Nat → Prop} (hw : zWf X e) {L : Nat} {p : Nat} {L2 : Nat} {p2 : Nat} (o : zOk e (11, L, p)) (o2 : zOk e (11, L2, p2)) {I : zMem} {u : zMem} (hf : fX3_copyFrom L p L2 p2 I = some u) : zCn X mX3_copyFrom yX3_copyFrom [.ref (zad X (11, L, p)), .ref (zad X (11, L2, p2))] I (none, u) := zCn_of (by decide +kernel) rfl rfl ⟨rfl, rfl⟩ (tX3_copyFrom_0 hw.N o o2 hf)
set_option maxRecDepth 100000 in
theorem tX5_copyFrom_l2_y {X : zX} {e : Nat → Prop} (hw : zWf X e) {T : zT} {L : Nat} {L2 : Nat} (o : zOk e (9, L, 0)) (o2 : zOk e (9, L2, 0)) (s : (Int × zMem)) {u : ((Int × zMem) ⊕ (Int × zMem))} (hf : fX5_copyFrom_l2 L L2 s = some u) (hk : ∀ s', u = .inl s' → zW X T mX5_copyFrom 2 [(0, .ref (zad X (9, L, 0))), (1, .ref (zad X (9, L2, 0))), (2, vi s'.1)] [] s'.2) (hx : ∀ x, u = .inr x → zW X T mX5_copyFrom 29 [(0, .ref (zad X (9, L, 0))), (1, .ref (zad X (9, L2, 0)))] [] x.2) : zW X T mX5_copyFrom 2 [(0, .ref (zad X (9, L, 0))), (1, .ref (zad X (9, L2, 0))), (2, vi s.1)] [] s.2 := by
  unfold fX5_copyFrom_l2 at hf
  refine zW_iload_n 2 dX5_copyFrom_2 rfl ?_
  refine zW_bipush dX5_copyFrom_3 rfl ?_
  refine zF_icmp_ge 29 dX5_copyFrom_5 rfl rfl (w32_lit _ rfl) hf (fun c hf => ?_) (fun c hf => ?_)
  · refine zW_sub [0, 1] rfl ?_
    exact hx _ (Option.some.inj hf).symm
  · refine zW_aload_n 0 dX5_copyFrom_8 rfl ?_
    refine zW_getR (q' := (38, L, 0)) lk_RX5_11 (hw.1 _ o) rfl rfl (hw.2.1 _ _ _ o rfl) dX5_copyFrom_9 ?_
    refine zW_iload_n 2 dX5_copyFrom_12 rfl ?_
    obtain ⟨c1, hf⟩ := zgd hf
    refine zW_aald (q' := (11, L, ix s.1)) 4 rfl rfl (hw.1 _ (zokB (r' := 38) o rfl rfl)) rfl rfl c1 (hw.2.1 _ _ _ (zokB (r' := 38) o rfl rfl) rfl) dX5_copyFrom_13 ?_
    refine zW_aload_n 1 dX5_copyFrom_14 rfl ?_
    refine zW_getR (q' := (38, L2, 0)) lk_RX5_11 (hw.1 _ o2) rfl rfl (hw.2.1 _ _ _ o2 rfl) dX5_copyFrom_15 ?_
    refine zW_iload_n 2 dX5_copyFrom_18 rfl ?_
    refine zW_aald (q' := (11, L2, ix s.1)) 4 rfl rfl (hw.1 _ (zokB (r' := 38) o2 rfl rfl)) rfl rfl c1 (hw.2.1 _ _ _ (zokB (r' := 38) o2 rfl rfl) rfl) dX5_copyFrom_19 ?_
    refine zC_Vwv (As := [.ref (zad X (11, L2, ix s.1))]) (fun x hx => kX3_copyFrom hw (L := L) (p := ix s.1) (L2 := L2) (p2 := ix s.1) (zokE (r' := 11) (zokB (r' := 38) o rfl rfl) rfl rfl c1) (zokE (r' := 11) (zokB (r' := 38) o2 rfl rfl) rfl rfl c1) hx) mv_RX5_60 (hw.1 _ (zokE (r' := 11) (zokB (r' := 38) o rfl rfl) rfl rfl c1)) rfl rfl rfl rfl rfl dX5_copyFrom_20 hf (fun r2 hf => ?_)
    refine zW_iinc 2 (lv' := [(2, vi (s.1 + 1)), (0, .ref (zad X (9, L, 0))), (1, .ref (zad X (9, L2, 0)))]) dX5_copyFrom_23 rfl rfl rfl ?_
    refine zW_goto 2 dX5_copyFrom_26 rfl ?_
    refine zW_sub [1, 2, 0] rfl ?_
    exact hk _ (Option.some.inj hf).symm
theorem tX5_copyFrom_l2 {X : zX} {e : Nat → Prop} (hw : zWf X e) {T : zT} {L : Nat} {L2 : Nat} (o : zOk e (9, L, 0)) (o2 : zOk e (9, L2, 0)) {s0 : (Int × zMem)} {α : Type} {F : (Int × zMem) → Option α} {u : α} (hf : zb (zlp (fX5_copyFrom_l2 L L2) 5000 s0) F = some u) (kx : ∀ x, F x = some u → zW X T mX5_copyFrom 29 [(0, .ref (zad X (9, L, 0))), (1, .ref (zad X (9, L2, 0)))] [] x.2) : zW X T mX5_copyFrom 2 [(0, .ref (zad X (9, L, 0))), (1, .ref (zad X (9, L2, 0))), (2, vi s0.1)] [] s0.2 := by
  obtain ⟨x, h, hf⟩ := zb_inv hf
  exact zlp_W (P := fun s => zW X T mX5_copyFrom 2 [(0, .ref (zad X (9, L, 0))), (1, .ref (zad X (9, L2, 0))), (2, vi s.1)] [] s.2) (E := fun x => zW X T mX5_copyFrom 29 [(0, .ref (zad X (9, L, 0))), (1, .ref (zad X (9, L2, 0)))] [] x.2) (fun s u h hk hx => tX5_copyFrom_l2_y hw o o2 s h hk hx) _ s0 x h (kx x hf)
set_option maxRecDepth 100000 in
theorem tX5_copyFrom_0 {X : zX} {e : Nat → Prop} (hw : zWf X e) {L : Nat} {L2 : Nat} (o : zOk e (9, L, 0)) (o2 : zOk e (9, L2, 0)) {I : zMem} {u : zMem} (hf : fX5_copyFrom L L2 I = some u) : zW X (none, u) mX5_copyFrom 0 [(0, .ref (zad X (9, L, 0))), (1, .ref (zad X (9, L2, 0)))] [] I := by
  unfold fX5_copyFrom at hf
  refine zW_iconst dX5_copyFrom_0 ?_
  refine zW_istore_n (lv' := [(2, vi 0), (0, .ref (zad X (9, L, 0))), (1, .ref (zad X (9, L2, 0)))]) dX5_copyFrom_1 rfl rfl ?_
  refine zW_sub [1, 2, 0] rfl ?_
  refine tX5_copyFrom_l2 hw o o2 (s0 := (0, I)) hf (fun x3 hf => ?_)
  refine zW_aload_n 1 dX5_copyFrom_29 rfl ?_
  refine zW_getR (q' := (39, L2, 0)) lk_RX5_17 (hw.1 _ o2) rfl rfl (hw.2.1 _ _ _ o2 rfl) dX5_copyFrom_30 ?_
  refine zW_iconst dX5_copyFrom_33 ?_
  refine zW_aload_n 0 dX5_copyFrom_34 rfl ?_
  refine zW_getR (q' := (39, L, 0)) lk_RX5_17 (hw.1 _ o) rfl rfl (hw.2.1 _ _ _ o rfl) dX5_copyFrom_35 ?_
  refine zW_iconst dX5_copyFrom_38 ?_
  refine zW_bipush dX5_copyFrom_39 rfl ?_
  refine zF_copy ma_RX5_64 (hw.1 _ (zokB (r' := 39) o2 rfl rfl)) rfl (hw.1 _ (zokB (r' := 39) o rfl rfl)) rfl (by decide) (ix_lit _ rfl) (ix_lit _ rfl) (ix_lit _ rfl) rfl dX5_copyFrom_41 hf (fun I4 hf => ?_)
  refine zW_aload_n 1 dX5_copyFrom_44 rfl ?_
  refine zW_getR (q' := (40, L2, 0)) lk_RX5_21 (hw.1 _ o2) rfl rfl (hw.2.1 _ _ _ o2 rfl) dX5_copyFrom_45 ?_
  refine zW_iconst dX5_copyFrom_48 ?_
  refine zW_aload_n 0 dX5_copyFrom_49 rfl ?_
  refine zW_getR (q' := (40, L, 0)) lk_RX5_21 (hw.1 _ o) rfl rfl (hw.2.1 _ _ _ o rfl) dX5_copyFrom_50 ?_
  refine zW_iconst dX5_copyFrom_53 ?_
  refine zW_sipush dX5_copyFrom_54 rfl ?_
  refine zF_copy ma_RX5_64 (hw.1 _ (zokB (r' := 40) o2 rfl rfl)) rfl (hw.1 _ (zokB (r' := 40) o rfl rfl)) rfl (by decide) (ix_lit _ rfl) (ix_lit _ rfl) (ix_lit _ rfl) rfl dX5_copyFrom_57 hf (fun I5 hf => ?_)
  refine zW_aload_n 0 dX5_copyFrom_60 rfl ?_
  refine zW_aload_n 1 dX5_copyFrom_61 rfl ?_
  refine zW_getI lk_RX5_35 (hw.1 _ o2) rfl rfl dX5_copyFrom_62 ?_
  refine zF_put lk_RX5_35 (hw.1 _ o) rfl rfl (zn_int _) dX5_copyFrom_65 hf (fun I6 hf => ?_)
  refine zW_aload_n 0 dX5_copyFrom_68 rfl ?_
  refine zW_aload_n 1 dX5_copyFrom_69 rfl ?_
  refine zW_getI lk_RX5_39 (hw.1 _ o2) rfl rfl dX5_copyFrom_70 ?_
  refine zF_put lk_RX5_39 (hw.1 _ o) rfl rfl (zn_int _) dX5_copyFrom_73 hf (fun I7 hf => ?_)
  refine zW_aload_n 0 dX5_copyFrom_76 rfl ?_
  refine zW_aload_n 1 dX5_copyFrom_77 rfl ?_
  refine zW_getI lk_RX5_42 (hw.1 _ o2) rfl rfl dX5_copyFrom_78 ?_
  refine zF_put lk_RX5_42 (hw.1 _ o) rfl rfl (zn_int _) dX5_copyFrom_81 hf (fun I8 hf => ?_)
  refine zW_aload_n 0 dX5_copyFrom_84 rfl ?_
  refine zW_aload_n 1 dX5_copyFrom_85 rfl ?_
  refine zW_getI lk_RX5_45 (hw.1 _ o2) rfl rfl dX5_copyFrom_86 ?_
  refine zF_put lk_RX5_45 (hw.1 _ o) rfl rfl (zn_int _) dX5_copyFrom_89 hf (fun I9 hf => ?_)
  refine zW_aload_n 0 dX5_copyFrom_92 rfl ?_
  refine zW_aload_n 1 dX5_copyFrom_93 rfl ?_
  refine zW_getI lk_RX5_48 (hw.1 _ o2) rfl rfl dX5_copyFrom_94 ?_
  refine zF_put lk_RX5_48 (hw.1 _ o) rfl rfl (zn_int _) dX5_copyFrom_97 hf (fun I10 hf => ?_)
  refine zW_aload_n 0 dX5_copyFrom_100 rfl ?_
  refine zW_aload_n 1 dX5_copyFrom_101 rfl ?_
  refine zW_getI lk_RX5_51 (hw.1 _ o2) rfl rfl dX5_copyFrom_102 ?_
  refine zF_put lk_RX5_51 (hw.1 _ o) rfl rfl (zn_int _) dX5_copyFrom_105 hf (fun I11 hf => ?_)
  refine zW_aload_n 0 dX5_copyFrom_108 rfl ?_
  refine zW_aload_n 1 dX5_copyFrom_109 rfl ?_
  refine zW_getI lk_RX5_54 (hw.1 _ o2) rfl rfl dX5_copyFrom_110 ?_
  refine zF_put lk_RX5_54 (hw.1 _ o) rfl rfl (zn_int _) dX5_copyFrom_113 hf (fun I12 hf => ?_)
  refine zW_aload_n 0 dX5_copyFrom_116 rfl ?_
  refine zW_aload_n 1 dX5_copyFrom_117 rfl ?_
  refine zW_getI lk_RX5_57 (hw.1 _ o2) rfl rfl dX5_copyFrom_118 ?_
  refine zF_put lk_RX5_57 (hw.1 _ o) rfl rfl (zn_int _) dX5_copyFrom_121 hf (fun I13 hf => ?_)
  exact zR_v hw rfl dX5_copyFrom_124 hf
theorem kX5_copyFrom {X : zX} {e : Nat → Prop} (hw : zWf X e) {L : Nat} {L2 : Nat} (o : zOk e (9, L, 0)) (o2 : zOk e (9, L2, 0)) {I : zMem} {u : zMem} (hf : fX5_copyFrom L L2 I = some u) : zCn X mX5_copyFrom yX5_copyFrom [.ref (zad X (9, L, 0)), .ref (zad X (9, L2, 0))] I (none, u) := zCn_of (by decide +kernel) rfl rfl ⟨rfl, rfl⟩ (tX5_copyFrom_0 hw.N o o2 hf)
set_option maxRecDepth 100000 in
theorem tX4_copyFrom_0 {X : zX} {e : Nat → Prop} (hw : zWf X e) {L : Nat} {L2 : Nat} (o : zOk e (7, L, 0)) (o2 : zOk e (7, L2, 0)) {I : zMem} {u : zMem} (hf : fX4_copyFrom L L2 I = some u) : zW X (none, u) mX4_copyFrom 0 [(0, .ref (zad X (7, L, 0))), (1, .ref (zad X (7, L2, 0)))] [] I := by
  unfold fX4_copyFrom at hf
  refine zW_aload_n 0 dX4_copyFrom_0 rfl ?_
  refine zW_aload_n 1 dX4_copyFrom_1 rfl ?_
  refine zW_getI lk_RX4_9 (hw.1 _ o2) rfl rfl dX4_copyFrom_2 ?_
  refine zF_put lk_RX4_9 (hw.1 _ o) rfl rfl (zn_int _) dX4_copyFrom_5 hf (fun I1 hf => ?_)
  refine zW_aload_n 0 dX4_copyFrom_8 rfl ?_
  refine zW_aload_n 1 dX4_copyFrom_9 rfl ?_
  refine zW_getI lk_RX4_15 (hw.1 _ o2) rfl rfl dX4_copyFrom_10 ?_
  refine zF_put lk_RX4_15 (hw.1 _ o) rfl rfl (zn_int _) dX4_copyFrom_13 hf (fun I2 hf => ?_)
  refine zW_aload_n 0 dX4_copyFrom_16 rfl ?_
  refine zW_aload_n 1 dX4_copyFrom_17 rfl ?_
  refine zW_getI lk_RX4_18 (hw.1 _ o2) rfl rfl dX4_copyFrom_18 ?_
  refine zF_put lk_RX4_18 (hw.1 _ o) rfl rfl (zn_int _) dX4_copyFrom_21 hf (fun I3 hf => ?_)
  refine zW_aload_n 0 dX4_copyFrom_24 rfl ?_
  refine zW_aload_n 1 dX4_copyFrom_25 rfl ?_
  refine zW_getI lk_RX4_21 (hw.1 _ o2) rfl rfl dX4_copyFrom_26 ?_
  refine zF_put lk_RX4_21 (hw.1 _ o) rfl rfl (zn_int _) dX4_copyFrom_29 hf (fun I4 hf => ?_)
  refine zW_aload_n 0 dX4_copyFrom_32 rfl ?_
  refine zW_aload_n 1 dX4_copyFrom_33 rfl ?_
  refine zW_getI lk_RX4_24 (hw.1 _ o2) rfl rfl dX4_copyFrom_34 ?_
  refine zF_put lk_RX4_24 (hw.1 _ o) rfl rfl (zn_int _) dX4_copyFrom_37 hf (fun I5 hf => ?_)
  refine zW_aload_n 0 dX4_copyFrom_40 rfl ?_
  refine zW_aload_n 1 dX4_copyFrom_41 rfl ?_
  refine zW_getI lk_RX4_27 (hw.1 _ o2) rfl rfl dX4_copyFrom_42 ?_
  refine zF_put lk_RX4_27 (hw.1 _ o) rfl rfl (zn_int _) dX4_copyFrom_45 hf (fun I6 hf => ?_)
  refine zW_aload_n 0 dX4_copyFrom_48 rfl ?_
  refine zW_aload_n 1 dX4_copyFrom_49 rfl ?_
  refine zW_getI lk_RX4_30 (hw.1 _ o2) rfl rfl dX4_copyFrom_50 ?_
  refine zF_put lk_RX4_30 (hw.1 _ o) rfl rfl (zn_int _) dX4_copyFrom_53 hf (fun I7 hf => ?_)
  refine zW_aload_n 0 dX4_copyFrom_56 rfl ?_
  refine zW_getR (q' := (8, L, 0)) lk_RX4_36 (hw.1 _ o) rfl rfl (hw.2.1 _ _ _ o rfl) dX4_copyFrom_57 ?_
  refine zW_aload_n 1 dX4_copyFrom_60 rfl ?_
  refine zW_getR (q' := (8, L2, 0)) lk_RX4_36 (hw.1 _ o2) rfl rfl (hw.2.1 _ _ _ o2 rfl) dX4_copyFrom_61 ?_
  refine zC_Vwv (As := [.ref (zad X (8, L2, 0))]) (fun x hx => kX7_copyFrom hw (L := L) (L2 := L2) (zokB (r' := 8) o rfl rfl) (zokB (r' := 8) o2 rfl rfl) hx) mv_RX4_51 (hw.1 _ (zokB (r' := 8) o rfl rfl)) rfl rfl rfl rfl rfl dX4_copyFrom_64 hf (fun r8 hf => ?_)
  refine zW_aload_n 0 dX4_copyFrom_67 rfl ?_
  refine zW_getR (q' := (9, L, 0)) lk_RX4_43 (hw.1 _ o) rfl rfl (hw.2.1 _ _ _ o rfl) dX4_copyFrom_68 ?_
  refine zW_aload_n 1 dX4_copyFrom_71 rfl ?_
  refine zW_getR (q' := (9, L2, 0)) lk_RX4_43 (hw.1 _ o2) rfl rfl (hw.2.1 _ _ _ o2 rfl) dX4_copyFrom_72 ?_
  refine zC_Vwv (As := [.ref (zad X (9, L2, 0))]) (fun x hx => kX5_copyFrom hw (L := L) (L2 := L2) (zokB (r' := 9) o rfl rfl) (zokB (r' := 9) o2 rfl rfl) hx) mv_RX4_55 (hw.1 _ (zokB (r' := 9) o rfl rfl)) rfl rfl rfl rfl rfl dX4_copyFrom_75 hf (fun r9 hf => ?_)
  exact zR_v hw rfl dX4_copyFrom_78 hf
theorem kX4_copyFrom {X : zX} {e : Nat → Prop} (hw : zWf X e) {L : Nat} {L2 : Nat} (o : zOk e (7, L, 0)) (o2 : zOk e (7, L2, 0)) {I : zMem} {u : zMem} (hf : fX4_copyFrom L L2 I = some u) : zCn X mX4_copyFrom yX4_copyFrom [.ref (zad X (7, L, 0)), .ref (zad X (7, L2, 0))] I (none, u) := zCn_of (by decide +kernel) rfl rfl ⟨rfl, rfl⟩ (tX4_copyFrom_0 hw.N o o2 hf)
set_option maxRecDepth 100000 in
theorem tX7_isClear_b22 {X : zX} {e : Nat → Prop} (hw : zWf X e) {L : Nat} {I : zMem} (o : zOk e (8, L, 0)) {u : Int} (hf : fX7_isClear_b22 L I = some u) : zW X (some (vi u), I) mX7_isClear 22 [] [] I := by
  unfold fX7_isClear_b22 at hf
  refine zW_iconst dX7_isClear_22 ?_
  exact zS_z hw rfl (Or.inl rfl) dX7_isClear_23 hf
set_option maxRecDepth 100000 in
theorem tX7_isClear_0 {X : zX} {e : Nat → Prop} (hw : zWf X e) {L : Nat} (o : zOk e (8, L, 0)) {I : zMem} {u : Int} (hf : fX7_isClear L I = some u) : zW X (some (vi u), I) mX7_isClear 0 [(0, .ref (zad X (8, L, 0)))] [] I := by
  unfold fX7_isClear at hf
  refine zW_aload_n 0 dX7_isClear_0 rfl ?_
  refine zW_getI lk_RX7_34 (hw.1 _ o) rfl rfl dX7_isClear_1 ?_
  refine zF_if_ne 22 dX7_isClear_4 rfl rfl hf (fun c hf => ?_) (fun c hf => ?_)
  · refine zW_aload_n 0 dX7_isClear_7 rfl ?_
    refine zW_getI lk_RX7_44 (hw.1 _ o) rfl rfl dX7_isClear_8 ?_
    refine zW_aload_n 0 dX7_isClear_11 rfl ?_
    refine zW_getI lk_RX7_41 (hw.1 _ o) rfl rfl dX7_isClear_12 ?_
    refine zF_icmp_ne 22 dX7_isClear_15 rfl rfl rfl hf (fun c hf => ?_) (fun c hf => ?_)
    · refine zW_iconst dX7_isClear_18 ?_
      refine zW_goto 23 dX7_isClear_19 rfl ?_
      exact zS_z hw rfl (Or.inr rfl) dX7_isClear_23 hf
    · refine zW_sub [] rfl ?_
      exact tX7_isClear_b22 hw o hf
  · refine zW_sub [] rfl ?_
    exact tX7_isClear_b22 hw o hf
theorem kX7_isClear {X : zX} {e : Nat → Prop} (hw : zWf X e) {L : Nat} (o : zOk e (8, L, 0)) {I : zMem} {u : Int} (hf : fX7_isClear L I = some u) : zCn X mX7_isClear yX7_isClear [.ref (zad X (8, L, 0))] I (some (vi u), I) := zCn_of (by decide +kernel) rfl rfl ⟨rfl, rfl⟩ (tX7_isClear_0 hw.N o hf)
set_option maxRecDepth 100000 in
theorem tX0_roundsTillClear_b19_59 {X : zX} {e : Nat → Prop} (hw : zWf X e) {T : zT} {L2 : Nat} {v2 : Int} {w3 : Int} {k0 : Int} {I : zMem} (o : zOk e (5, 0, 0)) (o2 : zOk e (7, L2, 0)) (ko1 : zOk e (7, 0, 0)) (ko2 : zOk e (5, 0, 0)) {u : ((Int × zMem) ⊕ ((Int × zMem) ⊕ (Int × zMem)))} (hf : fX0_roundsTillClear_b19_59 L2 v2 w3 k0 I = some u) (hk : ∀ s', u = .inl s' → zW X T mX0_roundsTillClear 19 [(0, .ref (zad X (5, 0, 0))), (2, vi v2), (3, vi s'.1)] [] s'.2) (hx : ∀ x, u = .inr (.inl x) → zW X T mX0_roundsTillClear 68 [(0, .ref (zad X (5, 0, 0)))] [] x.2) (hr : ∀ z : (Int × zMem), u = .inr (.inr z) → T = (some (vi z.1), z.2)) : zW X T mX0_roundsTillClear 59 [(0, .ref (zad X (5, 0, 0))), (2, vi v2), (3, vi w3)] [vi k0, .ref (zad X (7, 0, 0)), .ref (zad X (5, 0, 0))] I := by
  unfold fX0_roundsTillClear_b19_59 at hf
  refine zC_Vwv (As := [.ref (zad X (7, 0, 0)), vi k0]) (fun x hx => kX0_cleanRound hw (L2 := 0) (v2 := k0) ko2 ko1 hx) mv_RX0_222 (hw.1 _ ko2) rfl rfl rfl rfl rfl dX0_roundsTillClear_59 hf (fun r4 hf => ?_)
  refine zW_iinc 2 (lv' := [(3, vi (w3 + 1)), (0, .ref (zad X (5, 0, 0))), (2, vi v2)]) dX0_roundsTillClear_62 rfl rfl rfl ?_
  refine zW_goto 19 dX0_roundsTillClear_65 rfl ?_
  refine zW_sub [1, 2, 0] rfl ?_
  exact hk _ (Option.some.inj hf).symm
set_option maxRecDepth 100000 in
theorem tX0_roundsTillClear_l19_y {X : zX} {e : Nat → Prop} (hw : zWf X e) {T : zT} {L2 : Nat} {v2 : Int} (o : zOk e (5, 0, 0)) (o2 : zOk e (7, L2, 0)) (s : (Int × zMem)) {u : ((Int × zMem) ⊕ ((Int × zMem) ⊕ (Int × zMem)))} (hf : fX0_roundsTillClear_l19 L2 v2 s = some u) (hk : ∀ s', u = .inl s' → zW X T mX0_roundsTillClear 19 [(0, .ref (zad X (5, 0, 0))), (2, vi v2), (3, vi s'.1)] [] s'.2) (hx : ∀ x, u = .inr (.inl x) → zW X T mX0_roundsTillClear 68 [(0, .ref (zad X (5, 0, 0)))] [] x.2) (hr : ∀ z : (Int × zMem), u = .inr (.inr z) → T = (some (vi z.1), z.2)) : zW X T mX0_roundsTillClear 19 [(0, .ref (zad X (5, 0, 0))), (2, vi v2), (3, vi s.1)] [] s.2 := by
  unfold fX0_roundsTillClear_l19 at hf
  refine zW_iload_n 2 dX0_roundsTillClear_19 rfl ?_
  refine zW_bipush dX0_roundsTillClear_20 rfl ?_
  refine zF_icmp_ge 68 dX0_roundsTillClear_22 rfl rfl (w32_lit _ rfl) hf (fun c hf => ?_) (fun c hf => ?_)
  · refine zW_sub [0] rfl ?_
    exact hx _ (Option.some.inj hf).symm
  · refine zW_aload_n 0 dX0_roundsTillClear_25 rfl ?_
    refine zW_getR (q' := (7, 0, 0)) lk_RX0_18 (hw.1 _ o) rfl rfl (hw.2.1 _ _ _ o rfl) dX0_roundsTillClear_26 ?_
    refine zW_getR (q' := (8, 0, 0)) lk_RX0_49 (hw.1 _ (zokA0 (r' := 7) o rfl rfl)) rfl rfl (hw.2.1 _ _ _ (zokA0 (r' := 7) o rfl rfl) rfl) dX0_roundsTillClear_29 ?_
    refine zC_Vri (As := []) (fun x hx => kX7_isClear hw (L := 0) (zokB (r' := 8) (zokA0 (r' := 7) o rfl rfl) rfl rfl) hx) mv_RX0_218 (hw.1 _ (zokB (r' := 8) (zokA0 (r' := 7) o rfl rfl) rfl rfl)) rfl rfl rfl rfl rfl dX0_roundsTillClear_32 hf (fun r3 hf => ?_)
    refine zF_if_eq 40 dX0_roundsTillClear_35 rfl rfl hf (fun c hf => ?_) (fun c hf => ?_)
    · refine zW_aload_n 0 dX0_roundsTillClear_40 rfl ?_
      refine zW_aload_n 0 dX0_roundsTillClear_41 rfl ?_
      refine zW_getR (q' := (7, 0, 0)) lk_RX0_18 (hw.1 _ o) rfl rfl (hw.2.1 _ _ _ o rfl) dX0_roundsTillClear_42 ?_
      refine zW_iload_n 1 dX0_roundsTillClear_45 rfl ?_
      refine zW_iload_n 2 dX0_roundsTillClear_46 rfl ?_
      refine zW_ishr dX0_roundsTillClear_47 ?_
      refine zW_iconst dX0_roundsTillClear_48 ?_
      refine zW_iand_1 dX0_roundsTillClear_49 ?_
      refine zW_iconst dX0_roundsTillClear_50 ?_
      refine zF_icmp_ne 58 dX0_roundsTillClear_51 rfl (w32_emod _ _ rfl) (w32_lit _ rfl) hf (fun c hf => ?_) (fun c hf => ?_)
      · refine zW_iconst dX0_roundsTillClear_54 ?_
        refine zW_goto 59 dX0_roundsTillClear_55 rfl ?_
        refine zW_sub [0, 1, 2] rfl ?_
        exact tX0_roundsTillClear_b19_59 hw o o2 (zokA0 (r' := 7) o rfl rfl) o hf hk hx hr
      · refine zW_iconst dX0_roundsTillClear_58 ?_
        refine zW_sub [0, 1, 2] rfl ?_
        exact tX0_roundsTillClear_b19_59 hw o o2 (zokA0 (r' := 7) o rfl rfl) o hf hk hx hr
    · refine zW_iload_n 2 dX0_roundsTillClear_38 rfl ?_
      exact zQ_i hw rfl dX0_roundsTillClear_39 (hr _ (Option.some.inj hf).symm)
theorem tX0_roundsTillClear_l19 {X : zX} {e : Nat → Prop} (hw : zWf X e) {T : zT} {L2 : Nat} {v2 : Int} (o : zOk e (5, 0, 0)) (o2 : zOk e (7, L2, 0)) {s0 : (Int × zMem)} {α : Type} {F : (Int × zMem) → Option α} {Gr : (Int × zMem) → α} {u : α} (hf : zbr (zlp (fX0_roundsTillClear_l19 L2 v2) 5000 s0) F Gr = some u) (kx : ∀ x, F x = some u → zW X T mX0_roundsTillClear 68 [(0, .ref (zad X (5, 0, 0)))] [] x.2) (kr : ∀ z, Gr z = u → T = (some (vi z.1), z.2)) : zW X T mX0_roundsTillClear 19 [(0, .ref (zad X (5, 0, 0))), (2, vi v2), (3, vi s0.1)] [] s0.2 := by
  have hb := zlp_W (body := fX0_roundsTillClear_l19 L2 v2) (P := fun s => zW X T mX0_roundsTillClear 19 [(0, .ref (zad X (5, 0, 0))), (2, vi v2), (3, vi s.1)] [] s.2) (E := fun x => (∀ a, x = .inl a → zW X T mX0_roundsTillClear 68 [(0, .ref (zad X (5, 0, 0)))] [] a.2) ∧ ∀ z, x = .inr z → T = (some (vi z.1), z.2)) (fun s u h hk hx => tX0_roundsTillClear_l19_y hw o o2 s h hk (fun x hu => (hx _ hu).1 x rfl) (fun z hu => (hx _ hu).2 z rfl))
  rcases zbr_inv hf with ⟨x, h, hf⟩ | ⟨z, h, hz⟩
  · exact hb _ s0 _ h ⟨fun a ea => (by cases ea; exact kx _ hf), fun z ez => (by cases ez)⟩
  · exact hb _ s0 _ h ⟨fun a ea => (by cases ea), fun z ez => (by cases ez; exact kr _ hz)⟩
set_option maxRecDepth 100000 in
theorem tX0_roundsTillClear_0 {X : zX} {e : Nat → Prop} (hw : zWf X e) {L2 : Nat} {v2 : Int} (o : zOk e (5, 0, 0)) (o2 : zOk e (7, L2, 0)) {I : zMem} {u : (Int × zMem)} (hf : fX0_roundsTillClear L2 v2 I = some u) : zW X (some (vi u.1), u.2) mX0_roundsTillClear 0 [(0, .ref (zad X (5, 0, 0))), (1, .ref (zad X (7, L2, 0))), (2, vi v2)] [] I := by
  unfold fX0_roundsTillClear at hf
  refine zW_aload_n 0 dX0_roundsTillClear_0 rfl ?_
  refine zW_getR (q' := (7, 0, 0)) lk_RX0_18 (hw.1 _ o) rfl rfl (hw.2.1 _ _ _ o rfl) dX0_roundsTillClear_1 ?_
  refine zW_aload_n 1 dX0_roundsTillClear_4 rfl ?_
  refine zC_Vwv (As := [.ref (zad X (7, L2, 0))]) (fun x hx => kX4_copyFrom hw (L := 0) (L2 := L2) (zokA0 (r' := 7) o rfl rfl) o2 hx) mv_RX0_214 (hw.1 _ (zokA0 (r' := 7) o rfl rfl)) rfl rfl rfl rfl rfl dX0_roundsTillClear_5 hf (fun r1 hf => ?_)
  refine zW_aload_n 0 dX0_roundsTillClear_8 rfl ?_
  refine zW_getR (q' := (7, 0, 0)) lk_RX0_18 (hw.1 _ o) rfl rfl (hw.2.1 _ _ _ o rfl) dX0_roundsTillClear_9 ?_
  refine zW_bipush dX0_roundsTillClear_12 rfl ?_
  refine zF_put lk_RX0_93 (hw.1 _ (zokA0 (r' := 7) o rfl rfl)) rfl rfl (zn_int _) dX0_roundsTillClear_14 hf (fun I2 hf => ?_)
  refine zW_iconst dX0_roundsTillClear_17 ?_
  refine zW_istore_n (lv' := [(3, vi 0), (0, .ref (zad X (5, 0, 0))), (1, .ref (zad X (7, L2, 0))), (2, vi v2)]) dX0_roundsTillClear_18 rfl rfl ?_
  refine zW_sub [1, 3, 0] rfl ?_
  refine tX0_roundsTillClear_l19 hw o o2 (s0 := (0, I2)) hf (fun x5 hf => ?_) (fun z hz => by cases hz; rfl)
  refine zW_aload_n 0 dX0_roundsTillClear_68 rfl ?_
  refine zW_getR (q' := (7, 0, 0)) lk_RX0_18 (hw.1 _ o) rfl rfl (hw.2.1 _ _ _ o rfl) dX0_roundsTillClear_69 ?_
  refine zW_getR (q' := (8, 0, 0)) lk_RX0_49 (hw.1 _ (zokA0 (r' := 7) o rfl rfl)) rfl rfl (hw.2.1 _ _ _ (zokA0 (r' := 7) o rfl rfl) rfl) dX0_roundsTillClear_72 ?_
  refine zC_Vri (As := []) (fun x hx => kX7_isClear hw (L := 0) (zokB (r' := 8) (zokA0 (r' := 7) o rfl rfl) rfl rfl) hx) mv_RX0_218 (hw.1 _ (zokB (r' := 8) (zokA0 (r' := 7) o rfl rfl) rfl rfl)) rfl rfl rfl rfl rfl dX0_roundsTillClear_75 hf (fun r6 hf => ?_)
  refine zF_if_eq 86 dX0_roundsTillClear_78 rfl rfl hf (fun c hf => ?_) (fun c hf => ?_)
  · refine zW_iconst dX0_roundsTillClear_86 ?_
    exact zR_i hw rfl dX0_roundsTillClear_87 hf
  · refine zW_bipush dX0_roundsTillClear_81 rfl ?_
    refine zW_goto 87 dX0_roundsTillClear_83 rfl ?_
    exact zR_i hw rfl dX0_roundsTillClear_87 hf
theorem kX0_roundsTillClear {X : zX} {e : Nat → Prop} (hw : zWf X e) {L2 : Nat} {v2 : Int} (o : zOk e (5, 0, 0)) (o2 : zOk e (7, L2, 0)) {I : zMem} {u : (Int × zMem)} (hf : fX0_roundsTillClear L2 v2 I = some u) : zCn X mX0_roundsTillClear yX0_roundsTillClear [.ref (zad X (5, 0, 0)), .ref (zad X (7, L2, 0)), vi v2] I (some (vi u.1), u.2) := zCn_of (by decide +kernel) rfl rfl ⟨rfl, rfl⟩ (tX0_roundsTillClear_0 hw.N o o2 hf)
set_option maxRecDepth 100000 in
theorem tX2_sumAll_l26_y {X : zX} {e : Nat → Prop} (hw : zWf X e) {T : zT} {q1 : zPl} {w2 : Int} (o : zOk e (4, 0, 0)) (hq1 : zDom X q1) (hk1 : zkd q1.1 = (14, 39)) (s : (Int × zMem)) {u : ((Int × zMem) ⊕ (Int × zMem))} (hf : fX2_sumAll_l26 q1 w2 s = some u) (hk : ∀ s', u = .inl s' → zW X T mX2_sumAll 26 [(0, .ref (zad X (4, 0, 0))), (2, vi w2), (3, vi s'.1)] [] s'.2) (hx : ∀ x, u = .inr x → zW X T mX2_sumAll 65 [(0, .ref (zad X (4, 0, 0))), (2, vi w2)] [] x.2) : zW X T mX2_sumAll 26 [(0, .ref (zad X (4, 0, 0))), (2, vi w2), (3, vi s.1)] [] s.2 := by
  unfold fX2_sumAll_l26 at hf
  refine zW_iload_n 2 dX2_sumAll_26 rfl ?_
  refine zF_if_lt 65 dX2_sumAll_27 rfl rfl hf (fun c hf => ?_) (fun c hf => ?_)
  · refine zW_sub [0, 1] rfl ?_
    exact hx _ (Option.some.inj hf).symm
  · refine zW_aload_n 0 dX2_sumAll_30 rfl ?_
    refine zW_getR (q' := (23, 0, 0)) lk_RX2_15 (hw.1 _ o) rfl rfl (hw.2.1 _ _ _ o rfl) dX2_sumAll_31 ?_
    refine zW_iload_n 2 dX2_sumAll_34 rfl ?_
    refine zW_aload_n 0 dX2_sumAll_35 rfl ?_
    refine zW_getR (q' := (23, 0, 0)) lk_RX2_15 (hw.1 _ o) rfl rfl (hw.2.1 _ _ _ o rfl) dX2_sumAll_36 ?_
    refine zW_iload_n 2 dX2_sumAll_39 rfl ?_
    refine zW_iconst dX2_sumAll_40 ?_
    refine zW_ishr dX2_sumAll_41 ?_
    obtain ⟨c4, hf⟩ := zgd hf
    refine zF_iald (hw.1 _ (zokA (r' := 23) o rfl rfl)) rfl c4 rfl dX2_sumAll_42 ?_
    refine zW_aload_n 0 dX2_sumAll_43 rfl ?_
    refine zW_getR (q' := (22, 0, 0)) lk_RX2_9 (hw.1 _ o) rfl rfl (hw.2.1 _ _ _ o rfl) dX2_sumAll_44 ?_
    refine zW_bipush dX2_sumAll_47 rfl ?_
    refine zW_iload_n 1 dX2_sumAll_49 rfl ?_
    refine zW_imul dX2_sumAll_50 ?_
    refine zW_iload_n 2 dX2_sumAll_51 rfl ?_
    refine zW_bipush dX2_sumAll_52 rfl ?_
    refine zW_iand_7 dX2_sumAll_54 ?_
    refine zW_iadd dX2_sumAll_55 ?_
    obtain ⟨c5, hf⟩ := zgd hf
    refine zF_iald (hw.1 _ (zokA (r' := 22) o rfl rfl)) rfl c5 rfl dX2_sumAll_56 ?_
    refine zW_iadd dX2_sumAll_57 ?_
    obtain ⟨c6, hf⟩ := zgd hf
    refine zF_iast (hw.1 _ (zokA (r' := 23) o rfl rfl)) rfl c6 rfl dX2_sumAll_58 hf (fun I7 hf => ?_)
    refine zW_iinc 2 (lv' := [(3, vi (s.1 + (-1))), (0, .ref (zad X (4, 0, 0))), (2, vi w2)]) dX2_sumAll_59 rfl rfl rfl ?_
    refine zW_goto 26 dX2_sumAll_62 rfl ?_
    refine zW_sub [1, 2, 0] rfl ?_
    exact hk _ (Option.some.inj hf).symm
theorem tX2_sumAll_l26 {X : zX} {e : Nat → Prop} (hw : zWf X e) {T : zT} {q1 : zPl} {w2 : Int} (o : zOk e (4, 0, 0)) (hq1 : zDom X q1) (hk1 : zkd q1.1 = (14, 39)) {s0 : (Int × zMem)} {α : Type} {F : (Int × zMem) → Option α} {u : α} (hf : zb (zlp (fX2_sumAll_l26 q1 w2) 5000 s0) F = some u) (kx : ∀ x, F x = some u → zW X T mX2_sumAll 65 [(0, .ref (zad X (4, 0, 0))), (2, vi w2)] [] x.2) : zW X T mX2_sumAll 26 [(0, .ref (zad X (4, 0, 0))), (2, vi w2), (3, vi s0.1)] [] s0.2 := by
  obtain ⟨x, h, hf⟩ := zb_inv hf
  exact zlp_W (P := fun s => zW X T mX2_sumAll 26 [(0, .ref (zad X (4, 0, 0))), (2, vi w2), (3, vi s.1)] [] s.2) (E := fun x => zW X T mX2_sumAll 65 [(0, .ref (zad X (4, 0, 0))), (2, vi w2)] [] x.2) (fun s u h hk hx => tX2_sumAll_l26_y hw o hq1 hk1 s h hk hx) _ s0 x h (kx x hf)
set_option maxRecDepth 100000 in
theorem tX2_sumAll_l14_y {X : zX} {e : Nat → Prop} (hw : zWf X e) {T : zT} {q1 : zPl} (o : zOk e (4, 0, 0)) (hq1 : zDom X q1) (hk1 : zkd q1.1 = (14, 39)) (s : (Int × zMem)) {u : ((Int × zMem) ⊕ (Int × zMem))} (hf : fX2_sumAll_l14 q1 s = some u) (hk : ∀ s', u = .inl s' → zW X T mX2_sumAll 14 [(0, .ref (zad X (4, 0, 0))), (2, vi s'.1)] [] s'.2) (hx : ∀ x, u = .inr x → zW X T mX2_sumAll 71 [(0, .ref (zad X (4, 0, 0)))] [] x.2) : zW X T mX2_sumAll 14 [(0, .ref (zad X (4, 0, 0))), (2, vi s.1)] [] s.2 := by
  unfold fX2_sumAll_l14 at hf
  refine zW_iload_n 1 dX2_sumAll_14 rfl ?_
  refine zW_bipush dX2_sumAll_15 rfl ?_
  refine zF_icmp_ge 71 dX2_sumAll_17 rfl rfl (w32_lit _ rfl) hf (fun c hf => ?_) (fun c hf => ?_)
  · refine zW_sub [0] rfl ?_
    exact hx _ (Option.some.inj hf).symm
  · refine zW_iconst dX2_sumAll_20 ?_
    refine zW_iload_n 1 dX2_sumAll_21 rfl ?_
    refine zW_ishl dX2_sumAll_22 ?_
    refine zW_iconst dX2_sumAll_23 ?_
    refine zW_isub dX2_sumAll_24 ?_
    refine zF_istore_n (lv' := fun a3 => [(3, vi a3), (0, .ref (zad X (4, 0, 0))), (2, vi s.1)]) dX2_sumAll_25 hf (fun _ => rfl) rfl (fun a3 hf => ?_)
    refine zW_sub [1, 2, 0] rfl ?_
    refine tX2_sumAll_l26 hw o hq1 hk1 (s0 := (a3, s.2)) hf (fun x8 hf => ?_)
    refine zW_iinc 1 (lv' := [(2, vi (s.1 + 1)), (0, .ref (zad X (4, 0, 0)))]) dX2_sumAll_65 rfl rfl rfl ?_
    refine zW_goto 14 dX2_sumAll_68 rfl ?_
    refine zW_sub [1, 0] rfl ?_
    exact hk _ (Option.some.inj hf).symm
theorem tX2_sumAll_l14 {X : zX} {e : Nat → Prop} (hw : zWf X e) {T : zT} {q1 : zPl} (o : zOk e (4, 0, 0)) (hq1 : zDom X q1) (hk1 : zkd q1.1 = (14, 39)) {s0 : (Int × zMem)} {α : Type} {F : (Int × zMem) → Option α} {u : α} (hf : zb (zlp (fX2_sumAll_l14 q1) 5000 s0) F = some u) (kx : ∀ x, F x = some u → zW X T mX2_sumAll 71 [(0, .ref (zad X (4, 0, 0)))] [] x.2) : zW X T mX2_sumAll 14 [(0, .ref (zad X (4, 0, 0))), (2, vi s0.1)] [] s0.2 := by
  obtain ⟨x, h, hf⟩ := zb_inv hf
  exact zlp_W (P := fun s => zW X T mX2_sumAll 14 [(0, .ref (zad X (4, 0, 0))), (2, vi s.1)] [] s.2) (E := fun x => zW X T mX2_sumAll 71 [(0, .ref (zad X (4, 0, 0)))] [] x.2) (fun s u h hk hx => tX2_sumAll_l14_y hw o hq1 hk1 s h hk hx) _ s0 x h (kx x hf)
set_option maxRecDepth 100000 in
theorem tX2_sumAll_l73_y {X : zX} {e : Nat → Prop} (hw : zWf X e) {T : zT} {q1 : zPl} (o : zOk e (4, 0, 0)) (hq1 : zDom X q1) (hk1 : zkd q1.1 = (14, 39)) (s : (Int × zMem)) {u : ((Int × zMem) ⊕ (Int × zMem))} (hf : fX2_sumAll_l73 q1 s = some u) (hk : ∀ s', u = .inl s' → zW X T mX2_sumAll 73 [(0, .ref (zad X (4, 0, 0))), (2, vi s'.1)] [] s'.2) (hx : ∀ x, u = .inr x → zW X T mX2_sumAll 102 [] [] x.2) : zW X T mX2_sumAll 73 [(0, .ref (zad X (4, 0, 0))), (2, vi s.1)] [] s.2 := by
  unfold fX2_sumAll_l73 at hf
  refine zW_iload_n 1 dX2_sumAll_73 rfl ?_
  refine zW_sipush dX2_sumAll_74 rfl ?_
  refine zF_icmp_ge 102 dX2_sumAll_77 rfl rfl (w32_lit _ rfl) hf (fun c hf => ?_) (fun c hf => ?_)
  · refine zW_sub [] rfl ?_
    exact hx _ (Option.some.inj hf).symm
  · refine zW_aload_n 0 dX2_sumAll_80 rfl ?_
    refine zW_getR (q' := (23, 0, 0)) lk_RX2_15 (hw.1 _ o) rfl rfl (hw.2.1 _ _ _ o rfl) dX2_sumAll_81 ?_
    refine zW_iload_n 1 dX2_sumAll_84 rfl ?_
    refine zW_dup2 dX2_sumAll_85 rfl rfl ?_
    obtain ⟨c10, hf⟩ := zgd hf
    refine zF_iald (hw.1 _ (zokA (r' := 23) o rfl rfl)) rfl c10 rfl dX2_sumAll_86 ?_
    refine zW_aload_n 0 dX2_sumAll_87 rfl ?_
    refine zW_iload_n 1 dX2_sumAll_88 rfl ?_
    refine zW_iconst dX2_sumAll_89 ?_
    refine zW_iand_3 dX2_sumAll_90 ?_
    refine zC_Vri (As := [vi (s.1 % 4)]) (fun x hx => kX2_tailGain hw (v1 := s.1 % 4) o hx) mv_RX2_34 (hw.1 _ o) rfl rfl rfl rfl rfl dX2_sumAll_91 hf (fun r11 hf => ?_)
    refine zW_iadd dX2_sumAll_94 ?_
    refine zF_iast (hw.1 _ (zokA (r' := 23) o rfl rfl)) rfl c10 rfl dX2_sumAll_95 hf (fun I12 hf => ?_)
    refine zW_iinc 1 (lv' := [(2, vi (s.1 + 1)), (0, .ref (zad X (4, 0, 0)))]) dX2_sumAll_96 rfl rfl rfl ?_
    refine zW_goto 73 dX2_sumAll_99 rfl ?_
    refine zW_sub [1, 0] rfl ?_
    exact hk _ (Option.some.inj hf).symm
theorem tX2_sumAll_l73 {X : zX} {e : Nat → Prop} (hw : zWf X e) {T : zT} {q1 : zPl} (o : zOk e (4, 0, 0)) (hq1 : zDom X q1) (hk1 : zkd q1.1 = (14, 39)) {s0 : (Int × zMem)} {α : Type} {F : (Int × zMem) → Option α} {u : α} (hf : zb (zlp (fX2_sumAll_l73 q1) 5000 s0) F = some u) (kx : ∀ x, F x = some u → zW X T mX2_sumAll 102 [] [] x.2) : zW X T mX2_sumAll 73 [(0, .ref (zad X (4, 0, 0))), (2, vi s0.1)] [] s0.2 := by
  obtain ⟨x, h, hf⟩ := zb_inv hf
  exact zlp_W (P := fun s => zW X T mX2_sumAll 73 [(0, .ref (zad X (4, 0, 0))), (2, vi s.1)] [] s.2) (E := fun x => zW X T mX2_sumAll 102 [] [] x.2) (fun s u h hk hx => tX2_sumAll_l73_y hw o hq1 hk1 s h hk hx) _ s0 x h (kx x hf)
set_option maxRecDepth 100000 in
theorem tX2_sumAll_0 {X : zX} {e : Nat → Prop} (hw : zWf X e) {q1 : zPl} (o : zOk e (4, 0, 0)) (hq1 : zDom X q1) (hk1 : zkd q1.1 = (14, 39)) {I : zMem} {u : zMem} (hf : fX2_sumAll q1 I = some u) : zW X (none, u) mX2_sumAll 0 [(0, .ref (zad X (4, 0, 0))), (1, .ref (zad X q1))] [] I := by
  unfold fX2_sumAll at hf
  refine zW_aload_n 0 dX2_sumAll_0 rfl ?_
  refine zW_aload_n 1 dX2_sumAll_1 rfl ?_
  refine zC_Vwv (As := [.ref (zad X q1)]) (fun x hx => kX2_measure hw (q1 := q1) o hq1 hk1 hx) mv_RX2_30 (hw.1 _ o) rfl rfl rfl rfl rfl dX2_sumAll_2 hf (fun r1 hf => ?_)
  refine zW_aload_n 0 dX2_sumAll_5 rfl ?_
  refine zW_getR (q' := (23, 0, 0)) lk_RX2_15 (hw.1 _ o) rfl rfl (hw.2.1 _ _ _ o rfl) dX2_sumAll_6 ?_
  refine zW_iconst dX2_sumAll_9 ?_
  refine zW_iconst dX2_sumAll_10 ?_
  refine zF_iast (hw.1 _ (zokA (r' := 23) o rfl rfl)) rfl (zin_lit _ _ rfl) (ix_lit _ rfl) dX2_sumAll_11 hf (fun I2 hf => ?_)
  refine zW_iconst dX2_sumAll_12 ?_
  refine zW_istore_n (lv' := [(2, vi 0), (0, .ref (zad X (4, 0, 0))), (1, .ref (zad X q1))]) dX2_sumAll_13 rfl rfl ?_
  refine zW_sub [1, 0] rfl ?_
  refine tX2_sumAll_l14 hw o hq1 hk1 (s0 := (0, I2)) hf (fun x9 hf => ?_)
  refine zW_iconst dX2_sumAll_71 ?_
  refine zW_istore_n (lv' := [(2, vi 0), (0, .ref (zad X (4, 0, 0)))]) dX2_sumAll_72 rfl rfl ?_
  refine zW_sub [1, 0] rfl ?_
  refine tX2_sumAll_l73 hw o hq1 hk1 (s0 := (0, x9.2)) hf (fun x13 hf => ?_)
  exact zR_v hw rfl dX2_sumAll_102 hf
theorem kX2_sumAll {X : zX} {e : Nat → Prop} (hw : zWf X e) {q1 : zPl} (o : zOk e (4, 0, 0)) (hq1 : zDom X q1) (hk1 : zkd q1.1 = (14, 39)) {I : zMem} {u : zMem} (hf : fX2_sumAll q1 I = some u) : zCn X mX2_sumAll yX2_sumAll [.ref (zad X (4, 0, 0)), .ref (zad X q1)] I (none, u) := zCn_of (by decide +kernel) rfl rfl ⟨rfl, rfl⟩ (tX2_sumAll_0 hw.N o hq1 hk1 hf)
set_option maxRecDepth 100000 in
theorem tX2_greatestBut_b14_43 {X : zX} {e : Nat → Prop} (hw : zWf X e) {T : zT} {v1 : Int} {I : zMem} {w2 : Int} {w3 : Int} (o : zOk e (4, 0, 0)) {u : ((Int × Int) ⊕ (Int × Int))} (hf : fX2_greatestBut_b14_43 v1 I w2 w3 = some u) (hk : ∀ s', u = .inl s' → zW X T mX2_greatestBut 14 [(0, .ref (zad X (4, 0, 0))), (1, vi v1), (2, vi s'.1), (3, vi s'.2)] [] I) (hx : ∀ x, u = .inr x → zW X T mX2_greatestBut 49 [(2, vi x.1)] [] I) : zW X T mX2_greatestBut 43 [(0, .ref (zad X (4, 0, 0))), (1, vi v1), (2, vi w2), (3, vi w3)] [] I := by
  unfold fX2_greatestBut_b14_43 at hf
  refine zW_iinc 3 (lv' := [(3, vi (w3 + 1)), (0, .ref (zad X (4, 0, 0))), (1, vi v1), (2, vi w2)]) dX2_greatestBut_43 rfl rfl rfl ?_
  refine zW_goto 14 dX2_greatestBut_46 rfl ?_
  refine zW_sub [1, 2, 3, 0] rfl ?_
  exact hk _ (Option.some.inj hf).symm
set_option maxRecDepth 100000 in
theorem tX2_greatestBut_l14_y {X : zX} {e : Nat → Prop} (hw : zWf X e) {T : zT} {v1 : Int} {I : zMem} (o : zOk e (4, 0, 0)) (s : (Int × Int)) {u : ((Int × Int) ⊕ (Int × Int))} (hf : fX2_greatestBut_l14 v1 I s = some u) (hk : ∀ s', u = .inl s' → zW X T mX2_greatestBut 14 [(0, .ref (zad X (4, 0, 0))), (1, vi v1), (2, vi s'.1), (3, vi s'.2)] [] I) (hx : ∀ x, u = .inr x → zW X T mX2_greatestBut 49 [(2, vi x.1)] [] I) : zW X T mX2_greatestBut 14 [(0, .ref (zad X (4, 0, 0))), (1, vi v1), (2, vi s.1), (3, vi s.2)] [] I := by
  unfold fX2_greatestBut_l14 at hf
  refine zW_iload_n 3 dX2_greatestBut_14 rfl ?_
  refine zW_sipush dX2_greatestBut_15 rfl ?_
  refine zF_icmp_ge 49 dX2_greatestBut_18 rfl rfl (w32_lit _ rfl) hf (fun c hf => ?_) (fun c hf => ?_)
  · refine zW_sub [2] rfl ?_
    exact hx _ (Option.some.inj hf).symm
  · refine zW_iload_n 3 dX2_greatestBut_21 rfl ?_
    refine zW_iload_n 1 dX2_greatestBut_22 rfl ?_
    refine zF_icmp_eq 43 dX2_greatestBut_23 rfl rfl rfl hf (fun c hf => ?_) (fun c hf => ?_)
    · refine zW_sub [0, 1, 2, 3] rfl ?_
      exact tX2_greatestBut_b14_43 hw o hf hk hx
    · refine zW_aload_n 0 dX2_greatestBut_26 rfl ?_
      refine zW_getR (q' := (23, 0, 0)) lk_RX2_15 (hw.1 _ o) rfl rfl (hw.2.1 _ _ _ o rfl) dX2_greatestBut_27 ?_
      refine zW_iload_n 3 dX2_greatestBut_30 rfl ?_
      obtain ⟨c2, hf⟩ := zgd hf
      refine zF_iald (hw.1 _ (zokA (r' := 23) o rfl rfl)) rfl c2 rfl dX2_greatestBut_31 ?_
      refine zW_aload_n 0 dX2_greatestBut_32 rfl ?_
      refine zW_getR (q' := (23, 0, 0)) lk_RX2_15 (hw.1 _ o) rfl rfl (hw.2.1 _ _ _ o rfl) dX2_greatestBut_33 ?_
      refine zW_iload_n 2 dX2_greatestBut_36 rfl ?_
      obtain ⟨c3, hf⟩ := zgd hf
      refine zF_iald (hw.1 _ (zokA (r' := 23) o rfl rfl)) rfl c3 rfl dX2_greatestBut_37 ?_
      refine zF_icmp_le 43 dX2_greatestBut_38 rfl rfl rfl hf (fun c hf => ?_) (fun c hf => ?_)
      · refine zW_sub [0, 1, 2, 3] rfl ?_
        exact tX2_greatestBut_b14_43 hw o hf hk hx
      · refine zW_iload_n 3 dX2_greatestBut_41 rfl ?_
        refine zW_istore_n (lv' := [(2, vi s.2), (0, .ref (zad X (4, 0, 0))), (1, vi v1), (3, vi s.2)]) dX2_greatestBut_42 rfl rfl ?_
        refine zW_sub [1, 2, 0, 3] rfl ?_
        exact tX2_greatestBut_b14_43 hw o hf hk hx
theorem tX2_greatestBut_l14 {X : zX} {e : Nat → Prop} (hw : zWf X e) {T : zT} {v1 : Int} {I : zMem} (o : zOk e (4, 0, 0)) {s0 : (Int × Int)} {α : Type} {F : (Int × Int) → Option α} {u : α} (hf : zb (zlp (fX2_greatestBut_l14 v1 I) 5000 s0) F = some u) (kx : ∀ x, F x = some u → zW X T mX2_greatestBut 49 [(2, vi x.1)] [] I) : zW X T mX2_greatestBut 14 [(0, .ref (zad X (4, 0, 0))), (1, vi v1), (2, vi s0.1), (3, vi s0.2)] [] I := by
  obtain ⟨x, h, hf⟩ := zb_inv hf
  exact zlp_W (P := fun s => zW X T mX2_greatestBut 14 [(0, .ref (zad X (4, 0, 0))), (1, vi v1), (2, vi s.1), (3, vi s.2)] [] I) (E := fun x => zW X T mX2_greatestBut 49 [(2, vi x.1)] [] I) (fun s u h hk hx => tX2_greatestBut_l14_y hw o s h hk hx) _ s0 x h (kx x hf)
set_option maxRecDepth 100000 in
theorem tX2_greatestBut_b9 {X : zX} {e : Nat → Prop} (hw : zWf X e) {v1 : Int} {I : zMem} {k0 : Int} (o : zOk e (4, 0, 0)) {u : Int} (hf : fX2_greatestBut_b9 v1 I k0 = some u) : zW X (some (vi u), I) mX2_greatestBut 9 [(0, .ref (zad X (4, 0, 0))), (1, vi v1)] [vi k0] I := by
  unfold fX2_greatestBut_b9 at hf
  refine zW_istore_n (lv' := [(2, vi k0), (0, .ref (zad X (4, 0, 0))), (1, vi v1)]) dX2_greatestBut_9 rfl rfl ?_
  refine zW_iload_n 0 dX2_greatestBut_10 rfl ?_
  refine zW_iconst dX2_greatestBut_11 ?_
  refine zW_iadd dX2_greatestBut_12 ?_
  refine zF_istore_n (lv' := fun a1 => [(3, vi a1), (2, vi k0), (0, .ref (zad X (4, 0, 0))), (1, vi v1)]) dX2_greatestBut_13 hf (fun _ => rfl) rfl (fun a1 hf => ?_)
  refine zW_sub [2, 3, 1, 0] rfl ?_
  refine tX2_greatestBut_l14 hw o (s0 := (k0, a1)) hf (fun x4 hf => ?_)
  refine zW_iload_n 0 dX2_greatestBut_49 rfl ?_
  exact zS_i hw rfl dX2_greatestBut_50 hf
set_option maxRecDepth 100000 in
theorem tX2_greatestBut_0 {X : zX} {e : Nat → Prop} (hw : zWf X e) {v1 : Int} (o : zOk e (4, 0, 0)) {I : zMem} {u : Int} (hf : fX2_greatestBut v1 I = some u) : zW X (some (vi u), I) mX2_greatestBut 0 [(0, .ref (zad X (4, 0, 0))), (1, vi v1)] [] I := by
  unfold fX2_greatestBut at hf
  refine zW_iload_n 1 dX2_greatestBut_0 rfl ?_
  refine zF_if_ne 8 dX2_greatestBut_1 rfl rfl hf (fun c hf => ?_) (fun c hf => ?_)
  · refine zW_iconst dX2_greatestBut_4 ?_
    refine zW_goto 9 dX2_greatestBut_5 rfl ?_
    refine zW_sub [0, 1] rfl ?_
    exact tX2_greatestBut_b9 hw o hf
  · refine zW_iconst dX2_greatestBut_8 ?_
    refine zW_sub [0, 1] rfl ?_
    exact tX2_greatestBut_b9 hw o hf
theorem kX2_greatestBut {X : zX} {e : Nat → Prop} (hw : zWf X e) {v1 : Int} (o : zOk e (4, 0, 0)) {I : zMem} {u : Int} (hf : fX2_greatestBut v1 I = some u) : zCn X mX2_greatestBut yX2_greatestBut [.ref (zad X (4, 0, 0)), vi v1] I (some (vi u), I) := zCn_of (by decide +kernel) rfl rfl ⟨rfl, rfl⟩ (tX2_greatestBut_0 hw.N o hf)
set_option maxRecDepth 100000 in
theorem tX2_greatestWith_b6_36 {X : zX} {e : Nat → Prop} (hw : zWf X e) {T : zT} {v1 : Int} {v2 : Int} {I : zMem} {w3 : Int} {w4 : Int} (o : zOk e (4, 0, 0)) {u : ((Int × Int) ⊕ (Int × Int))} (hf : fX2_greatestWith_b6_36 v1 v2 I w3 w4 = some u) (hk : ∀ s', u = .inl s' → zW X T mX2_greatestWith 6 [(0, .ref (zad X (4, 0, 0))), (1, vi v1), (2, vi v2), (3, vi s'.1), (4, vi s'.2)] [] I) (hx : ∀ x, u = .inr x → zW X T mX2_greatestWith 42 [(3, vi x.1)] [] I) : zW X T mX2_greatestWith 36 [(0, .ref (zad X (4, 0, 0))), (1, vi v1), (2, vi v2), (3, vi w3), (4, vi w4)] [] I := by
  unfold fX2_greatestWith_b6_36 at hf
  refine zW_iinc 4 (lv' := [(4, vi (w4 + 1)), (0, .ref (zad X (4, 0, 0))), (1, vi v1), (2, vi v2), (3, vi w3)]) dX2_greatestWith_36 rfl rfl rfl ?_
  refine zW_goto 6 dX2_greatestWith_39 rfl ?_
  refine zW_sub [1, 2, 3, 4, 0] rfl ?_
  exact hk _ (Option.some.inj hf).symm
set_option maxRecDepth 100000 in
theorem tX2_greatestWith_l6_y {X : zX} {e : Nat → Prop} (hw : zWf X e) {T : zT} {v1 : Int} {v2 : Int} {I : zMem} (o : zOk e (4, 0, 0)) (s : (Int × Int)) {u : ((Int × Int) ⊕ (Int × Int))} (hf : fX2_greatestWith_l6 v1 v2 I s = some u) (hk : ∀ s', u = .inl s' → zW X T mX2_greatestWith 6 [(0, .ref (zad X (4, 0, 0))), (1, vi v1), (2, vi v2), (3, vi s'.1), (4, vi s'.2)] [] I) (hx : ∀ x, u = .inr x → zW X T mX2_greatestWith 42 [(3, vi x.1)] [] I) : zW X T mX2_greatestWith 6 [(0, .ref (zad X (4, 0, 0))), (1, vi v1), (2, vi v2), (3, vi s.1), (4, vi s.2)] [] I := by
  unfold fX2_greatestWith_l6 at hf
  refine zW_iload 4 dX2_greatestWith_6 rfl ?_
  refine zW_sipush dX2_greatestWith_8 rfl ?_
  refine zF_icmp_ge 42 dX2_greatestWith_11 rfl rfl (w32_lit _ rfl) hf (fun c hf => ?_) (fun c hf => ?_)
  · refine zW_sub [3] rfl ?_
    exact hx _ (Option.some.inj hf).symm
  · refine zW_iload 4 dX2_greatestWith_14 rfl ?_
    refine zW_iload_n 1 dX2_greatestWith_16 rfl ?_
    refine zW_ishr dX2_greatestWith_17 ?_
    refine zW_iconst dX2_greatestWith_18 ?_
    refine zW_iand_1 dX2_greatestWith_19 ?_
    refine zW_iload_n 2 dX2_greatestWith_20 rfl ?_
    refine zF_icmp_ne 36 dX2_greatestWith_21 rfl (w32_emod _ _ rfl) rfl hf (fun c hf => ?_) (fun c hf => ?_)
    · refine zW_iload_n 3 dX2_greatestWith_24 rfl ?_
      refine zW_aload_n 0 dX2_greatestWith_25 rfl ?_
      refine zW_getR (q' := (23, 0, 0)) lk_RX2_15 (hw.1 _ o) rfl rfl (hw.2.1 _ _ _ o rfl) dX2_greatestWith_26 ?_
      refine zW_iload 4 dX2_greatestWith_29 rfl ?_
      obtain ⟨c1, hf⟩ := zgd hf
      refine zF_iald (hw.1 _ (zokA (r' := 23) o rfl rfl)) rfl c1 rfl dX2_greatestWith_31 ?_
      refine zW_max mm_RX2_55 rfl dX2_greatestWith_32 ?_
      refine zF_istore_n (lv' := fun a2 => [(3, vi a2), (0, .ref (zad X (4, 0, 0))), (1, vi v1), (2, vi v2), (4, vi s.2)]) dX2_greatestWith_35 hf (fun _ => rfl) rfl (fun a2 hf => ?_)
      refine zW_sub [1, 2, 3, 0, 4] rfl ?_
      exact tX2_greatestWith_b6_36 hw o hf hk hx
    · refine zW_sub [0, 1, 2, 3, 4] rfl ?_
      exact tX2_greatestWith_b6_36 hw o hf hk hx
theorem tX2_greatestWith_l6 {X : zX} {e : Nat → Prop} (hw : zWf X e) {T : zT} {v1 : Int} {v2 : Int} {I : zMem} (o : zOk e (4, 0, 0)) {s0 : (Int × Int)} {α : Type} {F : (Int × Int) → Option α} {u : α} (hf : zb (zlp (fX2_greatestWith_l6 v1 v2 I) 5000 s0) F = some u) (kx : ∀ x, F x = some u → zW X T mX2_greatestWith 42 [(3, vi x.1)] [] I) : zW X T mX2_greatestWith 6 [(0, .ref (zad X (4, 0, 0))), (1, vi v1), (2, vi v2), (3, vi s0.1), (4, vi s0.2)] [] I := by
  obtain ⟨x, h, hf⟩ := zb_inv hf
  exact zlp_W (P := fun s => zW X T mX2_greatestWith 6 [(0, .ref (zad X (4, 0, 0))), (1, vi v1), (2, vi v2), (3, vi s.1), (4, vi s.2)] [] I) (E := fun x => zW X T mX2_greatestWith 42 [(3, vi x.1)] [] I) (fun s u h hk hx => tX2_greatestWith_l6_y hw o s h hk hx) _ s0 x h (kx x hf)
set_option maxRecDepth 100000 in
theorem tX2_greatestWith_0 {X : zX} {e : Nat → Prop} (hw : zWf X e) {v1 : Int} {v2 : Int} (o : zOk e (4, 0, 0)) {I : zMem} {u : Int} (hf : fX2_greatestWith v1 v2 I = some u) : zW X (some (vi u), I) mX2_greatestWith 0 [(0, .ref (zad X (4, 0, 0))), (1, vi v1), (2, vi v2)] [] I := by
  unfold fX2_greatestWith at hf
  refine zW_ldc dX2_greatestWith_0 wc_RX2_38 ?_
  refine zW_istore_n (lv' := [(3, vi (-100000000)), (0, .ref (zad X (4, 0, 0))), (1, vi v1), (2, vi v2)]) dX2_greatestWith_2 rfl rfl ?_
  refine zW_iconst dX2_greatestWith_3 ?_
  refine zW_istore (lv' := [(4, vi 0), (3, vi (-100000000)), (0, .ref (zad X (4, 0, 0))), (1, vi v1), (2, vi v2)]) dX2_greatestWith_4 rfl rfl ?_
  refine zW_sub [2, 3, 4, 1, 0] rfl ?_
  refine tX2_greatestWith_l6 hw o (s0 := ((-100000000), 0)) hf (fun x3 hf => ?_)
  refine zW_iload_n 0 dX2_greatestWith_42 rfl ?_
  exact zS_i hw rfl dX2_greatestWith_43 hf
theorem kX2_greatestWith {X : zX} {e : Nat → Prop} (hw : zWf X e) {v1 : Int} {v2 : Int} (o : zOk e (4, 0, 0)) {I : zMem} {u : Int} (hf : fX2_greatestWith v1 v2 I = some u) : zCn X mX2_greatestWith yX2_greatestWith [.ref (zad X (4, 0, 0)), vi v1, vi v2] I (some (vi u), I) := zCn_of (by decide +kernel) rfl rfl ⟨rfl, rfl⟩ (tX2_greatestWith_0 hw.N o hf)
set_option maxRecDepth 100000 in
theorem tX8_begin_0 {X : zX} {e : Nat → Prop} (hw : zWf X e) {L : Nat} {p : Nat} (o : zOk e (10, L, p)) {I : zMem} {u : zMem} (hf : fX8_begin L p I = some u) : zW X (none, u) mX8_begin 0 [(0, .ref (zad X (10, L, p)))] [] I := by
  unfold fX8_begin at hf
  refine zW_aload_n 0 dX8_begin_0 rfl ?_
  refine zC_Vwv (As := []) (fun x hx => kX8_letGo hw (L := L) (p := p) o hx) mv_RX8_19 (hw.1 _ o) rfl rfl rfl rfl rfl dX8_begin_1 hf (fun r1 hf => ?_)
  refine zW_aload_n 0 dX8_begin_4 rfl ?_
  refine zW_iconst dX8_begin_5 ?_
  refine zF_put lk_RX8_22 (hw.1 _ o) rfl rfl (zn_int _) dX8_begin_6 hf (fun I2 hf => ?_)
  refine zW_aload_n 0 dX8_begin_9 rfl ?_
  refine zW_iconst dX8_begin_10 ?_
  refine zF_put lk_RX8_25 (hw.1 _ o) rfl rfl (zn_bool (Or.inl rfl)) dX8_begin_11 hf (fun I3 hf => ?_)
  refine zW_aload_n 0 dX8_begin_14 rfl ?_
  refine zW_getR (q' := (37, L, p)) lk_RX8_15 (hw.1 _ o) rfl rfl (hw.2.1 _ _ _ o rfl) dX8_begin_15 ?_
  refine zW_iconst dX8_begin_18 ?_
  refine zC_Swv (As := [.ref (zad X (37, L, p)), vi 0]) (fun x hx => kJ7_fill_53178 hw (q0 := (37, L, p)) (n0 := 39) (v1 := 0) (hw.1 _ (zokC (r' := 37) o rfl rfl)) rfl hx) ms_RX8_29 rfl rfl rfl rfl dX8_begin_19 hf (fun r4 hf => ?_)
  exact zR_v hw rfl dX8_begin_22 hf
theorem kX8_begin {X : zX} {e : Nat → Prop} (hw : zWf X e) {L : Nat} {p : Nat} (o : zOk e (10, L, p)) {I : zMem} {u : zMem} (hf : fX8_begin L p I = some u) : zCn X mX8_begin yX8_begin [.ref (zad X (10, L, p))] I (none, u) := zCn_of (by decide +kernel) rfl rfl ⟨rfl, rfl⟩ (tX8_begin_0 hw.N o hf)
set_option maxRecDepth 100000 in
theorem tX7_begin_l2_y {X : zX} {e : Nat → Prop} (hw : zWf X e) {T : zT} {L : Nat} (o : zOk e (8, L, 0)) (s : (Int × zMem)) {u : ((Int × zMem) ⊕ (Int × zMem))} (hf : fX7_begin_l2 L s = some u) (hk : ∀ s', u = .inl s' → zW X T mX7_begin 2 [(0, .ref (zad X (8, L, 0))), (1, vi s'.1)] [] s'.2) (hx : ∀ x, u = .inr x → zW X T mX7_begin 23 [(0, .ref (zad X (8, L, 0)))] [] x.2) : zW X T mX7_begin 2 [(0, .ref (zad X (8, L, 0))), (1, vi s.1)] [] s.2 := by
  unfold fX7_begin_l2 at hf
  refine zW_iload_n 1 dX7_begin_2 rfl ?_
  refine zW_bipush dX7_begin_3 rfl ?_
  refine zF_icmp_ge 23 dX7_begin_5 rfl rfl (w32_lit _ rfl) hf (fun c hf => ?_) (fun c hf => ?_)
  · refine zW_sub [0] rfl ?_
    exact hx _ (Option.some.inj hf).symm
  · refine zW_aload_n 0 dX7_begin_8 rfl ?_
    refine zW_getR (q' := (32, L, 0)) lk_RX7_11 (hw.1 _ o) rfl rfl (hw.2.1 _ _ _ o rfl) dX7_begin_9 ?_
    refine zW_iload_n 1 dX7_begin_12 rfl ?_
    obtain ⟨c1, hf⟩ := zgd hf
    refine zW_aald (q' := (10, L, ix s.1)) 6 rfl rfl (hw.1 _ (zokB (r' := 32) o rfl rfl)) rfl rfl c1 (hw.2.1 _ _ _ (zokB (r' := 32) o rfl rfl) rfl) dX7_begin_13 ?_
    refine zC_Vwv (As := []) (fun x hx => kX8_begin hw (L := L) (p := ix s.1) (zokE (r' := 10) (zokB (r' := 32) o rfl rfl) rfl rfl c1) hx) mv_RX7_31 (hw.1 _ (zokE (r' := 10) (zokB (r' := 32) o rfl rfl) rfl rfl c1)) rfl rfl rfl rfl rfl dX7_begin_14 hf (fun r2 hf => ?_)
    refine zW_iinc 1 (lv' := [(1, vi (s.1 + 1)), (0, .ref (zad X (8, L, 0)))]) dX7_begin_17 rfl rfl rfl ?_
    refine zW_goto 2 dX7_begin_20 rfl ?_
    refine zW_sub [1, 0] rfl ?_
    exact hk _ (Option.some.inj hf).symm
theorem tX7_begin_l2 {X : zX} {e : Nat → Prop} (hw : zWf X e) {T : zT} {L : Nat} (o : zOk e (8, L, 0)) {s0 : (Int × zMem)} {α : Type} {F : (Int × zMem) → Option α} {u : α} (hf : zb (zlp (fX7_begin_l2 L) 5000 s0) F = some u) (kx : ∀ x, F x = some u → zW X T mX7_begin 23 [(0, .ref (zad X (8, L, 0)))] [] x.2) : zW X T mX7_begin 2 [(0, .ref (zad X (8, L, 0))), (1, vi s0.1)] [] s0.2 := by
  obtain ⟨x, h, hf⟩ := zb_inv hf
  exact zlp_W (P := fun s => zW X T mX7_begin 2 [(0, .ref (zad X (8, L, 0))), (1, vi s.1)] [] s.2) (E := fun x => zW X T mX7_begin 23 [(0, .ref (zad X (8, L, 0)))] [] x.2) (fun s u h hk hx => tX7_begin_l2_y hw o s h hk hx) _ s0 x h (kx x hf)
set_option maxRecDepth 100000 in
theorem tX7_begin_0 {X : zX} {e : Nat → Prop} (hw : zWf X e) {L : Nat} (o : zOk e (8, L, 0)) {I : zMem} {u : zMem} (hf : fX7_begin L I = some u) : zW X (none, u) mX7_begin 0 [(0, .ref (zad X (8, L, 0)))] [] I := by
  unfold fX7_begin at hf
  refine zW_iconst dX7_begin_0 ?_
  refine zW_istore_n (lv' := [(1, vi 0), (0, .ref (zad X (8, L, 0)))]) dX7_begin_1 rfl rfl ?_
  refine zW_sub [1, 0] rfl ?_
  refine tX7_begin_l2 hw o (s0 := (0, I)) hf (fun x3 hf => ?_)
  refine zW_aload_n 0 dX7_begin_23 rfl ?_
  refine zW_iconst dX7_begin_24 ?_
  refine zF_put lk_RX7_34 (hw.1 _ o) rfl rfl (zn_int _) dX7_begin_25 hf (fun I4 hf => ?_)
  refine zW_aload_n 0 dX7_begin_28 rfl ?_
  refine zW_iconst dX7_begin_29 ?_
  refine zF_put lk_RX7_38 (hw.1 _ o) rfl rfl (zn_int _) dX7_begin_30 hf (fun I5 hf => ?_)
  refine zW_aload_n 0 dX7_begin_33 rfl ?_
  refine zW_iconst dX7_begin_34 ?_
  refine zF_put lk_RX7_41 (hw.1 _ o) rfl rfl (zn_int _) dX7_begin_35 hf (fun I6 hf => ?_)
  refine zW_aload_n 0 dX7_begin_38 rfl ?_
  refine zW_iconst dX7_begin_39 ?_
  refine zF_put lk_RX7_44 (hw.1 _ o) rfl rfl (zn_int _) dX7_begin_40 hf (fun I7 hf => ?_)
  refine zW_aload_n 0 dX7_begin_43 rfl ?_
  refine zW_iconst dX7_begin_44 ?_
  refine zF_put lk_RX7_47 (hw.1 _ o) rfl rfl (zn_int _) dX7_begin_45 hf (fun I8 hf => ?_)
  refine zW_aload_n 0 dX7_begin_48 rfl ?_
  refine zW_iconst dX7_begin_49 ?_
  refine zF_put lk_RX7_50 (hw.1 _ o) rfl rfl (zn_int _) dX7_begin_50 hf (fun I9 hf => ?_)
  exact zR_v hw rfl dX7_begin_53 hf
theorem kX7_begin {X : zX} {e : Nat → Prop} (hw : zWf X e) {L : Nat} (o : zOk e (8, L, 0)) {I : zMem} {u : zMem} (hf : fX7_begin L I = some u) : zCn X mX7_begin yX7_begin [.ref (zad X (8, L, 0))] I (none, u) := zCn_of (by decide +kernel) rfl rfl ⟨rfl, rfl⟩ (tX7_begin_0 hw.N o hf)
set_option maxRecDepth 100000 in
theorem tX5_begin_l2_y {X : zX} {e : Nat → Prop} (hw : zWf X e) {T : zT} {L : Nat} (o : zOk e (9, L, 0)) (s : (Int × zMem)) {u : ((Int × zMem) ⊕ (Int × zMem))} (hf : fX5_begin_l2 L s = some u) (hk : ∀ s', u = .inl s' → zW X T mX5_begin 2 [(0, .ref (zad X (9, L, 0))), (1, vi s'.1)] [] s'.2) (hx : ∀ x, u = .inr x → zW X T mX5_begin 24 [(0, .ref (zad X (9, L, 0)))] [] x.2) : zW X T mX5_begin 2 [(0, .ref (zad X (9, L, 0))), (1, vi s.1)] [] s.2 := by
  unfold fX5_begin_l2 at hf
  refine zW_iload_n 1 dX5_begin_2 rfl ?_
  refine zW_bipush dX5_begin_3 rfl ?_
  refine zF_icmp_ge 24 dX5_begin_5 rfl rfl (w32_lit _ rfl) hf (fun c hf => ?_) (fun c hf => ?_)
  · refine zW_sub [0] rfl ?_
    exact hx _ (Option.some.inj hf).symm
  · refine zW_aload_n 0 dX5_begin_8 rfl ?_
    refine zW_getR (q' := (38, L, 0)) lk_RX5_11 (hw.1 _ o) rfl rfl (hw.2.1 _ _ _ o rfl) dX5_begin_9 ?_
    refine zW_iload_n 1 dX5_begin_12 rfl ?_
    obtain ⟨c1, hf⟩ := zgd hf
    refine zW_aald (q' := (11, L, ix s.1)) 4 rfl rfl (hw.1 _ (zokB (r' := 38) o rfl rfl)) rfl rfl c1 (hw.2.1 _ _ _ (zokB (r' := 38) o rfl rfl) rfl) dX5_begin_13 ?_
    refine zW_iconst dX5_begin_14 ?_
    refine zC_Vwv (As := [vi (-1)]) (fun x hx => kX3_begin hw (L := L) (p := ix s.1) (v1 := (-1)) (zokE (r' := 11) (zokB (r' := 38) o rfl rfl) rfl rfl c1) hx) mv_RX5_31 (hw.1 _ (zokE (r' := 11) (zokB (r' := 38) o rfl rfl) rfl rfl c1)) rfl rfl rfl rfl rfl dX5_begin_15 hf (fun r2 hf => ?_)
    refine zW_iinc 1 (lv' := [(1, vi (s.1 + 1)), (0, .ref (zad X (9, L, 0)))]) dX5_begin_18 rfl rfl rfl ?_
    refine zW_goto 2 dX5_begin_21 rfl ?_
    refine zW_sub [1, 0] rfl ?_
    exact hk _ (Option.some.inj hf).symm
theorem tX5_begin_l2 {X : zX} {e : Nat → Prop} (hw : zWf X e) {T : zT} {L : Nat} (o : zOk e (9, L, 0)) {s0 : (Int × zMem)} {α : Type} {F : (Int × zMem) → Option α} {u : α} (hf : zb (zlp (fX5_begin_l2 L) 5000 s0) F = some u) (kx : ∀ x, F x = some u → zW X T mX5_begin 24 [(0, .ref (zad X (9, L, 0)))] [] x.2) : zW X T mX5_begin 2 [(0, .ref (zad X (9, L, 0))), (1, vi s0.1)] [] s0.2 := by
  obtain ⟨x, h, hf⟩ := zb_inv hf
  exact zlp_W (P := fun s => zW X T mX5_begin 2 [(0, .ref (zad X (9, L, 0))), (1, vi s.1)] [] s.2) (E := fun x => zW X T mX5_begin 24 [(0, .ref (zad X (9, L, 0)))] [] x.2) (fun s u h hk hx => tX5_begin_l2_y hw o s h hk hx) _ s0 x h (kx x hf)
set_option maxRecDepth 100000 in
theorem tX5_begin_0 {X : zX} {e : Nat → Prop} (hw : zWf X e) {L : Nat} (o : zOk e (9, L, 0)) {I : zMem} {u : zMem} (hf : fX5_begin L I = some u) : zW X (none, u) mX5_begin 0 [(0, .ref (zad X (9, L, 0)))] [] I := by
  unfold fX5_begin at hf
  refine zW_iconst dX5_begin_0 ?_
  refine zW_istore_n (lv' := [(1, vi 0), (0, .ref (zad X (9, L, 0)))]) dX5_begin_1 rfl rfl ?_
  refine zW_sub [1, 0] rfl ?_
  refine tX5_begin_l2 hw o (s0 := (0, I)) hf (fun x3 hf => ?_)
  refine zW_aload_n 0 dX5_begin_24 rfl ?_
  refine zW_getR (q' := (39, L, 0)) lk_RX5_17 (hw.1 _ o) rfl rfl (hw.2.1 _ _ _ o rfl) dX5_begin_25 ?_
  refine zW_iconst dX5_begin_28 ?_
  refine zC_Swv (As := [.ref (zad X (39, L, 0)), vi (-1)]) (fun x hx => kJ7_fill_53178 hw (q0 := (39, L, 0)) (n0 := 8) (v1 := (-1)) (hw.1 _ (zokB (r' := 39) o rfl rfl)) rfl hx) ms_RX5_25 rfl rfl rfl rfl dX5_begin_29 hf (fun r4 hf => ?_)
  refine zW_aload_n 0 dX5_begin_32 rfl ?_
  refine zW_iconst dX5_begin_33 ?_
  refine zF_put lk_RX5_35 (hw.1 _ o) rfl rfl (zn_int _) dX5_begin_34 hf (fun I5 hf => ?_)
  refine zW_aload_n 0 dX5_begin_37 rfl ?_
  refine zW_iconst dX5_begin_38 ?_
  refine zF_put lk_RX5_39 (hw.1 _ o) rfl rfl (zn_int _) dX5_begin_39 hf (fun I6 hf => ?_)
  refine zW_aload_n 0 dX5_begin_42 rfl ?_
  refine zW_iconst dX5_begin_43 ?_
  refine zF_put lk_RX5_42 (hw.1 _ o) rfl rfl (zn_int _) dX5_begin_44 hf (fun I7 hf => ?_)
  refine zW_aload_n 0 dX5_begin_47 rfl ?_
  refine zW_iconst dX5_begin_48 ?_
  refine zF_put lk_RX5_45 (hw.1 _ o) rfl rfl (zn_int _) dX5_begin_49 hf (fun I8 hf => ?_)
  refine zW_aload_n 0 dX5_begin_52 rfl ?_
  refine zW_iconst dX5_begin_53 ?_
  refine zF_put lk_RX5_48 (hw.1 _ o) rfl rfl (zn_int _) dX5_begin_54 hf (fun I9 hf => ?_)
  refine zW_aload_n 0 dX5_begin_57 rfl ?_
  refine zW_iconst dX5_begin_58 ?_
  refine zF_put lk_RX5_51 (hw.1 _ o) rfl rfl (zn_int _) dX5_begin_59 hf (fun I10 hf => ?_)
  refine zW_aload_n 0 dX5_begin_62 rfl ?_
  refine zW_iconst dX5_begin_63 ?_
  refine zF_put lk_RX5_54 (hw.1 _ o) rfl rfl (zn_int _) dX5_begin_64 hf (fun I11 hf => ?_)
  refine zW_aload_n 0 dX5_begin_67 rfl ?_
  refine zW_iconst dX5_begin_68 ?_
  refine zF_put lk_RX5_57 (hw.1 _ o) rfl rfl (zn_int _) dX5_begin_69 hf (fun I12 hf => ?_)
  exact zR_v hw rfl dX5_begin_72 hf
theorem kX5_begin {X : zX} {e : Nat → Prop} (hw : zWf X e) {L : Nat} (o : zOk e (9, L, 0)) {I : zMem} {u : zMem} (hf : fX5_begin L I = some u) : zCn X mX5_begin yX5_begin [.ref (zad X (9, L, 0))] I (none, u) := zCn_of (by decide +kernel) rfl rfl ⟨rfl, rfl⟩ (tX5_begin_0 hw.N o hf)
set_option maxRecDepth 100000 in
theorem tX4_begin_0 {X : zX} {e : Nat → Prop} (hw : zWf X e) {L : Nat} (o : zOk e (7, L, 0)) {I : zMem} {u : zMem} (hf : fX4_begin L I = some u) : zW X (none, u) mX4_begin 0 [(0, .ref (zad X (7, L, 0)))] [] I := by
  unfold fX4_begin at hf
  refine zW_aload_n 0 dX4_begin_0 rfl ?_
  refine zW_sipush dX4_begin_1 rfl ?_
  refine zF_put lk_RX4_27 (hw.1 _ o) rfl rfl (zn_int _) dX4_begin_4 hf (fun I1 hf => ?_)
  refine zW_aload_n 0 dX4_begin_7 rfl ?_
  refine zW_bipush dX4_begin_8 rfl ?_
  refine zF_put lk_RX4_30 (hw.1 _ o) rfl rfl (zn_int _) dX4_begin_10 hf (fun I2 hf => ?_)
  refine zW_aload_n 0 dX4_begin_13 rfl ?_
  refine zW_getR (q' := (8, L, 0)) lk_RX4_36 (hw.1 _ o) rfl rfl (hw.2.1 _ _ _ o rfl) dX4_begin_14 ?_
  refine zC_Vwv (As := []) (fun x hx => kX7_begin hw (L := L) (zokB (r' := 8) o rfl rfl) hx) mv_RX4_47 (hw.1 _ (zokB (r' := 8) o rfl rfl)) rfl rfl rfl rfl rfl dX4_begin_17 hf (fun r3 hf => ?_)
  refine zW_aload_n 0 dX4_begin_20 rfl ?_
  refine zW_getR (q' := (9, L, 0)) lk_RX4_43 (hw.1 _ o) rfl rfl (hw.2.1 _ _ _ o rfl) dX4_begin_21 ?_
  refine zC_Vwv (As := []) (fun x hx => kX5_begin hw (L := L) (zokB (r' := 9) o rfl rfl) hx) mv_RX4_50 (hw.1 _ (zokB (r' := 9) o rfl rfl)) rfl rfl rfl rfl rfl dX4_begin_24 hf (fun r4 hf => ?_)
  exact zR_v hw rfl dX4_begin_27 hf
theorem kX4_begin {X : zX} {e : Nat → Prop} (hw : zWf X e) {L : Nat} (o : zOk e (7, L, 0)) {I : zMem} {u : zMem} (hf : fX4_begin L I = some u) : zCn X mX4_begin yX4_begin [.ref (zad X (7, L, 0))] I (none, u) := zCn_of (by decide +kernel) rfl rfl ⟨rfl, rfl⟩ (tX4_begin_0 hw.N o hf)
