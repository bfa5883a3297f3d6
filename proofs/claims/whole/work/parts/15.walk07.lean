set_option maxRecDepth 100000 in
theorem tX12_canSend_b86 {X : zX} {e : Nat → Prop} (hw : zWf X e) {v1 : Int} {I : zMem} (o : zOk e (50, 0, 0)) {u : Int} (hf : fX12_canSend_b86 v1 I = some u) : zW X (some (vi u), I) mX12_canSend 86 [] [] I := by
  unfold fX12_canSend_b86 at hf
  refine zW_iconst dX12_canSend_86 ?_
  exact zS_z hw rfl (Or.inl rfl) dX12_canSend_87 hf
set_option maxRecDepth 100000 in
theorem tX12_canSend_0 {X : zX} {e : Nat → Prop} (hw : zWf X e) {v1 : Int} (o : zOk e (50, 0, 0)) {I : zMem} {u : Int} (hf : fX12_canSend v1 I = some u) : zW X (some (vi u), I) mX12_canSend 0 [(0, .ref (zad X (50, 0, 0))), (1, vi v1)] [] I := by
  unfold fX12_canSend at hf
  refine zW_aload_n 0 dX12_canSend_0 rfl ?_
  refine zW_getR (q' := (51, 0, 0)) lk_RX12_13 (hw.1 _ o) rfl rfl (hw.2.1 _ _ _ o rfl) dX12_canSend_1 ?_
  refine zW_aload_n 0 dX12_canSend_4 rfl ?_
  refine zW_iload_n 1 dX12_canSend_5 rfl ?_
  refine zC_Vri (As := [vi v1]) (fun x hx => kX12_own hw (v1 := v1) o hx) mv_RX12_188 (hw.1 _ o) rfl rfl rfl rfl rfl dX12_canSend_6 hf (fun r1 hf => ?_)
  refine zW_iconst dX12_canSend_9 ?_
  refine zW_iadd dX12_canSend_10 ?_
  obtain ⟨c2, hf⟩ := zgd hf
  refine zF_iald (hw.1 _ (zokM (r' := 51) o rfl rfl)) rfl c2 rfl dX12_canSend_11 ?_
  refine zW_iconst dX12_canSend_12 ?_
  refine zF_icmp_ne 18 dX12_canSend_13 rfl rfl (w32_lit _ rfl) hf (fun c hf => ?_) (fun c hf => ?_)
  · refine zW_iconst dX12_canSend_16 ?_
    exact zS_z hw rfl (Or.inl rfl) dX12_canSend_17 hf
  · refine zW_aload_n 0 dX12_canSend_18 rfl ?_
    refine zW_getR (q' := (51, 0, 0)) lk_RX12_13 (hw.1 _ o) rfl rfl (hw.2.1 _ _ _ o rfl) dX12_canSend_19 ?_
    refine zW_aload_n 0 dX12_canSend_22 rfl ?_
    refine zW_iload_n 1 dX12_canSend_23 rfl ?_
    refine zC_Vri (As := [vi v1]) (fun x hx => kX12_own hw (v1 := v1) o hx) mv_RX12_188 (hw.1 _ o) rfl rfl rfl rfl rfl dX12_canSend_24 hf (fun r3 hf => ?_)
    refine zW_iconst dX12_canSend_27 ?_
    refine zW_iadd dX12_canSend_28 ?_
    obtain ⟨c4, hf⟩ := zgd hf
    refine zF_iald (hw.1 _ (zokM (r' := 51) o rfl rfl)) rfl c4 rfl dX12_canSend_29 ?_
    refine zW_iconst dX12_canSend_30 ?_
    refine zF_icmp_ne 44 dX12_canSend_31 rfl rfl (w32_lit _ rfl) hf (fun c hf => ?_) (fun c hf => ?_)
    · refine zW_aload_n 0 dX12_canSend_34 rfl ?_
      refine zW_getR (q' := (51, 0, 0)) lk_RX12_13 (hw.1 _ o) rfl rfl (hw.2.1 _ _ _ o rfl) dX12_canSend_35 ?_
      refine zW_bipush dX12_canSend_38 rfl ?_
      refine zF_iald (hw.1 _ (zokM (r' := 51) o rfl rfl)) rfl (zin_lit _ _ rfl) (ix_lit _ rfl) dX12_canSend_40 ?_
      refine zF_if_le 46 dX12_canSend_41 rfl rfl hf (fun c hf => ?_) (fun c hf => ?_)
      · refine zW_aload_n 0 dX12_canSend_46 rfl ?_
        refine zW_getR (q' := (51, 0, 0)) lk_RX12_13 (hw.1 _ o) rfl rfl (hw.2.1 _ _ _ o rfl) dX12_canSend_47 ?_
        refine zW_bipush dX12_canSend_50 rfl ?_
        refine zF_iald (hw.1 _ (zokM (r' := 51) o rfl rfl)) rfl (zin_lit _ _ rfl) (ix_lit _ rfl) dX12_canSend_52 ?_
        refine zF_if_le 86 dX12_canSend_53 rfl rfl hf (fun c hf => ?_) (fun c hf => ?_)
        · refine zW_sub [] rfl ?_
          exact tX12_canSend_b86 hw o hf
        · refine zW_aload_n 0 dX12_canSend_56 rfl ?_
          refine zW_getR (q' := (51, 0, 0)) lk_RX12_13 (hw.1 _ o) rfl rfl (hw.2.1 _ _ _ o rfl) dX12_canSend_57 ?_
          refine zW_bipush dX12_canSend_60 rfl ?_
          refine zF_iald (hw.1 _ (zokM (r' := 51) o rfl rfl)) rfl (zin_lit _ _ rfl) (ix_lit _ rfl) dX12_canSend_62 ?_
          refine zW_aload_n 0 dX12_canSend_63 rfl ?_
          refine zW_getR (q' := (51, 0, 0)) lk_RX12_13 (hw.1 _ o) rfl rfl (hw.2.1 _ _ _ o rfl) dX12_canSend_64 ?_
          refine zW_bipush dX12_canSend_67 rfl ?_
          refine zF_iald (hw.1 _ (zokM (r' := 51) o rfl rfl)) rfl (zin_lit _ _ rfl) (ix_lit _ rfl) dX12_canSend_69 ?_
          refine zC_Sri (As := [vi (I (51, 0, 0) 29), vi (I (51, 0, 0) 28)]) (fun x hx => kX12_past hw (v0 := I (51, 0, 0) 29) (v1 := I (51, 0, 0) 28)  hx) ms_RX12_182 rfl rfl rfl rfl dX12_canSend_70 hf (fun r5 hf => ?_)
          refine zW_aload_n 0 dX12_canSend_73 rfl ?_
          refine zW_getR (q' := (51, 0, 0)) lk_RX12_13 (hw.1 _ o) rfl rfl (hw.2.1 _ _ _ o rfl) dX12_canSend_74 ?_
          refine zW_iconst dX12_canSend_77 ?_
          refine zF_iald (hw.1 _ (zokM (r' := 51) o rfl rfl)) rfl (zin_lit _ _ rfl) (ix_lit _ rfl) dX12_canSend_78 ?_
          refine zF_icmp_ge 86 dX12_canSend_79 rfl rfl rfl hf (fun c hf => ?_) (fun c hf => ?_)
          · refine zW_sub [] rfl ?_
            exact tX12_canSend_b86 hw o hf
          · refine zW_iconst dX12_canSend_82 ?_
            refine zW_goto 87 dX12_canSend_83 rfl ?_
            exact zS_z hw rfl (Or.inr rfl) dX12_canSend_87 hf
      · refine zW_iconst dX12_canSend_44 ?_
        exact zS_z hw rfl (Or.inr rfl) dX12_canSend_45 hf
    · refine zW_iconst dX12_canSend_44 ?_
      exact zS_z hw rfl (Or.inr rfl) dX12_canSend_45 hf
theorem kX12_canSend {X : zX} {e : Nat → Prop} (hw : zWf X e) {v1 : Int} (o : zOk e (50, 0, 0)) {I : zMem} {u : Int} (hf : fX12_canSend v1 I = some u) : zCn X mX12_canSend yX12_canSend [.ref (zad X (50, 0, 0)), vi v1] I (some (vi u), I) := zCn_of (by decide +kernel) rfl rfl ⟨rfl, rfl⟩ (tX12_canSend_0 hw.N o hf)
set_option maxRecDepth 100000 in
theorem tX12_versionOf_0 {X : zX} {e : Nat → Prop} (hw : zWf X e) {v0 : Int}  {I : zMem} {u : Int} (hf : fX12_versionOf v0 = some u) : zW X (some (vi u), I) mX12_versionOf 0 [(0, vi v0)] [] I := by
  unfold fX12_versionOf at hf
  refine zW_iload_n 0 dX12_versionOf_0 rfl ?_
  refine zW_iconst dX12_versionOf_1 ?_
  refine zW_irem dX12_versionOf_2 (w32_ne0 _ rfl) ?_
  rcases zif hf with ⟨ts0, hf⟩ | ⟨ts0, hf⟩
  · refine zW_tab 0 28 dX12_versionOf_3 (by rw [ts0]; rfl) rfl rfl rfl ?_
    refine zW_iconst dX12_versionOf_28 ?_
    exact zS_i hw rfl dX12_versionOf_29 hf
  · rcases zif hf with ⟨ts1, hf⟩ | ⟨ts1, hf⟩
    · refine zW_tab 1 30 dX12_versionOf_3 (by rw [ts1]; rfl) rfl rfl rfl ?_
      refine zW_iconst dX12_versionOf_30 ?_
      exact zS_i hw rfl dX12_versionOf_31 hf
    · rcases zif hf with ⟨ts2, hf⟩ | ⟨ts2, hf⟩
      · refine zW_tab 2 32 dX12_versionOf_3 (by rw [ts2]; rfl) rfl rfl rfl ?_
        refine zW_iconst dX12_versionOf_32 ?_
        exact zS_i hw rfl dX12_versionOf_33 hf
      · refine zW_tabd 34 dX12_versionOf_3 (by omega) rfl ?_
        refine zW_iconst dX12_versionOf_34 ?_
        exact zS_i hw rfl dX12_versionOf_35 hf
theorem kX12_versionOf {X : zX} {e : Nat → Prop} (hw : zWf X e) {v0 : Int}  {I : zMem} {u : Int} (hf : fX12_versionOf v0 = some u) : zCn X mX12_versionOf yX12_versionOf [vi v0] I (some (vi u), I) := zCn_of (by decide +kernel) rfl rfl ⟨rfl, rfl⟩ (tX12_versionOf_0 hw.N  hf)
set_option maxRecDepth 100000 in
theorem tX12_takesAgain_l21_y {X : zX} {e : Nat → Prop} (hw : zWf X e) {T : zT} {w1 : Int} (o : zOk e (50, 0, 0)) (s : (Int × zMem)) {u : ((Int × zMem) ⊕ (Int × zMem))} (hf : fX12_takesAgain_l21 w1 s = some u) (hk : ∀ s', u = .inl s' → zW X T mX12_takesAgain 21 [(0, .ref (zad X (50, 0, 0))), (1, vi w1), (2, vi s'.1)] [] s'.2) (hx : ∀ x, u = .inr x → zW X T mX12_takesAgain 58 [(1, vi w1)] [] x.2) : zW X T mX12_takesAgain 21 [(0, .ref (zad X (50, 0, 0))), (1, vi w1), (2, vi s.1)] [] s.2 := by
  unfold fX12_takesAgain_l21 at hf
  refine zW_iload_n 2 dX12_takesAgain_21 rfl ?_
  refine zW_aload_n 0 dX12_takesAgain_22 rfl ?_
  refine zW_getR (q' := (51, 0, 0)) lk_RX12_13 (hw.1 _ o) rfl rfl (hw.2.1 _ _ _ o rfl) dX12_takesAgain_23 ?_
  refine zW_bipush dX12_takesAgain_26 rfl ?_
  refine zF_iald (hw.1 _ (zokM (r' := 51) o rfl rfl)) rfl (zin_lit _ _ rfl) (ix_lit _ rfl) dX12_takesAgain_28 ?_
  refine zF_icmp_ge 58 dX12_takesAgain_29 rfl rfl rfl hf (fun c hf => ?_) (fun c hf => ?_)
  · refine zW_sub [1] rfl ?_
    exact hx _ (Option.some.inj hf).symm
  · refine zW_aload_n 0 dX12_takesAgain_32 rfl ?_
    refine zW_getR (q' := (51, 0, 0)) lk_RX12_13 (hw.1 _ o) rfl rfl (hw.2.1 _ _ _ o rfl) dX12_takesAgain_33 ?_
    refine zW_bipush dX12_takesAgain_36 rfl ?_
    refine zW_iload_n 2 dX12_takesAgain_38 rfl ?_
    refine zW_iadd dX12_takesAgain_39 ?_
    refine zW_aload_n 0 dX12_takesAgain_40 rfl ?_
    refine zW_getR (q' := (51, 0, 0)) lk_RX12_13 (hw.1 _ o) rfl rfl (hw.2.1 _ _ _ o rfl) dX12_takesAgain_41 ?_
    refine zW_bipush dX12_takesAgain_44 rfl ?_
    refine zW_iload_n 2 dX12_takesAgain_46 rfl ?_
    refine zW_iadd dX12_takesAgain_47 ?_
    refine zW_iconst dX12_takesAgain_48 ?_
    refine zW_iadd dX12_takesAgain_49 ?_
    obtain ⟨c3, hf⟩ := zgd hf
    refine zF_iald (hw.1 _ (zokM (r' := 51) o rfl rfl)) rfl c3 rfl dX12_takesAgain_50 ?_
    obtain ⟨c4, hf⟩ := zgd hf
    refine zF_iast (hw.1 _ (zokM (r' := 51) o rfl rfl)) rfl c4 rfl dX12_takesAgain_51 hf (fun I5 hf => ?_)
    refine zW_iinc 2 (lv' := [(2, vi (s.1 + 1)), (0, .ref (zad X (50, 0, 0))), (1, vi w1)]) dX12_takesAgain_52 rfl rfl rfl ?_
    refine zW_goto 21 dX12_takesAgain_55 rfl ?_
    refine zW_sub [1, 2, 0] rfl ?_
    exact hk _ (Option.some.inj hf).symm
theorem tX12_takesAgain_l21 {X : zX} {e : Nat → Prop} (hw : zWf X e) {T : zT} {w1 : Int} (o : zOk e (50, 0, 0)) {s0 : (Int × zMem)} {α : Type} {F : (Int × zMem) → Option α} {u : α} (hf : zb (zlp (fX12_takesAgain_l21 w1) 5000 s0) F = some u) (kx : ∀ x, F x = some u → zW X T mX12_takesAgain 58 [(1, vi w1)] [] x.2) : zW X T mX12_takesAgain 21 [(0, .ref (zad X (50, 0, 0))), (1, vi w1), (2, vi s0.1)] [] s0.2 := by
  obtain ⟨x, h, hf⟩ := zb_inv hf
  exact zlp_W (P := fun s => zW X T mX12_takesAgain 21 [(0, .ref (zad X (50, 0, 0))), (1, vi w1), (2, vi s.1)] [] s.2) (E := fun x => zW X T mX12_takesAgain 58 [(1, vi w1)] [] x.2) (fun s u h hk hx => tX12_takesAgain_l21_y hw o s h hk hx) _ s0 x h (kx x hf)
set_option maxRecDepth 100000 in
theorem tX12_takesAgain_0 {X : zX} {e : Nat → Prop} (hw : zWf X e)  (o : zOk e (50, 0, 0)) {I : zMem} {u : (Int × zMem)} (hf : fX12_takesAgain  I = some u) : zW X (some (vi u.1), u.2) mX12_takesAgain 0 [(0, .ref (zad X (50, 0, 0)))] [] I := by
  unfold fX12_takesAgain at hf
  refine zW_aload_n 0 dX12_takesAgain_0 rfl ?_
  refine zW_getR (q' := (51, 0, 0)) lk_RX12_13 (hw.1 _ o) rfl rfl (hw.2.1 _ _ _ o rfl) dX12_takesAgain_1 ?_
  refine zW_bipush dX12_takesAgain_4 rfl ?_
  refine zF_iald (hw.1 _ (zokM (r' := 51) o rfl rfl)) rfl (zin_lit _ _ rfl) (ix_lit _ rfl) dX12_takesAgain_6 ?_
  refine zF_istore_n (lv' := fun a1 => [(1, vi a1), (0, .ref (zad X (50, 0, 0)))]) dX12_takesAgain_7 hf (fun _ => rfl) rfl (fun a1 hf => ?_)
  refine zW_aload_n 1 dX12_takesAgain_8 rfl ?_
  refine zW_getR (q' := (51, 0, 0)) lk_RX12_13 (hw.1 _ o) rfl rfl (hw.2.1 _ _ _ o rfl) dX12_takesAgain_9 ?_
  refine zW_bipush dX12_takesAgain_12 rfl ?_
  refine zW_dup2 dX12_takesAgain_14 rfl rfl ?_
  refine zF_iald (hw.1 _ (zokM (r' := 51) o rfl rfl)) rfl (zin_lit _ _ rfl) (ix_lit _ rfl) dX12_takesAgain_15 ?_
  refine zW_iconst dX12_takesAgain_16 ?_
  refine zW_isub dX12_takesAgain_17 ?_
  refine zF_iast (hw.1 _ (zokM (r' := 51) o rfl rfl)) rfl (zin_lit _ _ rfl) (ix_lit _ rfl) dX12_takesAgain_18 hf (fun I2 hf => ?_)
  refine zW_iconst dX12_takesAgain_19 ?_
  refine zW_istore_n (lv' := [(2, vi 0), (1, vi a1), (0, .ref (zad X (50, 0, 0)))]) dX12_takesAgain_20 rfl rfl ?_
  refine zW_sub [2, 1, 0] rfl ?_
  refine tX12_takesAgain_l21 hw o (s0 := (0, I2)) hf (fun x6 hf => ?_)
  refine zW_iload_n 0 dX12_takesAgain_58 rfl ?_
  exact zR_i hw rfl dX12_takesAgain_59 hf
theorem kX12_takesAgain {X : zX} {e : Nat → Prop} (hw : zWf X e)  (o : zOk e (50, 0, 0)) {I : zMem} {u : (Int × zMem)} (hf : fX12_takesAgain  I = some u) : zCn X mX12_takesAgain yX12_takesAgain [.ref (zad X (50, 0, 0))] I (some (vi u.1), u.2) := zCn_of (by decide +kernel) rfl rfl ⟨rfl, rfl⟩ (tX12_takesAgain_0 hw.N o hf)
set_option maxRecDepth 100000 in
theorem tX12_takesNew_l60_y {X : zX} {e : Nat → Prop} (hw : zWf X e) {T : zT} {w1 : Int} (o : zOk e (50, 0, 0)) (s : (Int × zMem)) {u : ((Int × zMem) ⊕ (Int × zMem))} (hf : fX12_takesNew_l60 w1 s = some u) (hk : ∀ s', u = .inl s' → zW X T mX12_takesNew 60 [(0, .ref (zad X (50, 0, 0))), (1, vi w1), (2, vi s'.1)] [] s'.2) (hx : ∀ x, u = .inr x → zW X T mX12_takesNew 97 [(1, vi w1)] [] x.2) : zW X T mX12_takesNew 60 [(0, .ref (zad X (50, 0, 0))), (1, vi w1), (2, vi s.1)] [] s.2 := by
  unfold fX12_takesNew_l60 at hf
  refine zW_iload_n 2 dX12_takesNew_60 rfl ?_
  refine zW_aload_n 0 dX12_takesNew_61 rfl ?_
  refine zW_getR (q' := (51, 0, 0)) lk_RX12_13 (hw.1 _ o) rfl rfl (hw.2.1 _ _ _ o rfl) dX12_takesNew_62 ?_
  refine zW_bipush dX12_takesNew_65 rfl ?_
  refine zF_iald (hw.1 _ (zokM (r' := 51) o rfl rfl)) rfl (zin_lit _ _ rfl) (ix_lit _ rfl) dX12_takesNew_67 ?_
  refine zF_icmp_ge 97 dX12_takesNew_68 rfl rfl rfl hf (fun c hf => ?_) (fun c hf => ?_)
  · refine zW_sub [1] rfl ?_
    exact hx _ (Option.some.inj hf).symm
  · refine zW_aload_n 0 dX12_takesNew_71 rfl ?_
    refine zW_getR (q' := (51, 0, 0)) lk_RX12_13 (hw.1 _ o) rfl rfl (hw.2.1 _ _ _ o rfl) dX12_takesNew_72 ?_
    refine zW_bipush dX12_takesNew_75 rfl ?_
    refine zW_iload_n 2 dX12_takesNew_77 rfl ?_
    refine zW_iadd dX12_takesNew_78 ?_
    refine zW_aload_n 0 dX12_takesNew_79 rfl ?_
    refine zW_getR (q' := (51, 0, 0)) lk_RX12_13 (hw.1 _ o) rfl rfl (hw.2.1 _ _ _ o rfl) dX12_takesNew_80 ?_
    refine zW_bipush dX12_takesNew_83 rfl ?_
    refine zW_iload_n 2 dX12_takesNew_85 rfl ?_
    refine zW_iadd dX12_takesNew_86 ?_
    refine zW_iconst dX12_takesNew_87 ?_
    refine zW_iadd dX12_takesNew_88 ?_
    obtain ⟨c8, hf⟩ := zgd hf
    refine zF_iald (hw.1 _ (zokM (r' := 51) o rfl rfl)) rfl c8 rfl dX12_takesNew_89 ?_
    obtain ⟨c9, hf⟩ := zgd hf
    refine zF_iast (hw.1 _ (zokM (r' := 51) o rfl rfl)) rfl c9 rfl dX12_takesNew_90 hf (fun I10 hf => ?_)
    refine zW_iinc 2 (lv' := [(2, vi (s.1 + 1)), (0, .ref (zad X (50, 0, 0))), (1, vi w1)]) dX12_takesNew_91 rfl rfl rfl ?_
    refine zW_goto 60 dX12_takesNew_94 rfl ?_
    refine zW_sub [1, 2, 0] rfl ?_
    exact hk _ (Option.some.inj hf).symm
theorem tX12_takesNew_l60 {X : zX} {e : Nat → Prop} (hw : zWf X e) {T : zT} {w1 : Int} (o : zOk e (50, 0, 0)) {s0 : (Int × zMem)} {α : Type} {F : (Int × zMem) → Option α} {u : α} (hf : zb (zlp (fX12_takesNew_l60 w1) 5000 s0) F = some u) (kx : ∀ x, F x = some u → zW X T mX12_takesNew 97 [(1, vi w1)] [] x.2) : zW X T mX12_takesNew 60 [(0, .ref (zad X (50, 0, 0))), (1, vi w1), (2, vi s0.1)] [] s0.2 := by
  obtain ⟨x, h, hf⟩ := zb_inv hf
  exact zlp_W (P := fun s => zW X T mX12_takesNew 60 [(0, .ref (zad X (50, 0, 0))), (1, vi w1), (2, vi s.1)] [] s.2) (E := fun x => zW X T mX12_takesNew 97 [(1, vi w1)] [] x.2) (fun s u h hk hx => tX12_takesNew_l60_y hw o s h hk hx) _ s0 x h (kx x hf)
set_option maxRecDepth 100000 in
theorem tX12_takesNew_0 {X : zX} {e : Nat → Prop} (hw : zWf X e)  (o : zOk e (50, 0, 0)) {I : zMem} {u : (Int × zMem)} (hf : fX12_takesNew  I = some u) : zW X (some (vi u.1), u.2) mX12_takesNew 0 [(0, .ref (zad X (50, 0, 0)))] [] I := by
  unfold fX12_takesNew at hf
  refine zW_aload_n 0 dX12_takesNew_0 rfl ?_
  refine zW_getR (q' := (51, 0, 0)) lk_RX12_13 (hw.1 _ o) rfl rfl (hw.2.1 _ _ _ o rfl) dX12_takesNew_1 ?_
  refine zW_bipush dX12_takesNew_4 rfl ?_
  refine zF_iald (hw.1 _ (zokM (r' := 51) o rfl rfl)) rfl (zin_lit _ _ rfl) (ix_lit _ rfl) dX12_takesNew_6 ?_
  refine zF_istore_n (lv' := fun a1 => [(1, vi a1), (0, .ref (zad X (50, 0, 0)))]) dX12_takesNew_7 hf (fun _ => rfl) rfl (fun a1 hf => ?_)
  refine zW_aload_n 1 dX12_takesNew_8 rfl ?_
  refine zW_getR (q' := (51, 0, 0)) lk_RX12_13 (hw.1 _ o) rfl rfl (hw.2.1 _ _ _ o rfl) dX12_takesNew_9 ?_
  refine zW_bipush dX12_takesNew_12 rfl ?_
  refine zW_iload_n 0 dX12_takesNew_14 rfl ?_
  refine zW_iconst dX12_takesNew_15 ?_
  refine zW_iadd dX12_takesNew_16 ?_
  refine zW_bipush dX12_takesNew_17 rfl ?_
  refine zW_iand_7 dX12_takesNew_19 ?_
  refine zF_iast (hw.1 _ (zokM (r' := 51) o rfl rfl)) rfl (zin_lit _ _ rfl) (ix_lit _ rfl) dX12_takesNew_20 hf (fun I2 hf => ?_)
  refine zW_aload_n 1 dX12_takesNew_21 rfl ?_
  refine zW_getR (q' := (51, 0, 0)) lk_RX12_13 (hw.1 _ o) rfl rfl (hw.2.1 _ _ _ o rfl) dX12_takesNew_22 ?_
  refine zW_bipush dX12_takesNew_25 rfl ?_
  refine zW_iload_n 0 dX12_takesNew_27 rfl ?_
  refine zW_iadd dX12_takesNew_28 ?_
  refine zW_aload_n 1 dX12_takesNew_29 rfl ?_
  refine zW_getR (q' := (51, 0, 0)) lk_RX12_13 (hw.1 _ o) rfl rfl (hw.2.1 _ _ _ o rfl) dX12_takesNew_30 ?_
  refine zW_bipush dX12_takesNew_33 rfl ?_
  refine zF_iald (hw.1 _ (zokM (r' := 51) o rfl rfl)) rfl (zin_lit _ _ rfl) (ix_lit _ rfl) dX12_takesNew_35 ?_
  obtain ⟨c3, hf⟩ := zgd hf
  refine zF_iast (hw.1 _ (zokM (r' := 51) o rfl rfl)) rfl c3 rfl dX12_takesNew_36 hf (fun I4 hf => ?_)
  refine zW_aload_n 1 dX12_takesNew_37 rfl ?_
  refine zW_getR (q' := (51, 0, 0)) lk_RX12_13 (hw.1 _ o) rfl rfl (hw.2.1 _ _ _ o rfl) dX12_takesNew_38 ?_
  refine zW_bipush dX12_takesNew_41 rfl ?_
  refine zW_iload_n 0 dX12_takesNew_43 rfl ?_
  refine zW_iadd dX12_takesNew_44 ?_
  refine zW_iconst dX12_takesNew_45 ?_
  obtain ⟨c5, hf⟩ := zgd hf
  refine zF_iast (hw.1 _ (zokM (r' := 51) o rfl rfl)) rfl c5 rfl dX12_takesNew_46 hf (fun I6 hf => ?_)
  refine zW_aload_n 1 dX12_takesNew_47 rfl ?_
  refine zW_getR (q' := (51, 0, 0)) lk_RX12_13 (hw.1 _ o) rfl rfl (hw.2.1 _ _ _ o rfl) dX12_takesNew_48 ?_
  refine zW_bipush dX12_takesNew_51 rfl ?_
  refine zW_dup2 dX12_takesNew_53 rfl rfl ?_
  refine zF_iald (hw.1 _ (zokM (r' := 51) o rfl rfl)) rfl (zin_lit _ _ rfl) (ix_lit _ rfl) dX12_takesNew_54 ?_
  refine zW_iconst dX12_takesNew_55 ?_
  refine zW_isub dX12_takesNew_56 ?_
  refine zF_iast (hw.1 _ (zokM (r' := 51) o rfl rfl)) rfl (zin_lit _ _ rfl) (ix_lit _ rfl) dX12_takesNew_57 hf (fun I7 hf => ?_)
  refine zW_iconst dX12_takesNew_58 ?_
  refine zW_istore_n (lv' := [(2, vi 0), (1, vi a1), (0, .ref (zad X (50, 0, 0)))]) dX12_takesNew_59 rfl rfl ?_
  refine zW_sub [2, 1, 0] rfl ?_
  refine tX12_takesNew_l60 hw o (s0 := (0, I7)) hf (fun x11 hf => ?_)
  refine zW_iload_n 0 dX12_takesNew_97 rfl ?_
  exact zR_i hw rfl dX12_takesNew_98 hf
theorem kX12_takesNew {X : zX} {e : Nat → Prop} (hw : zWf X e)  (o : zOk e (50, 0, 0)) {I : zMem} {u : (Int × zMem)} (hf : fX12_takesNew  I = some u) : zCn X mX12_takesNew yX12_takesNew [.ref (zad X (50, 0, 0))] I (some (vi u.1), u.2) := zCn_of (by decide +kernel) rfl rfl ⟨rfl, rfl⟩ (tX12_takesNew_0 hw.N o hf)
set_option maxRecDepth 100000 in
theorem tX12_beginsSend_l95_y {X : zX} {e : Nat → Prop} (hw : zWf X e) {T : zT} {v1 : Int} {v2 : Int} {w3 : Int} (o : zOk e (50, 0, 0)) (s : (Int × zMem)) {u : ((Int × zMem) ⊕ (Int × zMem))} (hf : fX12_beginsSend_l95 v1 v2 w3 s = some u) (hk : ∀ s', u = .inl s' → zW X T mX12_beginsSend 95 [(0, .ref (zad X (50, 0, 0))), (2, vi v2), (3, vi w3), (4, vi s'.1)] [] s'.2) (hx : ∀ x, u = .inr x → zW X T mX12_beginsSend 121 [(0, .ref (zad X (50, 0, 0))), (2, vi v2), (3, vi w3)] [] x.2) : zW X T mX12_beginsSend 95 [(0, .ref (zad X (50, 0, 0))), (2, vi v2), (3, vi w3), (4, vi s.1)] [] s.2 := by
  unfold fX12_beginsSend_l95 at hf
  refine zW_iload 3 dX12_beginsSend_95 rfl ?_
  refine zW_bipush dX12_beginsSend_97 rfl ?_
  refine zF_icmp_ge 121 dX12_beginsSend_99 rfl rfl (w32_lit _ rfl) hf (fun c hf => ?_) (fun c hf => ?_)
  · refine zW_sub [0, 1, 2] rfl ?_
    exact hx _ (Option.some.inj hf).symm
  · refine zW_aload_n 0 dX12_beginsSend_102 rfl ?_
    refine zW_getR (q' := (51, 0, 0)) lk_RX12_13 (hw.1 _ o) rfl rfl (hw.2.1 _ _ _ o rfl) dX12_beginsSend_103 ?_
    refine zW_iload_n 2 dX12_beginsSend_106 rfl ?_
    refine zW_bipush dX12_beginsSend_107 rfl ?_
    refine zW_iadd dX12_beginsSend_109 ?_
    refine zW_iload 3 dX12_beginsSend_110 rfl ?_
    refine zW_iadd dX12_beginsSend_112 ?_
    refine zW_iconst dX12_beginsSend_113 ?_
    obtain ⟨c14, hf⟩ := zgd hf
    refine zF_iast (hw.1 _ (zokM (r' := 51) o rfl rfl)) rfl c14 rfl dX12_beginsSend_114 hf (fun I15 hf => ?_)
    refine zW_iinc 3 (lv' := [(4, vi (s.1 + 1)), (0, .ref (zad X (50, 0, 0))), (2, vi v2), (3, vi w3)]) dX12_beginsSend_115 rfl rfl rfl ?_
    refine zW_goto 95 dX12_beginsSend_118 rfl ?_
    refine zW_sub [1, 2, 3, 0] rfl ?_
    exact hk _ (Option.some.inj hf).symm
theorem tX12_beginsSend_l95 {X : zX} {e : Nat → Prop} (hw : zWf X e) {T : zT} {v1 : Int} {v2 : Int} {w3 : Int} (o : zOk e (50, 0, 0)) {s0 : (Int × zMem)} {α : Type} {F : (Int × zMem) → Option α} {u : α} (hf : zb (zlp (fX12_beginsSend_l95 v1 v2 w3) 5000 s0) F = some u) (kx : ∀ x, F x = some u → zW X T mX12_beginsSend 121 [(0, .ref (zad X (50, 0, 0))), (2, vi v2), (3, vi w3)] [] x.2) : zW X T mX12_beginsSend 95 [(0, .ref (zad X (50, 0, 0))), (2, vi v2), (3, vi w3), (4, vi s0.1)] [] s0.2 := by
  obtain ⟨x, h, hf⟩ := zb_inv hf
  exact zlp_W (P := fun s => zW X T mX12_beginsSend 95 [(0, .ref (zad X (50, 0, 0))), (2, vi v2), (3, vi w3), (4, vi s.1)] [] s.2) (E := fun x => zW X T mX12_beginsSend 121 [(0, .ref (zad X (50, 0, 0))), (2, vi v2), (3, vi w3)] [] x.2) (fun s u h hk hx => tX12_beginsSend_l95_y hw o s h hk hx) _ s0 x h (kx x hf)
set_option maxRecDepth 100000 in
theorem tX12_beginsSend_l182_y {X : zX} {e : Nat → Prop} (hw : zWf X e) {T : zT} {v1 : Int} {v2 : Int} {w3 : Int} {w4 : Int} (o : zOk e (50, 0, 0)) (s : (Int × zMem)) {u : ((Int × zMem) ⊕ (Int × zMem))} (hf : fX12_beginsSend_l182 v1 v2 w3 w4 s = some u) (hk : ∀ s', u = .inl s' → zW X T mX12_beginsSend 182 [(0, .ref (zad X (50, 0, 0))), (2, vi v2), (3, vi w3), (4, vi w4), (5, vi s'.1)] [] s'.2) (hx : ∀ x, u = .inr x → zW X T mX12_beginsSend 244 [] [] x.2) : zW X T mX12_beginsSend 182 [(0, .ref (zad X (50, 0, 0))), (2, vi v2), (3, vi w3), (4, vi w4), (5, vi s.1)] [] s.2 := by
  unfold fX12_beginsSend_l182 at hf
  refine zW_iload 4 dX12_beginsSend_182 rfl ?_
  refine zW_iload_n 1 dX12_beginsSend_184 rfl ?_
  refine zF_icmp_ge 244 dX12_beginsSend_185 rfl rfl rfl hf (fun c hf => ?_) (fun c hf => ?_)
  · refine zW_sub [] rfl ?_
    exact hx _ (Option.some.inj hf).symm
  · refine zW_aload_n 0 dX12_beginsSend_188 rfl ?_
    refine zW_getR (q' := (51, 0, 0)) lk_RX12_13 (hw.1 _ o) rfl rfl (hw.2.1 _ _ _ o rfl) dX12_beginsSend_189 ?_
    refine zW_iload_n 2 dX12_beginsSend_192 rfl ?_
    refine zW_bipush dX12_beginsSend_193 rfl ?_
    refine zW_iadd dX12_beginsSend_195 ?_
    refine zW_aload_n 0 dX12_beginsSend_196 rfl ?_
    refine zW_getR (q' := (56, 0, 0)) lk_RX12_31 (hw.1 _ o) rfl rfl (hw.2.1 _ _ _ o rfl) dX12_beginsSend_197 ?_
    refine zW_iload 4 dX12_beginsSend_200 rfl ?_
    obtain ⟨c26, hf⟩ := zgd hf
    refine zF_iald (hw.1 _ (zokM (r' := 56) o rfl rfl)) rfl c26 rfl dX12_beginsSend_202 ?_
    refine zW_iadd dX12_beginsSend_203 ?_
    refine zW_dup2 dX12_beginsSend_204 rfl rfl ?_
    obtain ⟨c27, hf⟩ := zgd hf
    refine zF_iald (hw.1 _ (zokM (r' := 51) o rfl rfl)) rfl c27 rfl dX12_beginsSend_205 ?_
    refine zW_iconst dX12_beginsSend_206 ?_
    refine zW_iadd dX12_beginsSend_207 ?_
    refine zF_iast (hw.1 _ (zokM (r' := 51) o rfl rfl)) rfl c27 rfl dX12_beginsSend_208 hf (fun I28 hf => ?_)
    refine zW_aload_n 0 dX12_beginsSend_209 rfl ?_
    refine zW_getR (q' := (63, 0, 0)) lk_RX12_52 (hw.1 _ o) rfl rfl (hw.2.1 _ _ _ o rfl) dX12_beginsSend_210 ?_
    refine zW_iload 4 dX12_beginsSend_213 rfl ?_
    refine zW_iload 3 dX12_beginsSend_215 rfl ?_
    refine zW_aload_n 0 dX12_beginsSend_217 rfl ?_
    refine zW_getR (q' := (56, 0, 0)) lk_RX12_31 (hw.1 _ o) rfl rfl (hw.2.1 _ _ _ o rfl) dX12_beginsSend_218 ?_
    refine zW_iload 4 dX12_beginsSend_221 rfl ?_
    refine zF_iald (hw.1 _ (zokM (r' := 56) o rfl rfl)) rfl c26 rfl dX12_beginsSend_223 ?_
    refine zC_Sri (As := [vi w4, vi (I28 (56, 0, 0) (ix s.1))]) (fun x hx => kX12_codeBit hw (v0 := w4) (v1 := I28 (56, 0, 0) (ix s.1))  hx) ms_RX12_82 rfl rfl rfl rfl dX12_beginsSend_224 hf (fun r29 hf => ?_)
    refine zW_aload_n 0 dX12_beginsSend_227 rfl ?_
    refine zW_getR (q' := (51, 0, 0)) lk_RX12_13 (hw.1 _ o) rfl rfl (hw.2.1 _ _ _ o rfl) dX12_beginsSend_228 ?_
    refine zW_bipush dX12_beginsSend_231 rfl ?_
    refine zF_iald (hw.1 _ (zokM (r' := 51) o rfl rfl)) rfl (zin_lit _ _ rfl) (ix_lit _ rfl) dX12_beginsSend_233 ?_
    refine zC_Sri (As := [vi r29, vi (I28 (51, 0, 0) 6)]) (fun x hx => kX12_signed hw (v0 := r29) (v1 := I28 (51, 0, 0) 6)  hx) ms_RX12_154 rfl rfl rfl rfl dX12_beginsSend_234 hf (fun r30 hf => ?_)
    refine zF_iast (hw.1 _ (zokM (r' := 63) o rfl rfl)) rfl c26 rfl dX12_beginsSend_237 hf (fun I31 hf => ?_)
    refine zW_iinc 4 (lv' := [(5, vi (s.1 + 1)), (0, .ref (zad X (50, 0, 0))), (2, vi v2), (3, vi w3), (4, vi w4)]) dX12_beginsSend_238 rfl rfl rfl ?_
    refine zW_goto 182 dX12_beginsSend_241 rfl ?_
    refine zW_sub [1, 2, 3, 4, 0] rfl ?_
    exact hk _ (Option.some.inj hf).symm
theorem tX12_beginsSend_l182 {X : zX} {e : Nat → Prop} (hw : zWf X e) {T : zT} {v1 : Int} {v2 : Int} {w3 : Int} {w4 : Int} (o : zOk e (50, 0, 0)) {s0 : (Int × zMem)} {α : Type} {F : (Int × zMem) → Option α} {u : α} (hf : zb (zlp (fX12_beginsSend_l182 v1 v2 w3 w4) 5000 s0) F = some u) (kx : ∀ x, F x = some u → zW X T mX12_beginsSend 244 [] [] x.2) : zW X T mX12_beginsSend 182 [(0, .ref (zad X (50, 0, 0))), (2, vi v2), (3, vi w3), (4, vi w4), (5, vi s0.1)] [] s0.2 := by
  obtain ⟨x, h, hf⟩ := zb_inv hf
  exact zlp_W (P := fun s => zW X T mX12_beginsSend 182 [(0, .ref (zad X (50, 0, 0))), (2, vi v2), (3, vi w3), (4, vi w4), (5, vi s.1)] [] s.2) (E := fun x => zW X T mX12_beginsSend 244 [] [] x.2) (fun s u h hk hx => tX12_beginsSend_l182_y hw o s h hk hx) _ s0 x h (kx x hf)
set_option maxRecDepth 100000 in
theorem tX12_beginsSend_b121 {X : zX} {e : Nat → Prop} (hw : zWf X e) {v1 : Int} {v2 : Int} {w3 : Int} {I : zMem} (o : zOk e (50, 0, 0)) {u : zMem} (hf : fX12_beginsSend_b121 v1 v2 w3 I = some u) : zW X (none, u) mX12_beginsSend 121 [(0, .ref (zad X (50, 0, 0))), (2, vi v2), (3, vi w3)] [] I := by
  unfold fX12_beginsSend_b121 at hf
  refine zW_aload_n 0 dX12_beginsSend_121 rfl ?_
  refine zW_aload_n 0 dX12_beginsSend_122 rfl ?_
  refine zW_getR (q' := (51, 0, 0)) lk_RX12_13 (hw.1 _ o) rfl rfl (hw.2.1 _ _ _ o rfl) dX12_beginsSend_123 ?_
  refine zW_iload_n 2 dX12_beginsSend_126 rfl ?_
  refine zW_iconst dX12_beginsSend_127 ?_
  refine zW_iadd dX12_beginsSend_128 ?_
  obtain ⟨c17, hf⟩ := zgd hf
  refine zF_iald (hw.1 _ (zokM (r' := 51) o rfl rfl)) rfl c17 rfl dX12_beginsSend_129 ?_
  refine zC_Sri (As := [vi (I (51, 0, 0) (ix (w3 + 3)))]) (fun x hx => kX12_versionOf hw (v0 := I (51, 0, 0) (ix (w3 + 3)))  hx) ms_RX12_207 rfl rfl rfl rfl dX12_beginsSend_130 hf (fun r18 hf => ?_)
  refine zW_iload_n 1 dX12_beginsSend_133 rfl ?_
  refine zC_Vwv (As := [vi r18, vi v2]) (fun x hx => kX12_laysSending hw (v1 := r18) (v2 := v2) o hx) mv_RX12_102 (hw.1 _ o) rfl rfl rfl rfl rfl dX12_beginsSend_134 hf (fun r19 hf => ?_)
  refine zW_aload_n 0 dX12_beginsSend_137 rfl ?_
  refine zW_getR (q' := (51, 0, 0)) lk_RX12_13 (hw.1 _ o) rfl rfl (hw.2.1 _ _ _ o rfl) dX12_beginsSend_138 ?_
  refine zW_iload_n 2 dX12_beginsSend_141 rfl ?_
  refine zW_iconst dX12_beginsSend_142 ?_
  refine zW_iadd dX12_beginsSend_143 ?_
  refine zW_dup2 dX12_beginsSend_144 rfl rfl ?_
  refine zF_iald (hw.1 _ (zokM (r' := 51) o rfl rfl)) rfl c17 rfl dX12_beginsSend_145 ?_
  refine zW_iconst dX12_beginsSend_146 ?_
  refine zW_iadd dX12_beginsSend_147 ?_
  refine zF_iast (hw.1 _ (zokM (r' := 51) o rfl rfl)) rfl c17 rfl dX12_beginsSend_148 hf (fun I20 hf => ?_)
  refine zW_aload_n 0 dX12_beginsSend_149 rfl ?_
  refine zW_getR (q' := (51, 0, 0)) lk_RX12_13 (hw.1 _ o) rfl rfl (hw.2.1 _ _ _ o rfl) dX12_beginsSend_150 ?_
  refine zW_iload_n 2 dX12_beginsSend_153 rfl ?_
  refine zW_iconst dX12_beginsSend_154 ?_
  refine zW_iadd dX12_beginsSend_155 ?_
  refine zW_iconst dX12_beginsSend_156 ?_
  obtain ⟨c21, hf⟩ := zgd hf
  refine zF_iast (hw.1 _ (zokM (r' := 51) o rfl rfl)) rfl c21 rfl dX12_beginsSend_157 hf (fun I22 hf => ?_)
  refine zW_aload_n 0 dX12_beginsSend_158 rfl ?_
  refine zW_getR (q' := (51, 0, 0)) lk_RX12_13 (hw.1 _ o) rfl rfl (hw.2.1 _ _ _ o rfl) dX12_beginsSend_159 ?_
  refine zW_iload_n 2 dX12_beginsSend_162 rfl ?_
  refine zW_iconst dX12_beginsSend_163 ?_
  refine zW_iadd dX12_beginsSend_164 ?_
  obtain ⟨c23, hf⟩ := zgd hf
  refine zF_iald (hw.1 _ (zokM (r' := 51) o rfl rfl)) rfl c23 rfl dX12_beginsSend_165 ?_
  refine zW_aload_n 0 dX12_beginsSend_166 rfl ?_
  refine zW_getR (q' := (51, 0, 0)) lk_RX12_13 (hw.1 _ o) rfl rfl (hw.2.1 _ _ _ o rfl) dX12_beginsSend_167 ?_
  refine zW_iload_n 2 dX12_beginsSend_170 rfl ?_
  refine zW_iconst dX12_beginsSend_171 ?_
  refine zW_iadd dX12_beginsSend_172 ?_
  obtain ⟨c24, hf⟩ := zgd hf
  refine zF_iald (hw.1 _ (zokM (r' := 51) o rfl rfl)) rfl c24 rfl dX12_beginsSend_173 ?_
  refine zC_Sri (As := [vi (I22 (51, 0, 0) (ix (w3 + 0))), vi (I22 (51, 0, 0) (ix (w3 + 1)))]) (fun x hx => kX12_wordOf hw (v0 := I22 (51, 0, 0) (ix (w3 + 0))) (v1 := I22 (51, 0, 0) (ix (w3 + 1)))  hx) ms_RX12_112 rfl rfl rfl rfl dX12_beginsSend_174 hf (fun r25 hf => ?_)
  refine zW_istore (lv' := [(4, vi r25), (0, .ref (zad X (50, 0, 0))), (2, vi v2), (3, vi w3)]) dX12_beginsSend_177 rfl rfl ?_
  refine zW_iconst dX12_beginsSend_179 ?_
  refine zW_istore (lv' := [(5, vi 0), (4, vi r25), (0, .ref (zad X (50, 0, 0))), (2, vi v2), (3, vi w3)]) dX12_beginsSend_180 rfl rfl ?_
  refine zW_sub [2, 3, 4, 1, 0] rfl ?_
  refine tX12_beginsSend_l182 hw o (s0 := (0, I22)) hf (fun x32 hf => ?_)
  exact zR_v hw rfl dX12_beginsSend_244 hf
set_option maxRecDepth 100000 in
theorem tX12_beginsSend_b67 {X : zX} {e : Nat → Prop} (hw : zWf X e) {v1 : Int} {v2 : Int} {w3 : Int} {k0 : Int} {k1 : Int} {I : zMem} (o : zOk e (50, 0, 0)) (ko2 : zOk e (51, 0, 0)) {u : zMem} (hf : fX12_beginsSend_b67 v1 v2 w3 k0 k1 I = some u) : zW X (none, u) mX12_beginsSend 67 [(0, .ref (zad X (50, 0, 0))), (2, vi v2), (3, vi w3)] [vi k0, vi k1, .ref (zad X (51, 0, 0))] I := by
  unfold fX12_beginsSend_b67 at hf
  obtain ⟨c8, hf⟩ := zgd hf
  refine zF_iast (hw.1 _ ko2) rfl c8 rfl dX12_beginsSend_67 hf (fun I9 hf => ?_)
  refine zW_aload_n 0 dX12_beginsSend_68 rfl ?_
  refine zW_getR (q' := (51, 0, 0)) lk_RX12_13 (hw.1 _ o) rfl rfl (hw.2.1 _ _ _ o rfl) dX12_beginsSend_69 ?_
  refine zW_iload_n 2 dX12_beginsSend_72 rfl ?_
  refine zW_iconst dX12_beginsSend_73 ?_
  refine zW_iadd dX12_beginsSend_74 ?_
  refine zW_aload_n 0 dX12_beginsSend_75 rfl ?_
  refine zW_getR (q' := (51, 0, 0)) lk_RX12_13 (hw.1 _ o) rfl rfl (hw.2.1 _ _ _ o rfl) dX12_beginsSend_76 ?_
  refine zW_bipush dX12_beginsSend_79 rfl ?_
  refine zW_aload_n 0 dX12_beginsSend_81 rfl ?_
  refine zW_getR (q' := (51, 0, 0)) lk_RX12_13 (hw.1 _ o) rfl rfl (hw.2.1 _ _ _ o rfl) dX12_beginsSend_82 ?_
  refine zW_iload_n 2 dX12_beginsSend_85 rfl ?_
  refine zW_iconst dX12_beginsSend_86 ?_
  refine zW_iadd dX12_beginsSend_87 ?_
  obtain ⟨c10, hf⟩ := zgd hf
  refine zF_iald (hw.1 _ (zokM (r' := 51) o rfl rfl)) rfl c10 rfl dX12_beginsSend_88 ?_
  refine zW_iadd dX12_beginsSend_89 ?_
  obtain ⟨c11, hf⟩ := zgd hf
  refine zF_iald (hw.1 _ (zokM (r' := 51) o rfl rfl)) rfl c11 rfl dX12_beginsSend_90 ?_
  obtain ⟨c12, hf⟩ := zgd hf
  refine zF_iast (hw.1 _ (zokM (r' := 51) o rfl rfl)) rfl c12 rfl dX12_beginsSend_91 hf (fun I13 hf => ?_)
  refine zW_iconst dX12_beginsSend_92 ?_
  refine zW_istore (lv' := [(4, vi 0), (0, .ref (zad X (50, 0, 0))), (2, vi v2), (3, vi w3)]) dX12_beginsSend_93 rfl rfl ?_
  refine zW_sub [1, 2, 3, 0] rfl ?_
  refine tX12_beginsSend_l95 hw o (s0 := (0, I13)) hf (fun x16 hf => ?_)
  refine zW_sub [0, 1, 2] rfl ?_
  exact tX12_beginsSend_b121 hw o hf
set_option maxRecDepth 100000 in
theorem tX12_beginsSend_0 {X : zX} {e : Nat → Prop} (hw : zWf X e) {v1 : Int} {v2 : Int} (o : zOk e (50, 0, 0)) {I : zMem} {u : zMem} (hf : fX12_beginsSend v1 v2 I = some u) : zW X (none, u) mX12_beginsSend 0 [(0, .ref (zad X (50, 0, 0))), (1, vi v1), (2, vi v2)] [] I := by
  unfold fX12_beginsSend at hf
  refine zW_aload_n 0 dX12_beginsSend_0 rfl ?_
  refine zW_iload_n 1 dX12_beginsSend_1 rfl ?_
  refine zC_Vri (As := [vi v1]) (fun x hx => kX12_own hw (v1 := v1) o hx) mv_RX12_188 (hw.1 _ o) rfl rfl rfl rfl rfl dX12_beginsSend_2 hf (fun r1 hf => ?_)
  refine zW_istore_n (lv' := [(3, vi r1), (0, .ref (zad X (50, 0, 0))), (1, vi v1), (2, vi v2)]) dX12_beginsSend_5 rfl rfl ?_
  refine zW_aload_n 1 dX12_beginsSend_6 rfl ?_
  refine zW_getR (q' := (51, 0, 0)) lk_RX12_13 (hw.1 _ o) rfl rfl (hw.2.1 _ _ _ o rfl) dX12_beginsSend_7 ?_
  refine zW_iload_n 0 dX12_beginsSend_10 rfl ?_
  refine zW_iconst dX12_beginsSend_11 ?_
  refine zW_iadd dX12_beginsSend_12 ?_
  obtain ⟨c2, hf⟩ := zgd hf
  refine zF_iald (hw.1 _ (zokM (r' := 51) o rfl rfl)) rfl c2 rfl dX12_beginsSend_13 ?_
  refine zW_iconst dX12_beginsSend_14 ?_
  refine zF_icmp_ne 121 dX12_beginsSend_15 rfl rfl (w32_lit _ rfl) hf (fun c hf => ?_) (fun c hf => ?_)
  · refine zW_aload_n 1 dX12_beginsSend_18 rfl ?_
    refine zW_getR (q' := (51, 0, 0)) lk_RX12_13 (hw.1 _ o) rfl rfl (hw.2.1 _ _ _ o rfl) dX12_beginsSend_19 ?_
    refine zW_iload_n 0 dX12_beginsSend_22 rfl ?_
    refine zW_iconst dX12_beginsSend_23 ?_
    refine zW_iadd dX12_beginsSend_24 ?_
    refine zW_dup2 dX12_beginsSend_25 rfl rfl ?_
    obtain ⟨c3, hf⟩ := zgd hf
    refine zF_iald (hw.1 _ (zokM (r' := 51) o rfl rfl)) rfl c3 rfl dX12_beginsSend_26 ?_
    refine zW_iconst dX12_beginsSend_27 ?_
    refine zW_ixor dX12_beginsSend_28 ?_
    refine zF_iast (hw.1 _ (zokM (r' := 51) o rfl rfl)) rfl c3 rfl dX12_beginsSend_29 hf (fun I4 hf => ?_)
    refine zW_aload_n 1 dX12_beginsSend_30 rfl ?_
    refine zW_getR (q' := (51, 0, 0)) lk_RX12_13 (hw.1 _ o) rfl rfl (hw.2.1 _ _ _ o rfl) dX12_beginsSend_31 ?_
    refine zW_iload_n 0 dX12_beginsSend_34 rfl ?_
    refine zW_iconst dX12_beginsSend_35 ?_
    refine zW_iadd dX12_beginsSend_36 ?_
    refine zW_iconst dX12_beginsSend_37 ?_
    obtain ⟨c5, hf⟩ := zgd hf
    refine zF_iast (hw.1 _ (zokM (r' := 51) o rfl rfl)) rfl c5 rfl dX12_beginsSend_38 hf (fun I6 hf => ?_)
    refine zW_aload_n 1 dX12_beginsSend_39 rfl ?_
    refine zW_getR (q' := (51, 0, 0)) lk_RX12_13 (hw.1 _ o) rfl rfl (hw.2.1 _ _ _ o rfl) dX12_beginsSend_40 ?_
    refine zW_iload_n 0 dX12_beginsSend_43 rfl ?_
    refine zW_iconst dX12_beginsSend_44 ?_
    refine zW_iadd dX12_beginsSend_45 ?_
    refine zW_aload_n 1 dX12_beginsSend_46 rfl ?_
    refine zW_getR (q' := (51, 0, 0)) lk_RX12_13 (hw.1 _ o) rfl rfl (hw.2.1 _ _ _ o rfl) dX12_beginsSend_47 ?_
    refine zW_bipush dX12_beginsSend_50 rfl ?_
    refine zF_iald (hw.1 _ (zokM (r' := 51) o rfl rfl)) rfl (zin_lit _ _ rfl) (ix_lit _ rfl) dX12_beginsSend_52 ?_
    refine zF_if_le 63 dX12_beginsSend_53 rfl rfl hf (fun c hf => ?_) (fun c hf => ?_)
    · refine zW_aload_n 1 dX12_beginsSend_63 rfl ?_
      refine zC_Vwi (As := []) (fun x hx => kX12_takesNew hw o hx) mv_RX12_204 (hw.1 _ o) rfl rfl rfl rfl rfl dX12_beginsSend_64 hf (fun r7 hf => ?_)
      refine zW_sub [1, 3, 0] rfl ?_
      exact tX12_beginsSend_b67 hw o (zokM (r' := 51) o rfl rfl) hf
    · refine zW_aload_n 1 dX12_beginsSend_56 rfl ?_
      refine zC_Vwi (As := []) (fun x hx => kX12_takesAgain hw o hx) mv_RX12_201 (hw.1 _ o) rfl rfl rfl rfl rfl dX12_beginsSend_57 hf (fun r33 hf => ?_)
      refine zW_goto 67 dX12_beginsSend_60 rfl ?_
      refine zW_sub [1, 3, 0] rfl ?_
      exact tX12_beginsSend_b67 hw o (zokM (r' := 51) o rfl rfl) hf
  · refine zW_sub [1, 3, 0] rfl ?_
    exact tX12_beginsSend_b121 hw o hf
theorem kX12_beginsSend {X : zX} {e : Nat → Prop} (hw : zWf X e) {v1 : Int} {v2 : Int} (o : zOk e (50, 0, 0)) {I : zMem} {u : zMem} (hf : fX12_beginsSend v1 v2 I = some u) : zCn X mX12_beginsSend yX12_beginsSend [.ref (zad X (50, 0, 0)), vi v1, vi v2] I (none, u) := zCn_of (by decide +kernel) rfl rfl ⟨rfl, rfl⟩ (tX12_beginsSend_0 hw.N o hf)
set_option maxRecDepth 100000 in
theorem tX12_endsSend_l51_y {X : zX} {e : Nat → Prop} (hw : zWf X e) {T : zT} {v1 : Int} {v2 : Int} {v3 : Int} {w4 : Int} (o : zOk e (50, 0, 0)) (s : (Int × zMem)) {u : ((Int × zMem) ⊕ (Int × zMem))} (hf : fX12_endsSend_l51 v1 v2 v3 w4 s = some u) (hk : ∀ s', u = .inl s' → zW X T mX12_endsSend 51 [(0, .ref (zad X (50, 0, 0))), (1, vi v1), (2, vi v2), (4, vi w4), (5, vi s'.1)] [] s'.2) (hx : ∀ x, u = .inr x → zW X T mX12_endsSend 82 [(0, .ref (zad X (50, 0, 0))), (1, vi v1), (2, vi v2), (4, vi w4)] [] x.2) : zW X T mX12_endsSend 51 [(0, .ref (zad X (50, 0, 0))), (1, vi v1), (2, vi v2), (4, vi w4), (5, vi s.1)] [] s.2 := by
  unfold fX12_endsSend_l51 at hf
  refine zW_iload 4 dX12_endsSend_51 rfl ?_
  refine zW_iload_n 2 dX12_endsSend_53 rfl ?_
  refine zF_icmp_ge 82 dX12_endsSend_54 rfl rfl rfl hf (fun c hf => ?_) (fun c hf => ?_)
  · refine zW_sub [0, 1, 2, 3] rfl ?_
    exact hx _ (Option.some.inj hf).symm
  · refine zW_aload_n 0 dX12_endsSend_57 rfl ?_
    refine zW_getR (q' := (63, 0, 0)) lk_RX12_52 (hw.1 _ o) rfl rfl (hw.2.1 _ _ _ o rfl) dX12_endsSend_58 ?_
    refine zW_iload 4 dX12_endsSend_61 rfl ?_
    refine zW_aload_n 0 dX12_endsSend_63 rfl ?_
    refine zW_getR (q' := (63, 0, 0)) lk_RX12_52 (hw.1 _ o) rfl rfl (hw.2.1 _ _ _ o rfl) dX12_endsSend_64 ?_
    refine zW_iload 4 dX12_endsSend_67 rfl ?_
    obtain ⟨c5, hf⟩ := zgd hf
    refine zF_iald (hw.1 _ (zokM (r' := 63) o rfl rfl)) rfl c5 rfl dX12_endsSend_69 ?_
    refine zW_bipush dX12_endsSend_70 rfl ?_
    refine zC_Sri (As := [vi (s.2 (63, 0, 0) (ix s.1)), vi 127]) (fun x hx => kX12_held hw (v0 := s.2 (63, 0, 0) (ix s.1)) (v1 := 127)  hx) ms_RX12_191 rfl rfl rfl rfl dX12_endsSend_72 hf (fun r6 hf => ?_)
    refine zF_iast (hw.1 _ (zokM (r' := 63) o rfl rfl)) rfl c5 rfl dX12_endsSend_75 hf (fun I7 hf => ?_)
    refine zW_iinc 4 (lv' := [(5, vi (s.1 + 1)), (0, .ref (zad X (50, 0, 0))), (1, vi v1), (2, vi v2), (4, vi w4)]) dX12_endsSend_76 rfl rfl rfl ?_
    refine zW_goto 51 dX12_endsSend_79 rfl ?_
    refine zW_sub [1, 2, 3, 4, 0] rfl ?_
    exact hk _ (Option.some.inj hf).symm
theorem tX12_endsSend_l51 {X : zX} {e : Nat → Prop} (hw : zWf X e) {T : zT} {v1 : Int} {v2 : Int} {v3 : Int} {w4 : Int} (o : zOk e (50, 0, 0)) {s0 : (Int × zMem)} {α : Type} {F : (Int × zMem) → Option α} {u : α} (hf : zb (zlp (fX12_endsSend_l51 v1 v2 v3 w4) 5000 s0) F = some u) (kx : ∀ x, F x = some u → zW X T mX12_endsSend 82 [(0, .ref (zad X (50, 0, 0))), (1, vi v1), (2, vi v2), (4, vi w4)] [] x.2) : zW X T mX12_endsSend 51 [(0, .ref (zad X (50, 0, 0))), (1, vi v1), (2, vi v2), (4, vi w4), (5, vi s0.1)] [] s0.2 := by
  obtain ⟨x, h, hf⟩ := zb_inv hf
  exact zlp_W (P := fun s => zW X T mX12_endsSend 51 [(0, .ref (zad X (50, 0, 0))), (1, vi v1), (2, vi v2), (4, vi w4), (5, vi s.1)] [] s.2) (E := fun x => zW X T mX12_endsSend 82 [(0, .ref (zad X (50, 0, 0))), (1, vi v1), (2, vi v2), (4, vi w4)] [] x.2) (fun s u h hk hx => tX12_endsSend_l51_y hw o s h hk hx) _ s0 x h (kx x hf)
set_option maxRecDepth 100000 in
theorem tX12_endsSend_b34 {X : zX} {e : Nat → Prop} (hw : zWf X e) {v1 : Int} {v2 : Int} {v3 : Int} {w4 : Int} {k0 : Int} {k1 : Int} {I : zMem} (o : zOk e (50, 0, 0)) (ko2 : zOk e (51, 0, 0)) {u : zMem} (hf : fX12_endsSend_b34 v1 v2 v3 w4 k0 k1 I = some u) : zW X (none, u) mX12_endsSend 34 [(0, .ref (zad X (50, 0, 0))), (1, vi v1), (2, vi v2), (4, vi w4)] [vi k0, vi k1, .ref (zad X (51, 0, 0))] I := by
  unfold fX12_endsSend_b34 at hf
  obtain ⟨c2, hf⟩ := zgd hf
  refine zF_iast (hw.1 _ ko2) rfl c2 rfl dX12_endsSend_34 hf (fun I3 hf => ?_)
  refine zW_aload_n 0 dX12_endsSend_35 rfl ?_
  refine zW_getR (q' := (51, 0, 0)) lk_RX12_13 (hw.1 _ o) rfl rfl (hw.2.1 _ _ _ o rfl) dX12_endsSend_36 ?_
  refine zW_iload 3 dX12_endsSend_39 rfl ?_
  refine zW_iconst dX12_endsSend_41 ?_
  refine zW_iadd dX12_endsSend_42 ?_
  obtain ⟨c4, hf⟩ := zgd hf
  refine zF_iald (hw.1 _ (zokM (r' := 51) o rfl rfl)) rfl c4 rfl dX12_endsSend_43 ?_
  refine zF_if_ne 48 dX12_endsSend_44 rfl rfl hf (fun c hf => ?_) (fun c hf => ?_)
  · exact zR_v hw rfl dX12_endsSend_47 hf
  · refine zW_iconst dX12_endsSend_48 ?_
    refine zW_istore (lv' := [(5, vi 0), (0, .ref (zad X (50, 0, 0))), (1, vi v1), (2, vi v2), (4, vi w4)]) dX12_endsSend_49 rfl rfl ?_
    refine zW_sub [1, 2, 3, 4, 0] rfl ?_
    refine tX12_endsSend_l51 hw o (s0 := (0, I3)) hf (fun x8 hf => ?_)
    refine zW_aload_n 0 dX12_endsSend_82 rfl ?_
    refine zW_iload_n 1 dX12_endsSend_83 rfl ?_
    refine zW_aload_n 0 dX12_endsSend_84 rfl ?_
    refine zW_getR (q' := (51, 0, 0)) lk_RX12_13 (hw.1 _ o) rfl rfl (hw.2.1 _ _ _ o rfl) dX12_endsSend_85 ?_
    refine zW_iload 3 dX12_endsSend_88 rfl ?_
    refine zW_iconst dX12_endsSend_90 ?_
    refine zW_iadd dX12_endsSend_91 ?_
    obtain ⟨c9, hf⟩ := zgd hf
    refine zF_iald (hw.1 _ (zokM (r' := 51) o rfl rfl)) rfl c9 rfl dX12_endsSend_92 ?_
    refine zW_iload_n 2 dX12_endsSend_93 rfl ?_
    refine zC_Vwv (As := [vi v1, vi (x8.2 (51, 0, 0) (ix (w4 + 2))), vi v2]) (fun x hx => kX12_hears hw (v1 := v1) (v2 := x8.2 (51, 0, 0) (ix (w4 + 2))) (v3 := v2) o hx) mv_RX12_210 (hw.1 _ o) rfl rfl rfl rfl rfl dX12_endsSend_94 hf (fun r10 hf => ?_)
    exact zR_v hw rfl dX12_endsSend_97 hf
set_option maxRecDepth 100000 in
theorem tX12_endsSend_b33 {X : zX} {e : Nat → Prop} (hw : zWf X e) {v1 : Int} {v2 : Int} {v3 : Int} {w4 : Int} {k0 : Int} {I : zMem} (o : zOk e (50, 0, 0)) (ko1 : zOk e (51, 0, 0)) {u : zMem} (hf : fX12_endsSend_b33 v1 v2 v3 w4 k0 I = some u) : zW X (none, u) mX12_endsSend 33 [(0, .ref (zad X (50, 0, 0))), (1, vi v1), (2, vi v2), (4, vi w4)] [vi k0, .ref (zad X (51, 0, 0))] I := by
  unfold fX12_endsSend_b33 at hf
  refine zW_iconst dX12_endsSend_33 ?_
  refine zW_sub [0, 1, 2, 3] rfl ?_
  exact tX12_endsSend_b34 hw o ko1 hf
set_option maxRecDepth 100000 in
theorem tX12_endsSend_0 {X : zX} {e : Nat → Prop} (hw : zWf X e) {v1 : Int} {v2 : Int} {v3 : Int} (o : zOk e (50, 0, 0)) {I : zMem} {u : zMem} (hf : fX12_endsSend v1 v2 v3 I = some u) : zW X (none, u) mX12_endsSend 0 [(0, .ref (zad X (50, 0, 0))), (1, vi v1), (2, vi v2), (3, vi v3)] [] I := by
  unfold fX12_endsSend at hf
  refine zW_aload_n 0 dX12_endsSend_0 rfl ?_
  refine zW_iload_n 1 dX12_endsSend_1 rfl ?_
  refine zC_Vri (As := [vi v1]) (fun x hx => kX12_own hw (v1 := v1) o hx) mv_RX12_188 (hw.1 _ o) rfl rfl rfl rfl rfl dX12_endsSend_2 hf (fun r1 hf => ?_)
  refine zW_istore (lv' := [(4, vi r1), (0, .ref (zad X (50, 0, 0))), (1, vi v1), (2, vi v2), (3, vi v3)]) dX12_endsSend_5 rfl rfl ?_
  refine zW_aload_n 1 dX12_endsSend_7 rfl ?_
  refine zW_getR (q' := (51, 0, 0)) lk_RX12_13 (hw.1 _ o) rfl rfl (hw.2.1 _ _ _ o rfl) dX12_endsSend_8 ?_
  refine zW_iload 0 dX12_endsSend_11 rfl ?_
  refine zW_iconst dX12_endsSend_13 ?_
  refine zW_iadd dX12_endsSend_14 ?_
  refine zW_iload_n 4 dX12_endsSend_15 rfl ?_
  refine zF_if_eq 33 dX12_endsSend_16 rfl rfl hf (fun c hf => ?_) (fun c hf => ?_)
  · refine zW_sub [1, 2, 3, 0] rfl ?_
    exact tX12_endsSend_b33 hw o (zokM (r' := 51) o rfl rfl) hf
  · refine zW_aload_n 1 dX12_endsSend_19 rfl ?_
    refine zW_getR (q' := (51, 0, 0)) lk_RX12_13 (hw.1 _ o) rfl rfl (hw.2.1 _ _ _ o rfl) dX12_endsSend_20 ?_
    refine zW_bipush dX12_endsSend_23 rfl ?_
    refine zF_iald (hw.1 _ (zokM (r' := 51) o rfl rfl)) rfl (zin_lit _ _ rfl) (ix_lit _ rfl) dX12_endsSend_25 ?_
    refine zF_if_le 33 dX12_endsSend_26 rfl rfl hf (fun c hf => ?_) (fun c hf => ?_)
    · refine zW_sub [1, 2, 3, 0] rfl ?_
      exact tX12_endsSend_b33 hw o (zokM (r' := 51) o rfl rfl) hf
    · refine zW_iconst dX12_endsSend_29 ?_
      refine zW_goto 34 dX12_endsSend_30 rfl ?_
      refine zW_sub [1, 2, 3, 0] rfl ?_
      exact tX12_endsSend_b34 hw o (zokM (r' := 51) o rfl rfl) hf
theorem kX12_endsSend {X : zX} {e : Nat → Prop} (hw : zWf X e) {v1 : Int} {v2 : Int} {v3 : Int} (o : zOk e (50, 0, 0)) {I : zMem} {u : zMem} (hf : fX12_endsSend v1 v2 v3 I = some u) : zCn X mX12_endsSend yX12_endsSend [.ref (zad X (50, 0, 0)), vi v1, vi v2, vi v3] I (none, u) := zCn_of (by decide +kernel) rfl rfl ⟨rfl, rfl⟩ (tX12_endsSend_0 hw.N o hf)
set_option maxRecDepth 100000 in
theorem tX12_isIdle_0 {X : zX} {e : Nat → Prop} (hw : zWf X e) {v1 : Int} (o : zOk e (50, 0, 0)) {I : zMem} {u : zMem} (hf : fX12_isIdle v1 I = some u) : zW X (none, u) mX12_isIdle 0 [(0, .ref (zad X (50, 0, 0))), (1, vi v1)] [] I := by
  unfold fX12_isIdle at hf
  refine zW_aload_n 0 dX12_isIdle_0 rfl ?_
  refine zW_getR (q' := (51, 0, 0)) lk_RX12_13 (hw.1 _ o) rfl rfl (hw.2.1 _ _ _ o rfl) dX12_isIdle_1 ?_
  refine zW_aload_n 0 dX12_isIdle_4 rfl ?_
  refine zW_iload_n 1 dX12_isIdle_5 rfl ?_
  refine zC_Vri (As := [vi v1]) (fun x hx => kX12_own hw (v1 := v1) o hx) mv_RX12_188 (hw.1 _ o) rfl rfl rfl rfl rfl dX12_isIdle_6 hf (fun r1 hf => ?_)
  refine zW_iconst dX12_isIdle_9 ?_
  refine zW_iadd dX12_isIdle_10 ?_
  refine zW_iconst dX12_isIdle_11 ?_
  obtain ⟨c2, hf⟩ := zgd hf
  refine zF_iast (hw.1 _ (zokM (r' := 51) o rfl rfl)) rfl c2 rfl dX12_isIdle_12 hf (fun I3 hf => ?_)
  refine zW_aload_n 0 dX12_isIdle_13 rfl ?_
  refine zW_getR (q' := (51, 0, 0)) lk_RX12_13 (hw.1 _ o) rfl rfl (hw.2.1 _ _ _ o rfl) dX12_isIdle_14 ?_
  refine zW_aload_n 0 dX12_isIdle_17 rfl ?_
  refine zW_iload_n 1 dX12_isIdle_18 rfl ?_
  refine zC_Vri (As := [vi v1]) (fun x hx => kX12_own hw (v1 := v1) o hx) mv_RX12_188 (hw.1 _ o) rfl rfl rfl rfl rfl dX12_isIdle_19 hf (fun r4 hf => ?_)
  refine zW_iconst dX12_isIdle_22 ?_
  refine zW_iadd dX12_isIdle_23 ?_
  refine zW_iconst dX12_isIdle_24 ?_
  obtain ⟨c5, hf⟩ := zgd hf
  refine zF_iast (hw.1 _ (zokM (r' := 51) o rfl rfl)) rfl c5 rfl dX12_isIdle_25 hf (fun I6 hf => ?_)
  refine zW_aload_n 0 dX12_isIdle_26 rfl ?_
  refine zW_getR (q' := (51, 0, 0)) lk_RX12_13 (hw.1 _ o) rfl rfl (hw.2.1 _ _ _ o rfl) dX12_isIdle_27 ?_
  refine zW_aload_n 0 dX12_isIdle_30 rfl ?_
  refine zW_iload_n 1 dX12_isIdle_31 rfl ?_
  refine zC_Vri (As := [vi v1]) (fun x hx => kX12_own hw (v1 := v1) o hx) mv_RX12_188 (hw.1 _ o) rfl rfl rfl rfl rfl dX12_isIdle_32 hf (fun r7 hf => ?_)
  refine zW_iconst dX12_isIdle_35 ?_
  refine zW_iadd dX12_isIdle_36 ?_
  refine zW_iconst dX12_isIdle_37 ?_
  obtain ⟨c8, hf⟩ := zgd hf
  refine zF_iast (hw.1 _ (zokM (r' := 51) o rfl rfl)) rfl c8 rfl dX12_isIdle_38 hf (fun I9 hf => ?_)
  exact zR_v hw rfl dX12_isIdle_39 hf
theorem kX12_isIdle {X : zX} {e : Nat → Prop} (hw : zWf X e) {v1 : Int} (o : zOk e (50, 0, 0)) {I : zMem} {u : zMem} (hf : fX12_isIdle v1 I = some u) : zCn X mX12_isIdle yX12_isIdle [.ref (zad X (50, 0, 0)), vi v1] I (none, u) := zCn_of (by decide +kernel) rfl rfl ⟨rfl, rfl⟩ (tX12_isIdle_0 hw.N o hf)
set_option maxRecDepth 100000 in
theorem tX12_reads_b58 {X : zX} {e : Nat → Prop} (hw : zWf X e) {v1 : Int} {v2 : Int} {w3 : Int} {w4 : Int} {I : zMem} (o : zOk e (50, 0, 0)) {u : (Int × zMem)} (hf : fX12_reads_b58 v1 v2 w3 w4 I = some u) : zW X (some (vi u.1), u.2) mX12_reads 58 [(0, .ref (zad X (50, 0, 0))), (1, vi v1), (3, vi w3), (4, vi w4)] [] I := by
  unfold fX12_reads_b58 at hf
  refine zW_aload_n 0 dX12_reads_58 rfl ?_
  refine zW_getR (q' := (51, 0, 0)) lk_RX12_13 (hw.1 _ o) rfl rfl (hw.2.1 _ _ _ o rfl) dX12_reads_59 ?_
  refine zW_iload_n 2 dX12_reads_62 rfl ?_
  refine zW_iconst dX12_reads_63 ?_
  refine zW_iadd dX12_reads_64 ?_
  refine zW_iconst dX12_reads_65 ?_
  obtain ⟨c3, hf⟩ := zgd hf
  refine zF_iast (hw.1 _ (zokM (r' := 51) o rfl rfl)) rfl c3 rfl dX12_reads_66 hf (fun I4 hf => ?_)
  refine zW_iload 3 dX12_reads_67 rfl ?_
  refine zW_iconst dX12_reads_69 ?_
  refine zF_icmp_ne 81 dX12_reads_70 rfl rfl (w32_lit _ rfl) hf (fun c hf => ?_) (fun c hf => ?_)
  · refine zW_aload_n 0 dX12_reads_73 rfl ?_
    refine zW_iload_n 1 dX12_reads_74 rfl ?_
    refine zC_Vwv (As := [vi v1]) (fun x hx => kX12_isIdle hw (v1 := v1) o hx) mv_RX12_213 (hw.1 _ o) rfl rfl rfl rfl rfl dX12_reads_75 hf (fun r5 hf => ?_)
    refine zW_goto 114 dX12_reads_78 rfl ?_
    refine zW_iload 3 dX12_reads_114 rfl ?_
    exact zR_i hw rfl dX12_reads_116 hf
  · refine zW_aload_n 0 dX12_reads_81 rfl ?_
    refine zW_getR (q' := (51, 0, 0)) lk_RX12_13 (hw.1 _ o) rfl rfl (hw.2.1 _ _ _ o rfl) dX12_reads_82 ?_
    refine zW_iload_n 2 dX12_reads_85 rfl ?_
    refine zW_iconst dX12_reads_86 ?_
    refine zW_iadd dX12_reads_87 ?_
    obtain ⟨c6, hf⟩ := zgd hf
    refine zF_iald (hw.1 _ (zokM (r' := 51) o rfl rfl)) rfl c6 rfl dX12_reads_88 ?_
    refine zW_aload_n 0 dX12_reads_89 rfl ?_
    refine zW_getR (q' := (51, 0, 0)) lk_RX12_13 (hw.1 _ o) rfl rfl (hw.2.1 _ _ _ o rfl) dX12_reads_90 ?_
    refine zW_iconst dX12_reads_93 ?_
    refine zF_iald (hw.1 _ (zokM (r' := 51) o rfl rfl)) rfl (zin_lit _ _ rfl) (ix_lit _ rfl) dX12_reads_94 ?_
    refine zF_icmp_ne 114 dX12_reads_95 rfl rfl rfl hf (fun c hf => ?_) (fun c hf => ?_)
    · refine zW_aload_n 0 dX12_reads_98 rfl ?_
      refine zW_iload_n 1 dX12_reads_99 rfl ?_
      refine zC_Vwv (As := [vi v1]) (fun x hx => kX12_isIdle hw (v1 := v1) o hx) mv_RX12_213 (hw.1 _ o) rfl rfl rfl rfl rfl dX12_reads_100 hf (fun r7 hf => ?_)
      refine zW_aload_n 0 dX12_reads_103 rfl ?_
      refine zW_getR (q' := (51, 0, 0)) lk_RX12_13 (hw.1 _ o) rfl rfl (hw.2.1 _ _ _ o rfl) dX12_reads_104 ?_
      refine zW_bipush dX12_reads_107 rfl ?_
      refine zW_dup2 dX12_reads_109 rfl rfl ?_
      refine zF_iald (hw.1 _ (zokM (r' := 51) o rfl rfl)) rfl (zin_lit _ _ rfl) (ix_lit _ rfl) dX12_reads_110 ?_
      refine zW_iconst dX12_reads_111 ?_
      refine zW_iadd dX12_reads_112 ?_
      refine zF_iast (hw.1 _ (zokM (r' := 51) o rfl rfl)) rfl (zin_lit _ _ rfl) (ix_lit _ rfl) dX12_reads_113 hf (fun I8 hf => ?_)
      refine zW_iload 3 dX12_reads_114 rfl ?_
      exact zR_i hw rfl dX12_reads_116 hf
    · refine zW_iload 3 dX12_reads_114 rfl ?_
      exact zR_i hw rfl dX12_reads_116 hf
set_option maxRecDepth 100000 in
theorem tX12_reads_b50 {X : zX} {e : Nat → Prop} (hw : zWf X e) {v1 : Int} {v2 : Int} {w3 : Int} {w4 : Int} {I : zMem} (o : zOk e (50, 0, 0)) {u : (Int × zMem)} (hf : fX12_reads_b50 v1 v2 w3 w4 I = some u) : zW X (some (vi u.1), u.2) mX12_reads 50 [(0, .ref (zad X (50, 0, 0))), (1, vi v1), (2, vi v2), (3, vi w3), (4, vi w4)] [] I := by
  unfold fX12_reads_b50 at hf
  refine zW_iload_n 2 dX12_reads_50 rfl ?_
  refine zW_iconst dX12_reads_51 ?_
  refine zF_icmp_ne 58 dX12_reads_52 rfl rfl (w32_lit _ rfl) hf (fun c hf => ?_) (fun c hf => ?_)
  · refine zW_iconst dX12_reads_55 ?_
    refine zW_istore (lv' := [(4, vi (-1)), (0, .ref (zad X (50, 0, 0))), (1, vi v1), (2, vi v2), (3, vi w3)]) dX12_reads_56 rfl rfl ?_
    refine zW_sub [1, 2, 4, 0] rfl ?_
    exact tX12_reads_b58 hw o hf
  · refine zW_sub [0, 1, 3, 4] rfl ?_
    exact tX12_reads_b58 hw o hf
set_option maxRecDepth 100000 in
theorem tX12_reads_b48 {X : zX} {e : Nat → Prop} (hw : zWf X e) {v1 : Int} {v2 : Int} {w3 : Int} {k0 : Int} {I : zMem} (o : zOk e (50, 0, 0)) {u : (Int × zMem)} (hf : fX12_reads_b48 v1 v2 w3 k0 I = some u) : zW X (some (vi u.1), u.2) mX12_reads 48 [(0, .ref (zad X (50, 0, 0))), (1, vi v1), (2, vi v2), (3, vi w3)] [vi k0] I := by
  unfold fX12_reads_b48 at hf
  refine zW_istore (lv' := [(4, vi k0), (0, .ref (zad X (50, 0, 0))), (1, vi v1), (2, vi v2), (3, vi w3)]) dX12_reads_48 rfl rfl ?_
  refine zW_sub [1, 2, 3, 4, 0] rfl ?_
  exact tX12_reads_b50 hw o hf
set_option maxRecDepth 100000 in
theorem tX12_reads_b30 {X : zX} {e : Nat → Prop} (hw : zWf X e) {v1 : Int} {v2 : Int} {w3 : Int} {k0 : Int} {I : zMem} (o : zOk e (50, 0, 0)) {u : (Int × zMem)} (hf : fX12_reads_b30 v1 v2 w3 k0 I = some u) : zW X (some (vi u.1), u.2) mX12_reads 30 [(0, .ref (zad X (50, 0, 0))), (1, vi v1), (2, vi v2), (3, vi w3)] [vi k0] I := by
  unfold fX12_reads_b30 at hf
  refine zW_istore (lv' := [(4, vi k0), (0, .ref (zad X (50, 0, 0))), (1, vi v1), (2, vi v2), (3, vi w3)]) dX12_reads_30 rfl rfl ?_
  refine zW_iload_n 3 dX12_reads_32 rfl ?_
  refine zW_iconst dX12_reads_33 ?_
  refine zF_icmp_ne 50 dX12_reads_34 rfl rfl (w32_lit _ rfl) hf (fun c hf => ?_) (fun c hf => ?_)
  · refine zW_iload 0 dX12_reads_37 rfl ?_
    refine zW_iconst dX12_reads_39 ?_
    refine zF_icmp_ne 47 dX12_reads_40 rfl rfl (w32_lit _ rfl) hf (fun c hf => ?_) (fun c hf => ?_)
    · refine zW_iconst dX12_reads_43 ?_
      refine zW_goto 48 dX12_reads_44 rfl ?_
      refine zW_sub [1, 2, 3, 4] rfl ?_
      exact tX12_reads_b48 hw o hf
    · refine zW_iconst dX12_reads_47 ?_
      refine zW_sub [1, 2, 3, 4] rfl ?_
      exact tX12_reads_b48 hw o hf
  · refine zW_sub [1, 2, 3, 4, 0] rfl ?_
    exact tX12_reads_b50 hw o hf
set_option maxRecDepth 100000 in
theorem tX12_reads_0 {X : zX} {e : Nat → Prop} (hw : zWf X e) {v1 : Int} {v2 : Int} (o : zOk e (50, 0, 0)) {I : zMem} {u : (Int × zMem)} (hf : fX12_reads v1 v2 I = some u) : zW X (some (vi u.1), u.2) mX12_reads 0 [(0, .ref (zad X (50, 0, 0))), (1, vi v1), (2, vi v2)] [] I := by
  unfold fX12_reads at hf
  refine zW_aload_n 0 dX12_reads_0 rfl ?_
  refine zW_iload_n 1 dX12_reads_1 rfl ?_
  refine zC_Vri (As := [vi v1]) (fun x hx => kX12_own hw (v1 := v1) o hx) mv_RX12_188 (hw.1 _ o) rfl rfl rfl rfl rfl dX12_reads_2 hf (fun r1 hf => ?_)
  refine zW_istore_n (lv' := [(3, vi r1), (0, .ref (zad X (50, 0, 0))), (1, vi v1), (2, vi v2)]) dX12_reads_5 rfl rfl ?_
  refine zW_aload_n 1 dX12_reads_6 rfl ?_
  refine zW_getR (q' := (51, 0, 0)) lk_RX12_13 (hw.1 _ o) rfl rfl (hw.2.1 _ _ _ o rfl) dX12_reads_7 ?_
  refine zW_iload_n 0 dX12_reads_10 rfl ?_
  refine zW_iconst dX12_reads_11 ?_
  refine zW_iadd dX12_reads_12 ?_
  obtain ⟨c2, hf⟩ := zgd hf
  refine zF_iald (hw.1 _ (zokM (r' := 51) o rfl rfl)) rfl c2 rfl dX12_reads_13 ?_
  refine zF_if_ne 21 dX12_reads_14 rfl rfl hf (fun c hf => ?_) (fun c hf => ?_)
  · refine zW_iconst dX12_reads_17 ?_
    refine zW_goto 30 dX12_reads_18 rfl ?_
    refine zW_sub [1, 2, 3, 0] rfl ?_
    exact tX12_reads_b30 hw o hf
  · refine zW_aload_n 1 dX12_reads_21 rfl ?_
    refine zW_getR (q' := (51, 0, 0)) lk_RX12_13 (hw.1 _ o) rfl rfl (hw.2.1 _ _ _ o rfl) dX12_reads_22 ?_
    refine zW_iload_n 0 dX12_reads_25 rfl ?_
    refine zW_bipush dX12_reads_26 rfl ?_
    refine zW_iadd dX12_reads_28 ?_
    obtain ⟨c9, hf⟩ := zgd hf
    refine zF_iald (hw.1 _ (zokM (r' := 51) o rfl rfl)) rfl c9 rfl dX12_reads_29 ?_
    refine zW_sub [1, 2, 3, 0] rfl ?_
    exact tX12_reads_b30 hw o hf
theorem kX12_reads {X : zX} {e : Nat → Prop} (hw : zWf X e) {v1 : Int} {v2 : Int} (o : zOk e (50, 0, 0)) {I : zMem} {u : (Int × zMem)} (hf : fX12_reads v1 v2 I = some u) : zCn X mX12_reads yX12_reads [.ref (zad X (50, 0, 0)), vi v1, vi v2] I (some (vi u.1), u.2) := zCn_of (by decide +kernel) rfl rfl ⟨rfl, rfl⟩ (tX12_reads_0 hw.N o hf)
set_option maxRecDepth 100000 in
theorem tX12_isOnProcess_l2_y {X : zX} {e : Nat → Prop} (hw : zWf X e) {T : zT} {v1 : Int} {I : zMem} (o : zOk e (50, 0, 0)) (s : Int) {u : (Int ⊕ (Int ⊕ Int))} (hf : fX12_isOnProcess_l2 v1 I s = some u) (hk : ∀ s', u = .inl s' → zW X T mX12_isOnProcess 2 [(0, .ref (zad X (50, 0, 0))), (1, vi v1), (2, vi s')] [] I) (hx : ∀ x, u = .inr (.inl x) → zW X T mX12_isOnProcess 36 [] [] I) (hr : ∀ z : Int, u = .inr (.inr z) → T = (some (vi z), I)) : zW X T mX12_isOnProcess 2 [(0, .ref (zad X (50, 0, 0))), (1, vi v1), (2, vi s)] [] I := by
  unfold fX12_isOnProcess_l2 at hf
  refine zW_iload_n 2 dX12_isOnProcess_2 rfl ?_
  refine zW_aload_n 0 dX12_isOnProcess_3 rfl ?_
  refine zW_getR (q' := (51, 0, 0)) lk_RX12_13 (hw.1 _ o) rfl rfl (hw.2.1 _ _ _ o rfl) dX12_isOnProcess_4 ?_
  refine zW_iconst dX12_isOnProcess_7 ?_
  refine zF_iald (hw.1 _ (zokM (r' := 51) o rfl rfl)) rfl (zin_lit _ _ rfl) (ix_lit _ rfl) dX12_isOnProcess_8 ?_
  refine zF_icmp_ge 36 dX12_isOnProcess_9 rfl rfl rfl hf (fun c hf => ?_) (fun c hf => ?_)
  · refine zW_sub [] rfl ?_
    exact hx _ (Option.some.inj hf).symm
  · refine zW_aload_n 0 dX12_isOnProcess_12 rfl ?_
    refine zW_getR (q' := (51, 0, 0)) lk_RX12_13 (hw.1 _ o) rfl rfl (hw.2.1 _ _ _ o rfl) dX12_isOnProcess_13 ?_
    refine zW_aload_n 0 dX12_isOnProcess_16 rfl ?_
    refine zW_iload_n 2 dX12_isOnProcess_17 rfl ?_
    refine zC_Vri (As := [vi s]) (fun x hx => kX12_own hw (v1 := s) o hx) mv_RX12_188 (hw.1 _ o) rfl rfl rfl rfl rfl dX12_isOnProcess_18 hf (fun r1 hf => ?_)
    refine zW_iconst dX12_isOnProcess_21 ?_
    refine zW_iadd dX12_isOnProcess_22 ?_
    obtain ⟨c2, hf⟩ := zgd hf
    refine zF_iald (hw.1 _ (zokM (r' := 51) o rfl rfl)) rfl c2 rfl dX12_isOnProcess_23 ?_
    refine zW_iload_n 1 dX12_isOnProcess_24 rfl ?_
    refine zF_icmp_ne 30 dX12_isOnProcess_25 rfl rfl rfl hf (fun c hf => ?_) (fun c hf => ?_)
    · refine zW_iconst dX12_isOnProcess_28 ?_
      exact zQ_z hw rfl (Or.inr rfl) dX12_isOnProcess_29 (hr _ (Option.some.inj hf).symm)
    · refine zW_iinc 2 (lv' := [(2, vi (s + 1)), (0, .ref (zad X (50, 0, 0))), (1, vi v1)]) dX12_isOnProcess_30 rfl rfl rfl ?_
      refine zW_goto 2 dX12_isOnProcess_33 rfl ?_
      refine zW_sub [1, 2, 0] rfl ?_
      exact hk _ (Option.some.inj hf).symm
theorem tX12_isOnProcess_l2 {X : zX} {e : Nat → Prop} (hw : zWf X e) {T : zT} {v1 : Int} {I : zMem} (o : zOk e (50, 0, 0)) {s0 : Int} {α : Type} {F : Int → Option α} {Gr : Int → α} {u : α} (hf : zbr (zlp (fX12_isOnProcess_l2 v1 I) 5000 s0) F Gr = some u) (kx : ∀ x, F x = some u → zW X T mX12_isOnProcess 36 [] [] I) (kr : ∀ z, Gr z = u → T = (some (vi z), I)) : zW X T mX12_isOnProcess 2 [(0, .ref (zad X (50, 0, 0))), (1, vi v1), (2, vi s0)] [] I := by
  have hb := zlp_W (body := fX12_isOnProcess_l2 v1 I) (P := fun s => zW X T mX12_isOnProcess 2 [(0, .ref (zad X (50, 0, 0))), (1, vi v1), (2, vi s)] [] I) (E := fun x => (∀ a, x = .inl a → zW X T mX12_isOnProcess 36 [] [] I) ∧ ∀ z, x = .inr z → T = (some (vi z), I)) (fun s u h hk hx => tX12_isOnProcess_l2_y hw o s h hk (fun x hu => (hx _ hu).1 x rfl) (fun z hu => (hx _ hu).2 z rfl))
  rcases zbr_inv hf with ⟨x, h, hf⟩ | ⟨z, h, hz⟩
  · exact hb _ s0 _ h ⟨fun a ea => (by cases ea; exact kx _ hf), fun z ez => (by cases ez)⟩
  · exact hb _ s0 _ h ⟨fun a ea => (by cases ea), fun z ez => (by cases ez; exact kr _ hz)⟩
set_option maxRecDepth 100000 in
theorem tX12_isOnProcess_0 {X : zX} {e : Nat → Prop} (hw : zWf X e) {v1 : Int} (o : zOk e (50, 0, 0)) {I : zMem} {u : Int} (hf : fX12_isOnProcess v1 I = some u) : zW X (some (vi u), I) mX12_isOnProcess 0 [(0, .ref (zad X (50, 0, 0))), (1, vi v1)] [] I := by
  unfold fX12_isOnProcess at hf
  refine zW_iconst dX12_isOnProcess_0 ?_
  refine zW_istore_n (lv' := [(2, vi 0), (0, .ref (zad X (50, 0, 0))), (1, vi v1)]) dX12_isOnProcess_1 rfl rfl ?_
  refine zW_sub [1, 2, 0] rfl ?_
  refine tX12_isOnProcess_l2 hw o (s0 := 0) hf (fun x3 hf => ?_) (fun z hz => by cases hz; rfl)
  refine zW_iconst dX12_isOnProcess_36 ?_
  exact zS_z hw rfl (Or.inl rfl) dX12_isOnProcess_37 hf
theorem kX12_isOnProcess {X : zX} {e : Nat → Prop} (hw : zWf X e) {v1 : Int} (o : zOk e (50, 0, 0)) {I : zMem} {u : Int} (hf : fX12_isOnProcess v1 I = some u) : zCn X mX12_isOnProcess yX12_isOnProcess [.ref (zad X (50, 0, 0)), vi v1] I (some (vi u), I) := zCn_of (by decide +kernel) rfl rfl ⟨rfl, rfl⟩ (tX12_isOnProcess_0 hw.N o hf)
set_option maxRecDepth 100000 in
theorem tX12_resets_l49_y {X : zX} {e : Nat → Prop} (hw : zWf X e) {T : zT}  (o : zOk e (50, 0, 0)) (s : (Int × zMem)) {u : ((Int × zMem) ⊕ (Int × zMem))} (hf : fX12_resets_l49  s = some u) (hk : ∀ s', u = .inl s' → zW X T mX12_resets 49 [(0, .ref (zad X (50, 0, 0))), (1, vi s'.1)] [] s'.2) (hx : ∀ x, u = .inr x → zW X T mX12_resets 71 [(0, .ref (zad X (50, 0, 0)))] [] x.2) : zW X T mX12_resets 49 [(0, .ref (zad X (50, 0, 0))), (1, vi s.1)] [] s.2 := by
  unfold fX12_resets_l49 at hf
  refine zW_iload_n 1 dX12_resets_49 rfl ?_
  refine zW_bipush dX12_resets_50 rfl ?_
  refine zF_icmp_ge 71 dX12_resets_52 rfl rfl (w32_lit _ rfl) hf (fun c hf => ?_) (fun c hf => ?_)
  · refine zW_sub [0] rfl ?_
    exact hx _ (Option.some.inj hf).symm
  · refine zW_aload_n 0 dX12_resets_55 rfl ?_
    refine zW_getR (q' := (51, 0, 0)) lk_RX12_13 (hw.1 _ o) rfl rfl (hw.2.1 _ _ _ o rfl) dX12_resets_56 ?_
    refine zW_bipush dX12_resets_59 rfl ?_
    refine zW_iload_n 1 dX12_resets_61 rfl ?_
    refine zW_iadd dX12_resets_62 ?_
    refine zW_iconst dX12_resets_63 ?_
    obtain ⟨c5, hf⟩ := zgd hf
    refine zF_iast (hw.1 _ (zokM (r' := 51) o rfl rfl)) rfl c5 rfl dX12_resets_64 hf (fun I6 hf => ?_)
    refine zW_iinc 1 (lv' := [(1, vi (s.1 + 1)), (0, .ref (zad X (50, 0, 0)))]) dX12_resets_65 rfl rfl rfl ?_
    refine zW_goto 49 dX12_resets_68 rfl ?_
    refine zW_sub [1, 0] rfl ?_
    exact hk _ (Option.some.inj hf).symm
theorem tX12_resets_l49 {X : zX} {e : Nat → Prop} (hw : zWf X e) {T : zT}  (o : zOk e (50, 0, 0)) {s0 : (Int × zMem)} {α : Type} {F : (Int × zMem) → Option α} {u : α} (hf : zb (zlp (fX12_resets_l49 ) 5000 s0) F = some u) (kx : ∀ x, F x = some u → zW X T mX12_resets 71 [(0, .ref (zad X (50, 0, 0)))] [] x.2) : zW X T mX12_resets 49 [(0, .ref (zad X (50, 0, 0))), (1, vi s0.1)] [] s0.2 := by
  obtain ⟨x, h, hf⟩ := zb_inv hf
  exact zlp_W (P := fun s => zW X T mX12_resets 49 [(0, .ref (zad X (50, 0, 0))), (1, vi s.1)] [] s.2) (E := fun x => zW X T mX12_resets 71 [(0, .ref (zad X (50, 0, 0)))] [] x.2) (fun s u h hk hx => tX12_resets_l49_y hw o s h hk hx) _ s0 x h (kx x hf)
set_option maxRecDepth 100000 in
theorem tX12_resets_l73_y {X : zX} {e : Nat → Prop} (hw : zWf X e) {T : zT}  (o : zOk e (50, 0, 0)) (s : (Int × zMem)) {u : ((Int × zMem) ⊕ (Int × zMem))} (hf : fX12_resets_l73  s = some u) (hk : ∀ s', u = .inl s' → zW X T mX12_resets 73 [(0, .ref (zad X (50, 0, 0))), (1, vi s'.1)] [] s'.2) (hx : ∀ x, u = .inr x → zW X T mX12_resets 94 [] [] x.2) : zW X T mX12_resets 73 [(0, .ref (zad X (50, 0, 0))), (1, vi s.1)] [] s.2 := by
  unfold fX12_resets_l73 at hf
  refine zW_iload_n 1 dX12_resets_73 rfl ?_
  refine zW_aload_n 0 dX12_resets_74 rfl ?_
  refine zW_getR (q' := (51, 0, 0)) lk_RX12_13 (hw.1 _ o) rfl rfl (hw.2.1 _ _ _ o rfl) dX12_resets_75 ?_
  refine zW_iconst dX12_resets_78 ?_
  refine zF_iald (hw.1 _ (zokM (r' := 51) o rfl rfl)) rfl (zin_lit _ _ rfl) (ix_lit _ rfl) dX12_resets_79 ?_
  refine zF_icmp_ge 94 dX12_resets_80 rfl rfl rfl hf (fun c hf => ?_) (fun c hf => ?_)
  · refine zW_sub [] rfl ?_
    exact hx _ (Option.some.inj hf).symm
  · refine zW_aload_n 0 dX12_resets_83 rfl ?_
    refine zW_iload_n 1 dX12_resets_84 rfl ?_
    refine zC_Vwv (As := [vi s.1]) (fun x hx => kX12_isIdle hw (v1 := s.1) o hx) mv_RX12_213 (hw.1 _ o) rfl rfl rfl rfl rfl dX12_resets_85 hf (fun r8 hf => ?_)
    refine zW_iinc 1 (lv' := [(1, vi (s.1 + 1)), (0, .ref (zad X (50, 0, 0)))]) dX12_resets_88 rfl rfl rfl ?_
    refine zW_goto 73 dX12_resets_91 rfl ?_
    refine zW_sub [1, 0] rfl ?_
    exact hk _ (Option.some.inj hf).symm
theorem tX12_resets_l73 {X : zX} {e : Nat → Prop} (hw : zWf X e) {T : zT}  (o : zOk e (50, 0, 0)) {s0 : (Int × zMem)} {α : Type} {F : (Int × zMem) → Option α} {u : α} (hf : zb (zlp (fX12_resets_l73 ) 5000 s0) F = some u) (kx : ∀ x, F x = some u → zW X T mX12_resets 94 [] [] x.2) : zW X T mX12_resets 73 [(0, .ref (zad X (50, 0, 0))), (1, vi s0.1)] [] s0.2 := by
  obtain ⟨x, h, hf⟩ := zb_inv hf
  exact zlp_W (P := fun s => zW X T mX12_resets 73 [(0, .ref (zad X (50, 0, 0))), (1, vi s.1)] [] s.2) (E := fun x => zW X T mX12_resets 94 [] [] x.2) (fun s u h hk hx => tX12_resets_l73_y hw o s h hk hx) _ s0 x h (kx x hf)
set_option maxRecDepth 100000 in
theorem tX12_resets_0 {X : zX} {e : Nat → Prop} (hw : zWf X e)  (o : zOk e (50, 0, 0)) {I : zMem} {u : zMem} (hf : fX12_resets  I = some u) : zW X (none, u) mX12_resets 0 [(0, .ref (zad X (50, 0, 0)))] [] I := by
  unfold fX12_resets at hf
  refine zW_aload_n 0 dX12_resets_0 rfl ?_
  refine zW_getR (q' := (51, 0, 0)) lk_RX12_13 (hw.1 _ o) rfl rfl (hw.2.1 _ _ _ o rfl) dX12_resets_1 ?_
  refine zW_bipush dX12_resets_4 rfl ?_
  refine zW_aload_n 0 dX12_resets_6 rfl ?_
  refine zW_getR (q' := (51, 0, 0)) lk_RX12_13 (hw.1 _ o) rfl rfl (hw.2.1 _ _ _ o rfl) dX12_resets_7 ?_
  refine zW_bipush dX12_resets_10 rfl ?_
  refine zF_iald (hw.1 _ (zokM (r' := 51) o rfl rfl)) rfl (zin_lit _ _ rfl) (ix_lit _ rfl) dX12_resets_12 ?_
  refine zF_iast (hw.1 _ (zokM (r' := 51) o rfl rfl)) rfl (zin_lit _ _ rfl) (ix_lit _ rfl) dX12_resets_13 hf (fun I1 hf => ?_)
  refine zW_aload_n 0 dX12_resets_14 rfl ?_
  refine zW_getR (q' := (51, 0, 0)) lk_RX12_13 (hw.1 _ o) rfl rfl (hw.2.1 _ _ _ o rfl) dX12_resets_15 ?_
  refine zW_bipush dX12_resets_18 rfl ?_
  refine zW_aload_n 0 dX12_resets_20 rfl ?_
  refine zW_getR (q' := (51, 0, 0)) lk_RX12_13 (hw.1 _ o) rfl rfl (hw.2.1 _ _ _ o rfl) dX12_resets_21 ?_
  refine zW_bipush dX12_resets_24 rfl ?_
  refine zF_iald (hw.1 _ (zokM (r' := 51) o rfl rfl)) rfl (zin_lit _ _ rfl) (ix_lit _ rfl) dX12_resets_26 ?_
  refine zF_iast (hw.1 _ (zokM (r' := 51) o rfl rfl)) rfl (zin_lit _ _ rfl) (ix_lit _ rfl) dX12_resets_27 hf (fun I2 hf => ?_)
  refine zW_aload_n 0 dX12_resets_28 rfl ?_
  refine zW_getR (q' := (51, 0, 0)) lk_RX12_13 (hw.1 _ o) rfl rfl (hw.2.1 _ _ _ o rfl) dX12_resets_29 ?_
  refine zW_bipush dX12_resets_32 rfl ?_
  refine zW_iconst dX12_resets_34 ?_
  refine zF_iast (hw.1 _ (zokM (r' := 51) o rfl rfl)) rfl (zin_lit _ _ rfl) (ix_lit _ rfl) dX12_resets_35 hf (fun I3 hf => ?_)
  refine zW_aload_n 0 dX12_resets_36 rfl ?_
  refine zW_getR (q' := (51, 0, 0)) lk_RX12_13 (hw.1 _ o) rfl rfl (hw.2.1 _ _ _ o rfl) dX12_resets_37 ?_
  refine zW_bipush dX12_resets_40 rfl ?_
  refine zW_dup2 dX12_resets_42 rfl rfl ?_
  refine zF_iald (hw.1 _ (zokM (r' := 51) o rfl rfl)) rfl (zin_lit _ _ rfl) (ix_lit _ rfl) dX12_resets_43 ?_
  refine zW_iconst dX12_resets_44 ?_
  refine zW_iadd dX12_resets_45 ?_
  refine zF_iast (hw.1 _ (zokM (r' := 51) o rfl rfl)) rfl (zin_lit _ _ rfl) (ix_lit _ rfl) dX12_resets_46 hf (fun I4 hf => ?_)
  refine zW_iconst dX12_resets_47 ?_
  refine zW_istore_n (lv' := [(1, vi 0), (0, .ref (zad X (50, 0, 0)))]) dX12_resets_48 rfl rfl ?_
  refine zW_sub [1, 0] rfl ?_
  refine tX12_resets_l49 hw o (s0 := (0, I4)) hf (fun x7 hf => ?_)
  refine zW_iconst dX12_resets_71 ?_
  refine zW_istore_n (lv' := [(1, vi 0), (0, .ref (zad X (50, 0, 0)))]) dX12_resets_72 rfl rfl ?_
  refine zW_sub [1, 0] rfl ?_
  refine tX12_resets_l73 hw o (s0 := (0, x7.2)) hf (fun x9 hf => ?_)
  exact zR_v hw rfl dX12_resets_94 hf
theorem kX12_resets {X : zX} {e : Nat → Prop} (hw : zWf X e)  (o : zOk e (50, 0, 0)) {I : zMem} {u : zMem} (hf : fX12_resets  I = some u) : zCn X mX12_resets yX12_resets [.ref (zad X (50, 0, 0))] I (none, u) := zCn_of (by decide +kernel) rfl rfl ⟨rfl, rfl⟩ (tX12_resets_0 hw.N o hf)
set_option maxRecDepth 100000 in
theorem tX12_reports_l42_y {X : zX} {e : Nat → Prop} (hw : zWf X e) {T : zT}  (o : zOk e (50, 0, 0)) (s : zMem) {u : (zMem ⊕ zMem)} (hf : fX12_reports_l42  s = some u) (hk : ∀ s', u = .inl s' → zW X T mX12_reports 42 [(0, .ref (zad X (50, 0, 0)))] [] s') (hx : ∀ x, u = .inr x → zW X T mX12_reports 97 [(0, .ref (zad X (50, 0, 0)))] [] x) : zW X T mX12_reports 42 [(0, .ref (zad X (50, 0, 0)))] [] s := by
  unfold fX12_reports_l42 at hf
  refine zW_aload_n 0 dX12_reports_42 rfl ?_
  refine zW_getR (q' := (51, 0, 0)) lk_RX12_13 (hw.1 _ o) rfl rfl (hw.2.1 _ _ _ o rfl) dX12_reports_43 ?_
  refine zW_bipush dX12_reports_46 rfl ?_
  refine zF_iald (hw.1 _ (zokM (r' := 51) o rfl rfl)) rfl (zin_lit _ _ rfl) (ix_lit _ rfl) dX12_reports_48 ?_
  refine zW_aload_n 0 dX12_reports_49 rfl ?_
  refine zW_getR (q' := (51, 0, 0)) lk_RX12_13 (hw.1 _ o) rfl rfl (hw.2.1 _ _ _ o rfl) dX12_reports_50 ?_
  refine zW_bipush dX12_reports_53 rfl ?_
  refine zF_iald (hw.1 _ (zokM (r' := 51) o rfl rfl)) rfl (zin_lit _ _ rfl) (ix_lit _ rfl) dX12_reports_55 ?_
  refine zF_icmp_eq 97 dX12_reports_56 rfl rfl rfl hf (fun c hf => ?_) (fun c hf => ?_)
  · refine zW_sub [0] rfl ?_
    exact hx _ (Option.some.inj hf).symm
  · refine zW_aload_n 0 dX12_reports_59 rfl ?_
    refine zW_getR (q' := (51, 0, 0)) lk_RX12_13 (hw.1 _ o) rfl rfl (hw.2.1 _ _ _ o rfl) dX12_reports_60 ?_
    refine zW_bipush dX12_reports_63 rfl ?_
    refine zW_aload_n 0 dX12_reports_65 rfl ?_
    refine zW_getR (q' := (51, 0, 0)) lk_RX12_13 (hw.1 _ o) rfl rfl (hw.2.1 _ _ _ o rfl) dX12_reports_66 ?_
    refine zW_bipush dX12_reports_69 rfl ?_
    refine zF_iald (hw.1 _ (zokM (r' := 51) o rfl rfl)) rfl (zin_lit _ _ rfl) (ix_lit _ rfl) dX12_reports_71 ?_
    refine zW_iadd dX12_reports_72 ?_
    refine zW_iconst dX12_reports_73 ?_
    obtain ⟨c3, hf⟩ := zgd hf
    refine zF_iast (hw.1 _ (zokM (r' := 51) o rfl rfl)) rfl c3 rfl dX12_reports_74 hf (fun I4 hf => ?_)
    refine zW_aload_n 0 dX12_reports_75 rfl ?_
    refine zW_getR (q' := (51, 0, 0)) lk_RX12_13 (hw.1 _ o) rfl rfl (hw.2.1 _ _ _ o rfl) dX12_reports_76 ?_
    refine zW_bipush dX12_reports_79 rfl ?_
    refine zW_aload_n 0 dX12_reports_81 rfl ?_
    refine zW_getR (q' := (51, 0, 0)) lk_RX12_13 (hw.1 _ o) rfl rfl (hw.2.1 _ _ _ o rfl) dX12_reports_82 ?_
    refine zW_bipush dX12_reports_85 rfl ?_
    refine zF_iald (hw.1 _ (zokM (r' := 51) o rfl rfl)) rfl (zin_lit _ _ rfl) (ix_lit _ rfl) dX12_reports_87 ?_
    refine zW_iconst dX12_reports_88 ?_
    refine zW_iadd dX12_reports_89 ?_
    refine zW_bipush dX12_reports_90 rfl ?_
    refine zW_iand_7 dX12_reports_92 ?_
    refine zF_iast (hw.1 _ (zokM (r' := 51) o rfl rfl)) rfl (zin_lit _ _ rfl) (ix_lit _ rfl) dX12_reports_93 hf (fun I5 hf => ?_)
    refine zW_goto 42 dX12_reports_94 rfl ?_
    refine zW_sub [0] rfl ?_
    exact hk _ (Option.some.inj hf).symm
theorem tX12_reports_l42 {X : zX} {e : Nat → Prop} (hw : zWf X e) {T : zT}  (o : zOk e (50, 0, 0)) {s0 : zMem} {α : Type} {F : zMem → Option α} {u : α} (hf : zb (zlp (fX12_reports_l42 ) 5000 s0) F = some u) (kx : ∀ x, F x = some u → zW X T mX12_reports 97 [(0, .ref (zad X (50, 0, 0)))] [] x) : zW X T mX12_reports 42 [(0, .ref (zad X (50, 0, 0)))] [] s0 := by
  obtain ⟨x, h, hf⟩ := zb_inv hf
  exact zlp_W (P := fun s => zW X T mX12_reports 42 [(0, .ref (zad X (50, 0, 0)))] [] s) (E := fun x => zW X T mX12_reports 97 [(0, .ref (zad X (50, 0, 0)))] [] x) (fun s u h hk hx => tX12_reports_l42_y hw o s h hk hx) _ s0 x h (kx x hf)
set_option maxRecDepth 100000 in
theorem tX12_reports_b99_154 {X : zX} {e : Nat → Prop} (hw : zWf X e) {T : zT} {w1 : Int} {I : zMem} (o : zOk e (50, 0, 0)) {u : ((Int × zMem) ⊕ (Int × zMem))} (hf : fX12_reports_b99_154 w1 I = some u) (hk : ∀ s', u = .inl s' → zW X T mX12_reports 99 [(0, .ref (zad X (50, 0, 0))), (1, vi s'.1)] [] s'.2) (hx : ∀ x, u = .inr x → zW X T mX12_reports 160 [(0, .ref (zad X (50, 0, 0)))] [] x.2) : zW X T mX12_reports 154 [(0, .ref (zad X (50, 0, 0))), (1, vi w1)] [] I := by
  unfold fX12_reports_b99_154 at hf
  refine zW_iinc 1 (lv' := [(1, vi (w1 + 1)), (0, .ref (zad X (50, 0, 0)))]) dX12_reports_154 rfl rfl rfl ?_
  refine zW_goto 99 dX12_reports_157 rfl ?_
  refine zW_sub [1, 0] rfl ?_
  exact hk _ (Option.some.inj hf).symm
set_option maxRecDepth 100000 in
theorem tX12_reports_l99_y {X : zX} {e : Nat → Prop} (hw : zWf X e) {T : zT}  (o : zOk e (50, 0, 0)) (s : (Int × zMem)) {u : ((Int × zMem) ⊕ (Int × zMem))} (hf : fX12_reports_l99  s = some u) (hk : ∀ s', u = .inl s' → zW X T mX12_reports 99 [(0, .ref (zad X (50, 0, 0))), (1, vi s'.1)] [] s'.2) (hx : ∀ x, u = .inr x → zW X T mX12_reports 160 [(0, .ref (zad X (50, 0, 0)))] [] x.2) : zW X T mX12_reports 99 [(0, .ref (zad X (50, 0, 0))), (1, vi s.1)] [] s.2 := by
  unfold fX12_reports_l99 at hf
  refine zW_iload_n 1 dX12_reports_99 rfl ?_
  refine zW_aload_n 0 dX12_reports_100 rfl ?_
  refine zW_getR (q' := (51, 0, 0)) lk_RX12_13 (hw.1 _ o) rfl rfl (hw.2.1 _ _ _ o rfl) dX12_reports_101 ?_
  refine zW_iconst dX12_reports_104 ?_
  refine zF_iald (hw.1 _ (zokM (r' := 51) o rfl rfl)) rfl (zin_lit _ _ rfl) (ix_lit _ rfl) dX12_reports_105 ?_
  refine zF_icmp_ge 160 dX12_reports_106 rfl rfl rfl hf (fun c hf => ?_) (fun c hf => ?_)
  · refine zW_sub [0] rfl ?_
    exact hx _ (Option.some.inj hf).symm
  · refine zW_aload_n 0 dX12_reports_109 rfl ?_
    refine zW_getR (q' := (51, 0, 0)) lk_RX12_13 (hw.1 _ o) rfl rfl (hw.2.1 _ _ _ o rfl) dX12_reports_110 ?_
    refine zW_aload_n 0 dX12_reports_113 rfl ?_
    refine zW_iload_n 1 dX12_reports_114 rfl ?_
    refine zC_Vri (As := [vi s.1]) (fun x hx => kX12_own hw (v1 := s.1) o hx) mv_RX12_188 (hw.1 _ o) rfl rfl rfl rfl rfl dX12_reports_115 hf (fun r7 hf => ?_)
    refine zW_iconst dX12_reports_118 ?_
    refine zW_iadd dX12_reports_119 ?_
    obtain ⟨c8, hf⟩ := zgd hf
    refine zF_iald (hw.1 _ (zokM (r' := 51) o rfl rfl)) rfl c8 rfl dX12_reports_120 ?_
    refine zW_iconst dX12_reports_121 ?_
    refine zF_icmp_eq 154 dX12_reports_122 rfl rfl (w32_lit _ rfl) hf (fun c hf => ?_) (fun c hf => ?_)
    · refine zW_sub [0, 1] rfl ?_
      exact tX12_reports_b99_154 hw o hf hk hx
    · refine zW_aload_n 0 dX12_reports_125 rfl ?_
      refine zW_getR (q' := (51, 0, 0)) lk_RX12_13 (hw.1 _ o) rfl rfl (hw.2.1 _ _ _ o rfl) dX12_reports_126 ?_
      refine zW_bipush dX12_reports_129 rfl ?_
      refine zW_aload_n 0 dX12_reports_131 rfl ?_
      refine zW_getR (q' := (51, 0, 0)) lk_RX12_13 (hw.1 _ o) rfl rfl (hw.2.1 _ _ _ o rfl) dX12_reports_132 ?_
      refine zW_aload_n 0 dX12_reports_135 rfl ?_
      refine zW_iload_n 1 dX12_reports_136 rfl ?_
      refine zC_Vri (As := [vi s.1]) (fun x hx => kX12_own hw (v1 := s.1) o hx) mv_RX12_188 (hw.1 _ o) rfl rfl rfl rfl rfl dX12_reports_137 hf (fun r9 hf => ?_)
      refine zW_iconst dX12_reports_140 ?_
      refine zW_iadd dX12_reports_141 ?_
      obtain ⟨c10, hf⟩ := zgd hf
      refine zF_iald (hw.1 _ (zokM (r' := 51) o rfl rfl)) rfl c10 rfl dX12_reports_142 ?_
      refine zW_iadd dX12_reports_143 ?_
      obtain ⟨c11, hf⟩ := zgd hf
      refine zF_iald (hw.1 _ (zokM (r' := 51) o rfl rfl)) rfl c11 rfl dX12_reports_144 ?_
      refine zW_iconst dX12_reports_145 ?_
      refine zF_icmp_ne 154 dX12_reports_146 rfl rfl (w32_lit _ rfl) hf (fun c hf => ?_) (fun c hf => ?_)
      · refine zW_aload_n 0 dX12_reports_149 rfl ?_
        refine zW_iload_n 1 dX12_reports_150 rfl ?_
        refine zC_Vwv (As := [vi s.1]) (fun x hx => kX12_isIdle hw (v1 := s.1) o hx) mv_RX12_213 (hw.1 _ o) rfl rfl rfl rfl rfl dX12_reports_151 hf (fun r12 hf => ?_)
        refine zW_sub [0, 1] rfl ?_
        exact tX12_reports_b99_154 hw o hf hk hx
      · refine zW_sub [0, 1] rfl ?_
        exact tX12_reports_b99_154 hw o hf hk hx
theorem tX12_reports_l99 {X : zX} {e : Nat → Prop} (hw : zWf X e) {T : zT}  (o : zOk e (50, 0, 0)) {s0 : (Int × zMem)} {α : Type} {F : (Int × zMem) → Option α} {u : α} (hf : zb (zlp (fX12_reports_l99 ) 5000 s0) F = some u) (kx : ∀ x, F x = some u → zW X T mX12_reports 160 [(0, .ref (zad X (50, 0, 0)))] [] x.2) : zW X T mX12_reports 99 [(0, .ref (zad X (50, 0, 0))), (1, vi s0.1)] [] s0.2 := by
  obtain ⟨x, h, hf⟩ := zb_inv hf
  exact zlp_W (P := fun s => zW X T mX12_reports 99 [(0, .ref (zad X (50, 0, 0))), (1, vi s.1)] [] s.2) (E := fun x => zW X T mX12_reports 160 [(0, .ref (zad X (50, 0, 0)))] [] x.2) (fun s u h hk hx => tX12_reports_l99_y hw o s h hk hx) _ s0 x h (kx x hf)
set_option maxRecDepth 100000 in
theorem tX12_reports_b176_265 {X : zX} {e : Nat → Prop} (hw : zWf X e) {T : zT} {w1 : Int} {I : zMem} (o : zOk e (50, 0, 0)) {u : ((Int × zMem) ⊕ (Int × zMem))} (hf : fX12_reports_b176_265 w1 I = some u) (hk : ∀ s', u = .inl s' → zW X T mX12_reports 176 [(0, .ref (zad X (50, 0, 0))), (1, vi s'.1)] [] s'.2) (hx : ∀ x, u = .inr x → zW X T mX12_reports 275 [] [] x.2) : zW X T mX12_reports 265 [(0, .ref (zad X (50, 0, 0))), (1, vi w1)] [] I := by
  unfold fX12_reports_b176_265 at hf
  refine zW_iload_n 1 dX12_reports_265 rfl ?_
  refine zW_iconst dX12_reports_266 ?_
  refine zW_iadd dX12_reports_267 ?_
  refine zW_bipush dX12_reports_268 rfl ?_
  refine zW_iand_7 dX12_reports_270 ?_
  refine zF_istore_n (lv' := fun a20 => [(1, vi a20), (0, .ref (zad X (50, 0, 0)))]) dX12_reports_271 hf (fun _ => rfl) rfl (fun a20 hf => ?_)
  refine zW_goto 176 dX12_reports_272 rfl ?_
  refine zW_sub [1, 0] rfl ?_
  exact hk _ (Option.some.inj hf).symm
set_option maxRecDepth 100000 in
theorem tX12_reports_b176_213 {X : zX} {e : Nat → Prop} (hw : zWf X e) {T : zT} {w1 : Int} {k0 : Int} {k1 : Int} {I : zMem} (o : zOk e (50, 0, 0)) (ko2 : zOk e (51, 0, 0)) {u : ((Int × zMem) ⊕ (Int × zMem))} (hf : fX12_reports_b176_213 w1 k0 k1 I = some u) (hk : ∀ s', u = .inl s' → zW X T mX12_reports 176 [(0, .ref (zad X (50, 0, 0))), (1, vi s'.1)] [] s'.2) (hx : ∀ x, u = .inr x → zW X T mX12_reports 275 [] [] x.2) : zW X T mX12_reports 213 [(0, .ref (zad X (50, 0, 0))), (1, vi w1)] [vi k0, vi k1, .ref (zad X (51, 0, 0))] I := by
  unfold fX12_reports_b176_213 at hf
  obtain ⟨c17, hf⟩ := zgd hf
  refine zF_iast (hw.1 _ ko2) rfl c17 rfl dX12_reports_213 hf (fun I18 hf => ?_)
  refine zW_aload_n 0 dX12_reports_214 rfl ?_
  refine zW_getR (q' := (51, 0, 0)) lk_RX12_13 (hw.1 _ o) rfl rfl (hw.2.1 _ _ _ o rfl) dX12_reports_215 ?_
  refine zW_bipush dX12_reports_218 rfl ?_
  refine zW_iload_n 1 dX12_reports_220 rfl ?_
  refine zW_iadd dX12_reports_221 ?_
  obtain ⟨c19, hf⟩ := zgd hf
  refine zF_iald (hw.1 _ (zokM (r' := 51) o rfl rfl)) rfl c19 rfl dX12_reports_222 ?_
  refine zW_iconst dX12_reports_223 ?_
  refine zF_icmp_eq 265 dX12_reports_224 rfl rfl (w32_lit _ rfl) hf (fun c hf => ?_) (fun c hf => ?_)
  · refine zW_sub [0, 1] rfl ?_
    exact tX12_reports_b176_265 hw o hf hk hx
  · refine zW_aload_n 0 dX12_reports_227 rfl ?_
    refine zW_iload_n 1 dX12_reports_228 rfl ?_
    refine zC_Vri (As := [vi w1]) (fun x hx => kX12_isOnProcess hw (v1 := w1) o hx) mv_RX12_219 (hw.1 _ o) rfl rfl rfl rfl rfl dX12_reports_229 hf (fun r21 hf => ?_)
    refine zF_if_eq 238 dX12_reports_232 rfl rfl hf (fun c hf => ?_) (fun c hf => ?_)
    · refine zW_aload_n 0 dX12_reports_238 rfl ?_
      refine zW_getR (q' := (51, 0, 0)) lk_RX12_13 (hw.1 _ o) rfl rfl (hw.2.1 _ _ _ o rfl) dX12_reports_239 ?_
      refine zW_bipush dX12_reports_242 rfl ?_
      refine zW_aload_n 0 dX12_reports_244 rfl ?_
      refine zW_getR (q' := (51, 0, 0)) lk_RX12_13 (hw.1 _ o) rfl rfl (hw.2.1 _ _ _ o rfl) dX12_reports_245 ?_
      refine zW_bipush dX12_reports_248 rfl ?_
      refine zF_iald (hw.1 _ (zokM (r' := 51) o rfl rfl)) rfl (zin_lit _ _ rfl) (ix_lit _ rfl) dX12_reports_250 ?_
      refine zW_iadd dX12_reports_251 ?_
      refine zW_iload_n 1 dX12_reports_252 rfl ?_
      obtain ⟨c22, hf⟩ := zgd hf
      refine zF_iast (hw.1 _ (zokM (r' := 51) o rfl rfl)) rfl c22 rfl dX12_reports_253 hf (fun I23 hf => ?_)
      refine zW_aload_n 0 dX12_reports_254 rfl ?_
      refine zW_getR (q' := (51, 0, 0)) lk_RX12_13 (hw.1 _ o) rfl rfl (hw.2.1 _ _ _ o rfl) dX12_reports_255 ?_
      refine zW_bipush dX12_reports_258 rfl ?_
      refine zW_dup2 dX12_reports_260 rfl rfl ?_
      refine zF_iald (hw.1 _ (zokM (r' := 51) o rfl rfl)) rfl (zin_lit _ _ rfl) (ix_lit _ rfl) dX12_reports_261 ?_
      refine zW_iconst dX12_reports_262 ?_
      refine zW_iadd dX12_reports_263 ?_
      refine zF_iast (hw.1 _ (zokM (r' := 51) o rfl rfl)) rfl (zin_lit _ _ rfl) (ix_lit _ rfl) dX12_reports_264 hf (fun I24 hf => ?_)
      refine zW_sub [0, 1] rfl ?_
      exact tX12_reports_b176_265 hw o hf hk hx
    · refine zW_goto 265 dX12_reports_235 rfl ?_
      refine zW_sub [0, 1] rfl ?_
      exact tX12_reports_b176_265 hw o hf hk hx
set_option maxRecDepth 100000 in
theorem tX12_reports_l176_y {X : zX} {e : Nat → Prop} (hw : zWf X e) {T : zT}  (o : zOk e (50, 0, 0)) (s : (Int × zMem)) {u : ((Int × zMem) ⊕ (Int × zMem))} (hf : fX12_reports_l176  s = some u) (hk : ∀ s', u = .inl s' → zW X T mX12_reports 176 [(0, .ref (zad X (50, 0, 0))), (1, vi s'.1)] [] s'.2) (hx : ∀ x, u = .inr x → zW X T mX12_reports 275 [] [] x.2) : zW X T mX12_reports 176 [(0, .ref (zad X (50, 0, 0))), (1, vi s.1)] [] s.2 := by
  unfold fX12_reports_l176 at hf
  refine zW_iload_n 1 dX12_reports_176 rfl ?_
  refine zW_aload_n 0 dX12_reports_177 rfl ?_
  refine zW_getR (q' := (51, 0, 0)) lk_RX12_13 (hw.1 _ o) rfl rfl (hw.2.1 _ _ _ o rfl) dX12_reports_178 ?_
  refine zW_bipush dX12_reports_181 rfl ?_
  refine zF_iald (hw.1 _ (zokM (r' := 51) o rfl rfl)) rfl (zin_lit _ _ rfl) (ix_lit _ rfl) dX12_reports_183 ?_
  refine zF_icmp_eq 275 dX12_reports_184 rfl rfl rfl hf (fun c hf => ?_) (fun c hf => ?_)
  · refine zW_sub [] rfl ?_
    exact hx _ (Option.some.inj hf).symm
  · refine zW_aload_n 0 dX12_reports_187 rfl ?_
    refine zW_getR (q' := (51, 0, 0)) lk_RX12_13 (hw.1 _ o) rfl rfl (hw.2.1 _ _ _ o rfl) dX12_reports_188 ?_
    refine zW_bipush dX12_reports_191 rfl ?_
    refine zW_iload_n 1 dX12_reports_193 rfl ?_
    refine zW_iadd dX12_reports_194 ?_
    refine zW_aload_n 0 dX12_reports_195 rfl ?_
    refine zW_getR (q' := (51, 0, 0)) lk_RX12_13 (hw.1 _ o) rfl rfl (hw.2.1 _ _ _ o rfl) dX12_reports_196 ?_
    refine zW_bipush dX12_reports_199 rfl ?_
    refine zW_iload_n 1 dX12_reports_201 rfl ?_
    refine zW_iadd dX12_reports_202 ?_
    obtain ⟨c16, hf⟩ := zgd hf
    refine zF_iald (hw.1 _ (zokM (r' := 51) o rfl rfl)) rfl c16 rfl dX12_reports_203 ?_
    refine zW_iconst dX12_reports_204 ?_
    refine zF_icmp_ne 212 dX12_reports_205 rfl rfl (w32_lit _ rfl) hf (fun c hf => ?_) (fun c hf => ?_)
    · refine zW_iconst dX12_reports_208 ?_
      refine zW_goto 213 dX12_reports_209 rfl ?_
      refine zW_sub [0, 1] rfl ?_
      exact tX12_reports_b176_213 hw o (zokM (r' := 51) o rfl rfl) hf hk hx
    · refine zW_iconst dX12_reports_212 ?_
      refine zW_sub [0, 1] rfl ?_
      exact tX12_reports_b176_213 hw o (zokM (r' := 51) o rfl rfl) hf hk hx
theorem tX12_reports_l176 {X : zX} {e : Nat → Prop} (hw : zWf X e) {T : zT}  (o : zOk e (50, 0, 0)) {s0 : (Int × zMem)} {α : Type} {F : (Int × zMem) → Option α} {u : α} (hf : zb (zlp (fX12_reports_l176 ) 5000 s0) F = some u) (kx : ∀ x, F x = some u → zW X T mX12_reports 275 [] [] x.2) : zW X T mX12_reports 176 [(0, .ref (zad X (50, 0, 0))), (1, vi s0.1)] [] s0.2 := by
  obtain ⟨x, h, hf⟩ := zb_inv hf
  exact zlp_W (P := fun s => zW X T mX12_reports 176 [(0, .ref (zad X (50, 0, 0))), (1, vi s.1)] [] s.2) (E := fun x => zW X T mX12_reports 275 [] [] x.2) (fun s u h hk hx => tX12_reports_l176_y hw o s h hk hx) _ s0 x h (kx x hf)
set_option maxRecDepth 100000 in
theorem tX12_reports_0 {X : zX} {e : Nat → Prop} (hw : zWf X e)  (o : zOk e (50, 0, 0)) {I : zMem} {u : zMem} (hf : fX12_reports  I = some u) : zW X (none, u) mX12_reports 0 [(0, .ref (zad X (50, 0, 0)))] [] I := by
  unfold fX12_reports at hf
  refine zW_aload_n 0 dX12_reports_0 rfl ?_
  refine zW_getR (q' := (51, 0, 0)) lk_RX12_13 (hw.1 _ o) rfl rfl (hw.2.1 _ _ _ o rfl) dX12_reports_1 ?_
  refine zW_bipush dX12_reports_4 rfl ?_
  refine zF_iald (hw.1 _ (zokM (r' := 51) o rfl rfl)) rfl (zin_lit _ _ rfl) (ix_lit _ rfl) dX12_reports_6 ?_
  refine zW_aload_n 0 dX12_reports_7 rfl ?_
  refine zW_getR (q' := (51, 0, 0)) lk_RX12_13 (hw.1 _ o) rfl rfl (hw.2.1 _ _ _ o rfl) dX12_reports_8 ?_
  refine zW_bipush dX12_reports_11 rfl ?_
  refine zF_iald (hw.1 _ (zokM (r' := 51) o rfl rfl)) rfl (zin_lit _ _ rfl) (ix_lit _ rfl) dX12_reports_13 ?_
  refine zC_Sri (As := [vi (I (51, 0, 0) 29), vi (I (51, 0, 0) 55)]) (fun x hx => kX12_past hw (v0 := I (51, 0, 0) 29) (v1 := I (51, 0, 0) 55)  hx) ms_RX12_182 rfl rfl rfl rfl dX12_reports_14 hf (fun r1 hf => ?_)
  refine zW_aload_n 0 dX12_reports_17 rfl ?_
  refine zW_getR (q' := (51, 0, 0)) lk_RX12_13 (hw.1 _ o) rfl rfl (hw.2.1 _ _ _ o rfl) dX12_reports_18 ?_
  refine zW_bipush dX12_reports_21 rfl ?_
  refine zF_iald (hw.1 _ (zokM (r' := 51) o rfl rfl)) rfl (zin_lit _ _ rfl) (ix_lit _ rfl) dX12_reports_23 ?_
  refine zW_aload_n 0 dX12_reports_24 rfl ?_
  refine zW_getR (q' := (51, 0, 0)) lk_RX12_13 (hw.1 _ o) rfl rfl (hw.2.1 _ _ _ o rfl) dX12_reports_25 ?_
  refine zW_bipush dX12_reports_28 rfl ?_
  refine zF_iald (hw.1 _ (zokM (r' := 51) o rfl rfl)) rfl (zin_lit _ _ rfl) (ix_lit _ rfl) dX12_reports_30 ?_
  refine zC_Sri (As := [vi (I (51, 0, 0) 29), vi (I (51, 0, 0) 28)]) (fun x hx => kX12_past hw (v0 := I (51, 0, 0) 29) (v1 := I (51, 0, 0) 28)  hx) ms_RX12_182 rfl rfl rfl rfl dX12_reports_31 hf (fun r2 hf => ?_)
  refine zF_icmp_le 42 dX12_reports_34 rfl rfl rfl hf (fun c hf => ?_) (fun c hf => ?_)
  · refine zW_sub [0] rfl ?_
    refine tX12_reports_l42 hw o (s0 := I) hf (fun x6 hf => ?_)
    refine zW_iconst dX12_reports_97 ?_
    refine zW_istore_n (lv' := [(1, vi 0), (0, .ref (zad X (50, 0, 0)))]) dX12_reports_98 rfl rfl ?_
    refine zW_sub [1, 0] rfl ?_
    refine tX12_reports_l99 hw o (s0 := (0, x6)) hf (fun x13 hf => ?_)
    refine zW_aload_n 0 dX12_reports_160 rfl ?_
    refine zW_getR (q' := (51, 0, 0)) lk_RX12_13 (hw.1 _ o) rfl rfl (hw.2.1 _ _ _ o rfl) dX12_reports_161 ?_
    refine zW_bipush dX12_reports_164 rfl ?_
    refine zW_iconst dX12_reports_166 ?_
    refine zF_iast (hw.1 _ (zokM (r' := 51) o rfl rfl)) rfl (zin_lit _ _ rfl) (ix_lit _ rfl) dX12_reports_167 hf (fun I14 hf => ?_)
    refine zW_aload_n 0 dX12_reports_168 rfl ?_
    refine zW_getR (q' := (51, 0, 0)) lk_RX12_13 (hw.1 _ o) rfl rfl (hw.2.1 _ _ _ o rfl) dX12_reports_169 ?_
    refine zW_bipush dX12_reports_172 rfl ?_
    refine zF_iald (hw.1 _ (zokM (r' := 51) o rfl rfl)) rfl (zin_lit _ _ rfl) (ix_lit _ rfl) dX12_reports_174 ?_
    refine zF_istore_n (lv' := fun a15 => [(1, vi a15), (0, .ref (zad X (50, 0, 0)))]) dX12_reports_175 hf (fun _ => rfl) rfl (fun a15 hf => ?_)
    refine zW_sub [1, 0] rfl ?_
    refine tX12_reports_l176 hw o (s0 := (a15, I14)) hf (fun x25 hf => ?_)
    exact zR_v hw rfl dX12_reports_275 hf
  · refine zW_aload_n 0 dX12_reports_37 rfl ?_
    refine zC_Vwv (As := []) (fun x hx => kX12_resets hw o hx) mv_RX12_216 (hw.1 _ o) rfl rfl rfl rfl rfl dX12_reports_38 hf (fun r26 hf => ?_)
    exact zR_v hw rfl dX12_reports_41 hf
theorem kX12_reports {X : zX} {e : Nat → Prop} (hw : zWf X e)  (o : zOk e (50, 0, 0)) {I : zMem} {u : zMem} (hf : fX12_reports  I = some u) : zCn X mX12_reports yX12_reports [.ref (zad X (50, 0, 0))] I (none, u) := zCn_of (by decide +kernel) rfl rfl ⟨rfl, rfl⟩ (tX12_reports_0 hw.N o hf)
set_option maxRecDepth 100000 in
theorem tX12_noTray_0 {X : zX} {e : Nat → Prop} (hw : zWf X e) {v1 : Int} (o : zOk e (50, 0, 0)) {I : zMem} {u : Int} (hf : fX12_noTray v1 I = some u) : zW X (some (vi u), I) mX12_noTray 0 [(0, .ref (zad X (50, 0, 0))), (1, vi v1)] [] I := by
  unfold fX12_noTray at hf
  refine zW_iload_n 1 dX12_noTray_0 rfl ?_
  refine zW_i2l dX12_noTray_1 ?_
  refine zW_lconst0 dX12_noTray_2 ?_
  refine zW_ldc2 dX12_noTray_3 wc_RX12_132 ?_
  refine zC_Sri (As := [vl (w32 v1), vl 0, vl 3]) (fun x hx => kX12_within hw (v0 := w32 v1) (v2 := 0) (v4 := 3)  hx) ms_RX12_94 rfl rfl rfl rfl dX12_noTray_6 hf (fun r1 hf => ?_)
  refine zF_if_ne 17 dX12_noTray_9 rfl rfl hf (fun c hf => ?_) (fun c hf => ?_)
  · refine zW_bipush dX12_noTray_12 rfl ?_
    refine zW_goto 33 dX12_noTray_14 rfl ?_
    exact zS_i hw rfl dX12_noTray_33 hf
  · refine zW_aload_n 0 dX12_noTray_17 rfl ?_
    refine zW_getR (q' := (66, 0, 0)) lk_RX12_61 (hw.1 _ o) rfl rfl (hw.2.1 _ _ _ o rfl) dX12_noTray_18 ?_
    refine zW_iload_n 1 dX12_noTray_21 rfl ?_
    obtain ⟨c2, hf⟩ := zgd hf
    refine zF_iald (hw.1 _ (zokM (r' := 66) o rfl rfl)) rfl c2 rfl dX12_noTray_22 ?_
    refine zW_iconst dX12_noTray_23 ?_
    refine zF_icmp_ne 32 dX12_noTray_24 rfl rfl (w32_lit _ rfl) hf (fun c hf => ?_) (fun c hf => ?_)
    · refine zW_bipush dX12_noTray_27 rfl ?_
      refine zW_goto 33 dX12_noTray_29 rfl ?_
      exact zS_i hw rfl dX12_noTray_33 hf
    · refine zW_iconst dX12_noTray_32 ?_
      exact zS_i hw rfl dX12_noTray_33 hf
theorem kX12_noTray {X : zX} {e : Nat → Prop} (hw : zWf X e) {v1 : Int} (o : zOk e (50, 0, 0)) {I : zMem} {u : Int} (hf : fX12_noTray v1 I = some u) : zCn X mX12_noTray yX12_noTray [.ref (zad X (50, 0, 0)), vi v1] I (some (vi u), I) := zCn_of (by decide +kernel) rfl rfl ⟨rfl, rfl⟩ (tX12_noTray_0 hw.N o hf)
set_option maxRecDepth 100000 in
theorem tX12_send_l95_y {X : zX} {e : Nat → Prop} (hw : zWf X e) {T : zT} {v1 : Int} {v2 : Int} {v3 : Int} {w4 : Int} (o : zOk e (50, 0, 0)) (s : (Int × zMem)) {u : ((Int × zMem) ⊕ (Int × zMem))} (hf : fX12_send_l95 v1 v2 v3 w4 s = some u) (hk : ∀ s', u = .inl s' → zW X T mX12_send 95 [(0, .ref (zad X (50, 0, 0))), (1, vi v1), (2, vi v2), (3, vi v3), (4, vi w4), (5, vi s'.1)] [] s'.2) (hx : ∀ x, u = .inr x → zW X T mX12_send 137 [(0, .ref (zad X (50, 0, 0))), (1, vi v1), (2, vi v2)] [] x.2) : zW X T mX12_send 95 [(0, .ref (zad X (50, 0, 0))), (1, vi v1), (2, vi v2), (3, vi v3), (4, vi w4), (5, vi s.1)] [] s.2 := by
  unfold fX12_send_l95 at hf
  refine zW_iload 5 dX12_send_95 rfl ?_
  refine zW_iload_n 2 dX12_send_97 rfl ?_
  refine zF_icmp_ge 137 dX12_send_98 rfl rfl rfl hf (fun c hf => ?_) (fun c hf => ?_)
  · refine zW_sub [0, 1, 2] rfl ?_
    exact hx _ (Option.some.inj hf).symm
  · refine zW_iload 4 dX12_send_101 rfl ?_
    refine zF_if_le 137 dX12_send_103 rfl rfl hf (fun c hf => ?_) (fun c hf => ?_)
    · refine zW_sub [0, 1, 2] rfl ?_
      exact hx _ (Option.some.inj hf).symm
    · refine zW_aload_n 0 dX12_send_106 rfl ?_
      refine zW_getR (q' := (63, 0, 0)) lk_RX12_52 (hw.1 _ o) rfl rfl (hw.2.1 _ _ _ o rfl) dX12_send_107 ?_
      refine zW_iload 5 dX12_send_110 rfl ?_
      refine zW_dup2 dX12_send_112 rfl rfl ?_
      obtain ⟨c7, hf⟩ := zgd hf
      refine zF_iald (hw.1 _ (zokM (r' := 63) o rfl rfl)) rfl c7 rfl dX12_send_113 ?_
      refine zW_aload_n 0 dX12_send_114 rfl ?_
      refine zW_getR (q' := (67, 0, 0)) lk_RX12_64 (hw.1 _ o) rfl rfl (hw.2.1 _ _ _ o rfl) dX12_send_115 ?_
      refine zW_bipush dX12_send_118 rfl ?_
      refine zW_iload_n 3 dX12_send_120 rfl ?_
      refine zW_imul dX12_send_121 ?_
      refine zW_iload 5 dX12_send_122 rfl ?_
      refine zW_iload 4 dX12_send_124 rfl ?_
      obtain ⟨c, hf⟩ := zgd hf
      refine zW_irem dX12_send_126 c ?_
      refine zW_iadd dX12_send_127 ?_
      obtain ⟨c8, hf⟩ := zgd hf
      refine zF_iald (hw.1 _ (zokM (r' := 67) o rfl rfl)) rfl c8 rfl dX12_send_128 ?_
      refine zW_iadd dX12_send_129 ?_
      refine zF_iast (hw.1 _ (zokM (r' := 63) o rfl rfl)) rfl c7 rfl dX12_send_130 hf (fun I9 hf => ?_)
      refine zW_iinc 5 (lv' := [(5, vi (s.1 + 1)), (0, .ref (zad X (50, 0, 0))), (1, vi v1), (2, vi v2), (3, vi v3), (4, vi w4)]) dX12_send_131 rfl rfl rfl ?_
      refine zW_goto 95 dX12_send_134 rfl ?_
      refine zW_sub [1, 2, 3, 4, 5, 0] rfl ?_
      exact hk _ (Option.some.inj hf).symm
theorem tX12_send_l95 {X : zX} {e : Nat → Prop} (hw : zWf X e) {T : zT} {v1 : Int} {v2 : Int} {v3 : Int} {w4 : Int} (o : zOk e (50, 0, 0)) {s0 : (Int × zMem)} {α : Type} {F : (Int × zMem) → Option α} {u : α} (hf : zb (zlp (fX12_send_l95 v1 v2 v3 w4) 5000 s0) F = some u) (kx : ∀ x, F x = some u → zW X T mX12_send 137 [(0, .ref (zad X (50, 0, 0))), (1, vi v1), (2, vi v2)] [] x.2) : zW X T mX12_send 95 [(0, .ref (zad X (50, 0, 0))), (1, vi v1), (2, vi v2), (3, vi v3), (4, vi w4), (5, vi s0.1)] [] s0.2 := by
  obtain ⟨x, h, hf⟩ := zb_inv hf
  exact zlp_W (P := fun s => zW X T mX12_send 95 [(0, .ref (zad X (50, 0, 0))), (1, vi v1), (2, vi v2), (3, vi v3), (4, vi w4), (5, vi s.1)] [] s.2) (E := fun x => zW X T mX12_send 137 [(0, .ref (zad X (50, 0, 0))), (1, vi v1), (2, vi v2)] [] x.2) (fun s u h hk hx => tX12_send_l95_y hw o s h hk hx) _ s0 x h (kx x hf)
set_option maxRecDepth 100000 in
theorem tX12_send_b90 {X : zX} {e : Nat → Prop} (hw : zWf X e) {v1 : Int} {v2 : Int} {v3 : Int} {k0 : Int} {I : zMem} (o : zOk e (50, 0, 0)) {u : (Int × zMem)} (hf : fX12_send_b90 v1 v2 v3 k0 I = some u) : zW X (some (vi u.1), u.2) mX12_send 90 [(0, .ref (zad X (50, 0, 0))), (1, vi v1), (2, vi v2), (3, vi v3)] [vi k0] I := by
  unfold fX12_send_b90 at hf
  refine zW_istore (lv' := [(4, vi k0), (0, .ref (zad X (50, 0, 0))), (1, vi v1), (2, vi v2), (3, vi v3)]) dX12_send_90 rfl rfl ?_
  refine zW_iconst dX12_send_92 ?_
  refine zW_istore (lv' := [(5, vi 0), (4, vi k0), (0, .ref (zad X (50, 0, 0))), (1, vi v1), (2, vi v2), (3, vi v3)]) dX12_send_93 rfl rfl ?_
  refine zW_sub [2, 3, 4, 5, 1, 0] rfl ?_
  refine tX12_send_l95 hw o (s0 := (0, I)) hf (fun x10 hf => ?_)
  refine zW_aload_n 0 dX12_send_137 rfl ?_
  refine zW_iload_n 1 dX12_send_138 rfl ?_
  refine zW_iload_n 2 dX12_send_139 rfl ?_
  refine zW_iconst dX12_send_140 ?_
  refine zC_Vwv (As := [vi v1, vi v2, vi 1]) (fun x hx => kX12_endsSend hw (v1 := v1) (v2 := v2) (v3 := 1) o hx) mv_RX12_233 (hw.1 _ o) rfl rfl rfl rfl rfl dX12_send_141 hf (fun r11 hf => ?_)
  refine zW_aload_n 0 dX12_send_144 rfl ?_
  refine zW_getR (q' := (51, 0, 0)) lk_RX12_13 (hw.1 _ o) rfl rfl (hw.2.1 _ _ _ o rfl) dX12_send_145 ?_
  refine zW_aload_n 0 dX12_send_148 rfl ?_
  refine zW_iload_n 1 dX12_send_149 rfl ?_
  refine zC_Vri (As := [vi v1]) (fun x hx => kX12_own hw (v1 := v1) o hx) mv_RX12_188 (hw.1 _ o) rfl rfl rfl rfl rfl dX12_send_150 hf (fun r12 hf => ?_)
  refine zW_iconst dX12_send_153 ?_
  refine zW_iadd dX12_send_154 ?_
  obtain ⟨c13, hf⟩ := zgd hf
  refine zF_iald (hw.1 _ (zokM (r' := 51) o rfl rfl)) rfl c13 rfl dX12_send_155 ?_
  refine zW_iconst dX12_send_156 ?_
  refine zF_icmp_ne 176 dX12_send_157 rfl rfl (w32_lit _ rfl) hf (fun c hf => ?_) (fun c hf => ?_)
  · refine zW_aload_n 0 dX12_send_160 rfl ?_
    refine zW_getR (q' := (51, 0, 0)) lk_RX12_13 (hw.1 _ o) rfl rfl (hw.2.1 _ _ _ o rfl) dX12_send_161 ?_
    refine zW_aload_n 0 dX12_send_164 rfl ?_
    refine zW_iload_n 1 dX12_send_165 rfl ?_
    refine zC_Vri (As := [vi v1]) (fun x hx => kX12_own hw (v1 := v1) o hx) mv_RX12_188 (hw.1 _ o) rfl rfl rfl rfl rfl dX12_send_166 hf (fun r14 hf => ?_)
    refine zW_bipush dX12_send_169 rfl ?_
    refine zW_iadd dX12_send_171 ?_
    obtain ⟨c15, hf⟩ := zgd hf
    refine zF_iald (hw.1 _ (zokM (r' := 51) o rfl rfl)) rfl c15 rfl dX12_send_172 ?_
    refine zW_goto 177 dX12_send_173 rfl ?_
    exact zR_i hw rfl dX12_send_177 hf
  · refine zW_iconst dX12_send_176 ?_
    exact zR_i hw rfl dX12_send_177 hf
set_option maxRecDepth 100000 in
theorem tX12_send_b58 {X : zX} {e : Nat → Prop} (hw : zWf X e) {v1 : Int} {v2 : Int} {v3 : Int} {I : zMem} (o : zOk e (50, 0, 0)) {u : (Int × zMem)} (hf : fX12_send_b58 v1 v2 v3 I = some u) : zW X (some (vi u.1), u.2) mX12_send 58 [(0, .ref (zad X (50, 0, 0))), (1, vi v1), (2, vi v2), (3, vi v3)] [] I := by
  unfold fX12_send_b58 at hf
  refine zW_aload_n 0 dX12_send_58 rfl ?_
  refine zW_iload_n 1 dX12_send_59 rfl ?_
  refine zC_Vri (As := [vi v1]) (fun x hx => kX12_canSend hw (v1 := v1) o hx) mv_RX12_227 (hw.1 _ o) rfl rfl rfl rfl rfl dX12_send_60 hf (fun r5 hf => ?_)
  refine zF_if_ne 69 dX12_send_63 rfl rfl hf (fun c hf => ?_) (fun c hf => ?_)
  · refine zW_bipush dX12_send_66 rfl ?_
    exact zR_i hw rfl dX12_send_68 hf
  · refine zW_aload_n 0 dX12_send_69 rfl ?_
    refine zW_iload_n 1 dX12_send_70 rfl ?_
    refine zW_iload_n 2 dX12_send_71 rfl ?_
    refine zC_Vwv (As := [vi v1, vi v2]) (fun x hx => kX12_beginsSend hw (v1 := v1) (v2 := v2) o hx) mv_RX12_230 (hw.1 _ o) rfl rfl rfl rfl rfl dX12_send_72 hf (fun r6 hf => ?_)
    refine zW_iload_n 3 dX12_send_75 rfl ?_
    refine zW_iconst dX12_send_76 ?_
    refine zF_icmp_ne 84 dX12_send_77 rfl rfl (w32_lit _ rfl) hf (fun c hf => ?_) (fun c hf => ?_)
    · refine zW_iconst dX12_send_80 ?_
      refine zW_goto 90 dX12_send_81 rfl ?_
      refine zW_sub [0, 1, 2, 3] rfl ?_
      exact tX12_send_b90 hw o hf
    · refine zW_aload_n 0 dX12_send_84 rfl ?_
      refine zW_getR (q' := (66, 0, 0)) lk_RX12_61 (hw.1 _ o) rfl rfl (hw.2.1 _ _ _ o rfl) dX12_send_85 ?_
      refine zW_iload_n 3 dX12_send_88 rfl ?_
      obtain ⟨c16, hf⟩ := zgd hf
      refine zF_iald (hw.1 _ (zokM (r' := 66) o rfl rfl)) rfl c16 rfl dX12_send_89 ?_
      refine zW_sub [0, 1, 2, 3] rfl ?_
      exact tX12_send_b90 hw o hf
set_option maxRecDepth 100000 in
theorem tX12_send_0 {X : zX} {e : Nat → Prop} (hw : zWf X e) {v1 : Int} {v2 : Int} {v3 : Int} (o : zOk e (50, 0, 0)) {I : zMem} {u : (Int × zMem)} (hf : fX12_send v1 v2 v3 I = some u) : zW X (some (vi u.1), u.2) mX12_send 0 [(0, .ref (zad X (50, 0, 0))), (1, vi v1), (2, vi v2), (3, vi v3)] [] I := by
  unfold fX12_send at hf
  refine zW_aload_n 0 dX12_send_0 rfl ?_
  refine zW_iconst dX12_send_1 ?_
  refine zF_put lk_RX12_1 (hw.1 _ o) rfl rfl (zn_int _) dX12_send_2 hf (fun I1 hf => ?_)
  refine zW_aload_n 0 dX12_send_5 rfl ?_
  refine zW_iload_n 1 dX12_send_6 rfl ?_
  refine zC_Vri (As := [vi v1]) (fun x hx => kX12_isProcess hw (v1 := v1) o hx) mv_RX12_222 (hw.1 _ o) rfl rfl rfl rfl rfl dX12_send_7 hf (fun r2 hf => ?_)
  refine zF_if_eq 27 dX12_send_10 rfl rfl hf (fun c hf => ?_) (fun c hf => ?_)
  · refine zW_bipush dX12_send_27 rfl ?_
    exact zR_i hw rfl dX12_send_29 hf
  · refine zW_iload_n 3 dX12_send_13 rfl ?_
    refine zW_i2l dX12_send_14 ?_
    refine zW_ldc2 dX12_send_15 wc_RX12_225 ?_
    refine zW_ldc2 dX12_send_18 wc_RX12_132 ?_
    refine zC_Sri (As := [vl (w32 v3), vl (-1), vl 3]) (fun x hx => kX12_within hw (v0 := w32 v3) (v2 := (-1)) (v4 := 3)  hx) ms_RX12_94 rfl rfl rfl rfl dX12_send_21 hf (fun r3 hf => ?_)
    refine zF_if_ne 30 dX12_send_24 rfl rfl hf (fun c hf => ?_) (fun c hf => ?_)
    · refine zW_bipush dX12_send_27 rfl ?_
      exact zR_i hw rfl dX12_send_29 hf
    · refine zW_iload_n 2 dX12_send_30 rfl ?_
      refine zC_Sri (As := [vi v2]) (fun x hx => kX12_isLength hw (v0 := v2)  hx) ms_RX12_134 rfl rfl rfl rfl dX12_send_31 hf (fun r4 hf => ?_)
      refine zF_if_ne 40 dX12_send_34 rfl rfl hf (fun c hf => ?_) (fun c hf => ?_)
      · refine zW_bipush dX12_send_37 rfl ?_
        exact zR_i hw rfl dX12_send_39 hf
      · refine zW_iload_n 3 dX12_send_40 rfl ?_
        refine zW_iconst dX12_send_41 ?_
        refine zF_icmp_eq 58 dX12_send_42 rfl rfl (w32_lit _ rfl) hf (fun c hf => ?_) (fun c hf => ?_)
        · refine zW_sub [0, 1, 2, 3] rfl ?_
          exact tX12_send_b58 hw o hf
        · refine zW_aload_n 0 dX12_send_45 rfl ?_
          refine zW_getR (q' := (66, 0, 0)) lk_RX12_61 (hw.1 _ o) rfl rfl (hw.2.1 _ _ _ o rfl) dX12_send_46 ?_
          refine zW_iload_n 3 dX12_send_49 rfl ?_
          obtain ⟨c17, hf⟩ := zgd hf
          refine zF_iald (hw.1 _ (zokM (r' := 66) o rfl rfl)) rfl c17 rfl dX12_send_50 ?_
          refine zW_iconst dX12_send_51 ?_
          refine zF_icmp_ne 58 dX12_send_52 rfl rfl (w32_lit _ rfl) hf (fun c hf => ?_) (fun c hf => ?_)
          · refine zW_bipush dX12_send_55 rfl ?_
            exact zR_i hw rfl dX12_send_57 hf
          · refine zW_sub [0, 1, 2, 3] rfl ?_
            exact tX12_send_b58 hw o hf
theorem kX12_send {X : zX} {e : Nat → Prop} (hw : zWf X e) {v1 : Int} {v2 : Int} {v3 : Int} (o : zOk e (50, 0, 0)) {I : zMem} {u : (Int × zMem)} (hf : fX12_send v1 v2 v3 I = some u) : zCn X mX12_send yX12_send [.ref (zad X (50, 0, 0)), vi v1, vi v2, vi v3] I (some (vi u.1), u.2) := zCn_of (by decide +kernel) rfl rfl ⟨rfl, rfl⟩ (tX12_send_0 hw.N o hf)
set_option maxRecDepth 100000 in
theorem tX12_answer_0 {X : zX} {e : Nat → Prop} (hw : zWf X e) {v1 : Int} {v2 : Int} (o : zOk e (50, 0, 0)) {I : zMem} {u : (Int × zMem)} (hf : fX12_answer v1 v2 I = some u) : zW X (some (vi u.1), u.2) mX12_answer 0 [(0, .ref (zad X (50, 0, 0))), (1, vi v1), (2, vi v2)] [] I := by
  unfold fX12_answer at hf
  refine zW_aload_n 0 dX12_answer_0 rfl ?_
  refine zW_iconst dX12_answer_1 ?_
  refine zF_put lk_RX12_1 (hw.1 _ o) rfl rfl (zn_int _) dX12_answer_2 hf (fun I1 hf => ?_)
  refine zW_aload_n 0 dX12_answer_5 rfl ?_
  refine zW_iload_n 1 dX12_answer_6 rfl ?_
  refine zC_Vri (As := [vi v1]) (fun x hx => kX12_isProcess hw (v1 := v1) o hx) mv_RX12_222 (hw.1 _ o) rfl rfl rfl rfl rfl dX12_answer_7 hf (fun r2 hf => ?_)
  refine zF_if_ne 16 dX12_answer_10 rfl rfl hf (fun c hf => ?_) (fun c hf => ?_)
  · refine zW_bipush dX12_answer_13 rfl ?_
    exact zR_i hw rfl dX12_answer_15 hf
  · refine zW_iload_n 2 dX12_answer_16 rfl ?_
    refine zW_i2l dX12_answer_17 ?_
    refine zW_lconst0 dX12_answer_18 ?_
    refine zW_ldc2 dX12_answer_19 wc_RX12_237 ?_
    refine zC_Sri (As := [vl (w32 v2), vl 0, vl 2]) (fun x hx => kX12_within hw (v0 := w32 v2) (v2 := 0) (v4 := 2)  hx) ms_RX12_94 rfl rfl rfl rfl dX12_answer_22 hf (fun r3 hf => ?_)
    refine zF_if_ne 31 dX12_answer_25 rfl rfl hf (fun c hf => ?_) (fun c hf => ?_)
    · refine zW_bipush dX12_answer_28 rfl ?_
      exact zR_i hw rfl dX12_answer_30 hf
    · refine zW_aload_n 0 dX12_answer_31 rfl ?_
      refine zW_getR (q' := (51, 0, 0)) lk_RX12_13 (hw.1 _ o) rfl rfl (hw.2.1 _ _ _ o rfl) dX12_answer_32 ?_
      refine zW_aload_n 0 dX12_answer_35 rfl ?_
      refine zW_iload_n 1 dX12_answer_36 rfl ?_
      refine zC_Vri (As := [vi v1]) (fun x hx => kX12_own hw (v1 := v1) o hx) mv_RX12_188 (hw.1 _ o) rfl rfl rfl rfl rfl dX12_answer_37 hf (fun r4 hf => ?_)
      refine zW_iconst dX12_answer_40 ?_
      refine zW_iadd dX12_answer_41 ?_
      obtain ⟨c5, hf⟩ := zgd hf
      refine zF_iald (hw.1 _ (zokM (r' := 51) o rfl rfl)) rfl c5 rfl dX12_answer_42 ?_
      refine zW_iconst dX12_answer_43 ?_
      refine zF_icmp_ne 56 dX12_answer_44 rfl rfl (w32_lit _ rfl) hf (fun c hf => ?_) (fun c hf => ?_)
      · refine zW_aload_n 0 dX12_answer_47 rfl ?_
        refine zW_iload_n 1 dX12_answer_48 rfl ?_
        refine zW_iload_n 2 dX12_answer_49 rfl ?_
        refine zC_Vwi (As := [vi v1, vi v2]) (fun x hx => kX12_reads hw (v1 := v1) (v2 := v2) o hx) mv_RX12_239 (hw.1 _ o) rfl rfl rfl rfl rfl dX12_answer_50 hf (fun r6 hf => ?_)
        refine zW_goto 58 dX12_answer_53 rfl ?_
        exact zR_i hw rfl dX12_answer_58 hf
      · refine zW_bipush dX12_answer_56 rfl ?_
        exact zR_i hw rfl dX12_answer_58 hf
theorem kX12_answer {X : zX} {e : Nat → Prop} (hw : zWf X e) {v1 : Int} {v2 : Int} (o : zOk e (50, 0, 0)) {I : zMem} {u : (Int × zMem)} (hf : fX12_answer v1 v2 I = some u) : zCn X mX12_answer yX12_answer [.ref (zad X (50, 0, 0)), vi v1, vi v2] I (some (vi u.1), u.2) := zCn_of (by decide +kernel) rfl rfl ⟨rfl, rfl⟩ (tX12_answer_0 hw.N o hf)
set_option maxRecDepth 100000 in
theorem tX12_burst_l92_y {X : zX} {e : Nat → Prop} (hw : zWf X e) {T : zT} {v1 : Int} {v2 : Int} {v3 : Int} {v4 : Int} {w5 : Int} (o : zOk e (50, 0, 0)) (s : (Int × zMem)) {u : ((Int × zMem) ⊕ (Int × zMem))} (hf : fX12_burst_l92 v1 v2 v3 v4 w5 s = some u) (hk : ∀ s', u = .inl s' → zW X T mX12_burst 92 [(0, .ref (zad X (50, 0, 0))), (1, vi v1), (3, vi v3), (4, vi v4), (5, vi w5), (6, vi s'.1)] [] s'.2) (hx : ∀ x, u = .inr x → zW X T mX12_burst 125 [(0, .ref (zad X (50, 0, 0))), (1, vi v1), (3, vi v3), (5, vi w5)] [] x.2) : zW X T mX12_burst 92 [(0, .ref (zad X (50, 0, 0))), (1, vi v1), (3, vi v3), (4, vi v4), (5, vi w5), (6, vi s.1)] [] s.2 := by
  unfold fX12_burst_l92 at hf
  refine zW_iload 5 dX12_burst_92 rfl ?_
  refine zW_iload 4 dX12_burst_94 rfl ?_
  refine zF_icmp_ge 125 dX12_burst_96 rfl rfl rfl hf (fun c hf => ?_) (fun c hf => ?_)
  · refine zW_sub [0, 1, 2, 4] rfl ?_
    exact hx _ (Option.some.inj hf).symm
  · refine zW_aload_n 0 dX12_burst_99 rfl ?_
    refine zW_getR (q' := (63, 0, 0)) lk_RX12_52 (hw.1 _ o) rfl rfl (hw.2.1 _ _ _ o rfl) dX12_burst_100 ?_
    refine zW_iload 5 dX12_burst_103 rfl ?_
    refine zW_aload_n 0 dX12_burst_105 rfl ?_
    refine zW_getR (q' := (67, 0, 0)) lk_RX12_64 (hw.1 _ o) rfl rfl (hw.2.1 _ _ _ o rfl) dX12_burst_106 ?_
    refine zW_bipush dX12_burst_109 rfl ?_
    refine zW_iload 3 dX12_burst_111 rfl ?_
    refine zW_imul dX12_burst_113 ?_
    refine zW_iload 5 dX12_burst_114 rfl ?_
    refine zW_iadd dX12_burst_116 ?_
    obtain ⟨c9, hf⟩ := zgd hf
    refine zF_iald (hw.1 _ (zokM (r' := 67) o rfl rfl)) rfl c9 rfl dX12_burst_117 ?_
    obtain ⟨c10, hf⟩ := zgd hf
    refine zF_iast (hw.1 _ (zokM (r' := 63) o rfl rfl)) rfl c10 rfl dX12_burst_118 hf (fun I11 hf => ?_)
    refine zW_iinc 5 (lv' := [(6, vi (s.1 + 1)), (0, .ref (zad X (50, 0, 0))), (1, vi v1), (3, vi v3), (4, vi v4), (5, vi w5)]) dX12_burst_119 rfl rfl rfl ?_
    refine zW_goto 92 dX12_burst_122 rfl ?_
    refine zW_sub [1, 2, 3, 4, 5, 0] rfl ?_
    exact hk _ (Option.some.inj hf).symm
theorem tX12_burst_l92 {X : zX} {e : Nat → Prop} (hw : zWf X e) {T : zT} {v1 : Int} {v2 : Int} {v3 : Int} {v4 : Int} {w5 : Int} (o : zOk e (50, 0, 0)) {s0 : (Int × zMem)} {α : Type} {F : (Int × zMem) → Option α} {u : α} (hf : zb (zlp (fX12_burst_l92 v1 v2 v3 v4 w5) 5000 s0) F = some u) (kx : ∀ x, F x = some u → zW X T mX12_burst 125 [(0, .ref (zad X (50, 0, 0))), (1, vi v1), (3, vi v3), (5, vi w5)] [] x.2) : zW X T mX12_burst 92 [(0, .ref (zad X (50, 0, 0))), (1, vi v1), (3, vi v3), (4, vi v4), (5, vi w5), (6, vi s0.1)] [] s0.2 := by
  obtain ⟨x, h, hf⟩ := zb_inv hf
  exact zlp_W (P := fun s => zW X T mX12_burst 92 [(0, .ref (zad X (50, 0, 0))), (1, vi v1), (3, vi v3), (4, vi v4), (5, vi w5), (6, vi s.1)] [] s.2) (E := fun x => zW X T mX12_burst 125 [(0, .ref (zad X (50, 0, 0))), (1, vi v1), (3, vi v3), (5, vi w5)] [] x.2) (fun s u h hk hx => tX12_burst_l92_y hw o s h hk hx) _ s0 x h (kx x hf)
set_option maxRecDepth 100000 in
theorem tX12_burst_0 {X : zX} {e : Nat → Prop} (hw : zWf X e) {v1 : Int} {v2 : Int} {v3 : Int} {v4 : Int} (o : zOk e (50, 0, 0)) {I : zMem} {u : (Int × zMem)} (hf : fX12_burst v1 v2 v3 v4 I = some u) : zW X (some (vi u.1), u.2) mX12_burst 0 [(0, .ref (zad X (50, 0, 0))), (1, vi v1), (2, vi v2), (3, vi v3), (4, vi v4)] [] I := by
  unfold fX12_burst at hf
  refine zW_aload_n 0 dX12_burst_0 rfl ?_
  refine zW_iconst dX12_burst_1 ?_
  refine zF_put lk_RX12_1 (hw.1 _ o) rfl rfl (zn_int _) dX12_burst_2 hf (fun I1 hf => ?_)
  refine zW_aload_n 0 dX12_burst_5 rfl ?_
  refine zW_iload_n 1 dX12_burst_6 rfl ?_
  refine zC_Vri (As := [vi v1]) (fun x hx => kX12_isProcess hw (v1 := v1) o hx) mv_RX12_222 (hw.1 _ o) rfl rfl rfl rfl rfl dX12_burst_7 hf (fun r2 hf => ?_)
  refine zF_if_eq 48 dX12_burst_10 rfl rfl hf (fun c hf => ?_) (fun c hf => ?_)
  · refine zW_bipush dX12_burst_48 rfl ?_
    exact zR_i hw rfl dX12_burst_50 hf
  · refine zW_iload_n 2 dX12_burst_13 rfl ?_
    refine zW_i2l dX12_burst_14 ?_
    refine zW_lconst0 dX12_burst_15 ?_
    refine zW_ldc2 dX12_burst_16 wc_RX12_132 ?_
    refine zC_Sri (As := [vl (w32 v2), vl 0, vl 3]) (fun x hx => kX12_within hw (v0 := w32 v2) (v2 := 0) (v4 := 3)  hx) ms_RX12_94 rfl rfl rfl rfl dX12_burst_19 hf (fun r3 hf => ?_)
    refine zF_if_eq 48 dX12_burst_22 rfl rfl hf (fun c hf => ?_) (fun c hf => ?_)
    · refine zW_bipush dX12_burst_48 rfl ?_
      exact zR_i hw rfl dX12_burst_50 hf
    · refine zW_iload_n 3 dX12_burst_25 rfl ?_
      refine zW_i2l dX12_burst_26 ?_
      refine zW_lconst0 dX12_burst_27 ?_
      refine zW_lconst1 dX12_burst_28 ?_
      refine zC_Sri (As := [vl (w32 v3), vl 0, vl 1]) (fun x hx => kX12_within hw (v0 := w32 v3) (v2 := 0) (v4 := 1)  hx) ms_RX12_94 rfl rfl rfl rfl dX12_burst_29 hf (fun r4 hf => ?_)
      refine zF_if_eq 48 dX12_burst_32 rfl rfl hf (fun c hf => ?_) (fun c hf => ?_)
      · refine zW_bipush dX12_burst_48 rfl ?_
        exact zR_i hw rfl dX12_burst_50 hf
      · refine zW_iload 4 dX12_burst_35 rfl ?_
        refine zW_i2l dX12_burst_37 ?_
        refine zW_lconst0 dX12_burst_38 ?_
        refine zW_ldc2 dX12_burst_39 wc_RX12_132 ?_
        refine zC_Sri (As := [vl (w32 v4), vl 0, vl 3]) (fun x hx => kX12_within hw (v0 := w32 v4) (v2 := 0) (v4 := 3)  hx) ms_RX12_94 rfl rfl rfl rfl dX12_burst_42 hf (fun r5 hf => ?_)
        refine zF_if_ne 51 dX12_burst_45 rfl rfl hf (fun c hf => ?_) (fun c hf => ?_)
        · refine zW_bipush dX12_burst_48 rfl ?_
          exact zR_i hw rfl dX12_burst_50 hf
        · refine zW_aload_n 0 dX12_burst_51 rfl ?_
          refine zW_getR (q' := (66, 0, 0)) lk_RX12_61 (hw.1 _ o) rfl rfl (hw.2.1 _ _ _ o rfl) dX12_burst_52 ?_
          refine zW_iload 4 dX12_burst_55 rfl ?_
          obtain ⟨c6, hf⟩ := zgd hf
          refine zF_iald (hw.1 _ (zokM (r' := 66) o rfl rfl)) rfl c6 rfl dX12_burst_57 ?_
          refine zW_iconst dX12_burst_58 ?_
          refine zF_icmp_ne 65 dX12_burst_59 rfl rfl (w32_lit _ rfl) hf (fun c hf => ?_) (fun c hf => ?_)
          · refine zW_bipush dX12_burst_62 rfl ?_
            exact zR_i hw rfl dX12_burst_64 hf
          · refine zW_aload_n 0 dX12_burst_65 rfl ?_
            refine zW_getR (q' := (66, 0, 0)) lk_RX12_61 (hw.1 _ o) rfl rfl (hw.2.1 _ _ _ o rfl) dX12_burst_66 ?_
            refine zW_iload 4 dX12_burst_69 rfl ?_
            refine zF_iald (hw.1 _ (zokM (r' := 66) o rfl rfl)) rfl c6 rfl dX12_burst_71 ?_
            refine zF_istore (lv' := fun a7 => [(5, vi a7), (0, .ref (zad X (50, 0, 0))), (1, vi v1), (2, vi v2), (3, vi v3), (4, vi v4)]) dX12_burst_72 hf (fun _ => rfl) rfl (fun a7 hf => ?_)
            refine zW_iload 0 dX12_burst_74 rfl ?_
            refine zF_if_ne 82 dX12_burst_76 rfl rfl hf (fun c hf => ?_) (fun c hf => ?_)
            · refine zW_bipush dX12_burst_79 rfl ?_
              exact zR_i hw rfl dX12_burst_81 hf
            · refine zW_aload_n 1 dX12_burst_82 rfl ?_
              refine zW_iload_n 3 dX12_burst_83 rfl ?_
              refine zW_iload 0 dX12_burst_84 rfl ?_
              refine zC_Vwv (As := [vi v2, vi a7]) (fun x hx => kX12_laysSending hw (v1 := v2) (v2 := a7) o hx) mv_RX12_102 (hw.1 _ o) rfl rfl rfl rfl rfl dX12_burst_86 hf (fun r8 hf => ?_)
              refine zW_iconst dX12_burst_89 ?_
              refine zW_istore (lv' := [(6, vi 0), (5, vi a7), (0, .ref (zad X (50, 0, 0))), (1, vi v1), (2, vi v2), (3, vi v3), (4, vi v4)]) dX12_burst_90 rfl rfl ?_
              refine zW_sub [2, 3, 5, 6, 1, 0] rfl ?_
              refine tX12_burst_l92 hw o (s0 := (0, r8)) hf (fun x12 hf => ?_)
              refine zW_aload_n 0 dX12_burst_125 rfl ?_
              refine zW_iload_n 1 dX12_burst_126 rfl ?_
              refine zW_iload_n 2 dX12_burst_127 rfl ?_
              refine zW_iload 3 dX12_burst_128 rfl ?_
              refine zC_Vwv (As := [vi v1, vi v3, vi a7]) (fun x hx => kX12_hears hw (v1 := v1) (v2 := v3) (v3 := a7) o hx) mv_RX12_210 (hw.1 _ o) rfl rfl rfl rfl rfl dX12_burst_130 hf (fun r13 hf => ?_)
              refine zW_aload_n 0 dX12_burst_133 rfl ?_
              refine zW_getR (q' := (51, 0, 0)) lk_RX12_13 (hw.1 _ o) rfl rfl (hw.2.1 _ _ _ o rfl) dX12_burst_134 ?_
              refine zW_aload_n 0 dX12_burst_137 rfl ?_
              refine zW_iload_n 1 dX12_burst_138 rfl ?_
              refine zC_Vri (As := [vi v1]) (fun x hx => kX12_own hw (v1 := v1) o hx) mv_RX12_188 (hw.1 _ o) rfl rfl rfl rfl rfl dX12_burst_139 hf (fun r14 hf => ?_)
              refine zW_bipush dX12_burst_142 rfl ?_
              refine zW_iadd dX12_burst_144 ?_
              obtain ⟨c15, hf⟩ := zgd hf
              refine zF_iald (hw.1 _ (zokM (r' := 51) o rfl rfl)) rfl c15 rfl dX12_burst_145 ?_
              exact zR_i hw rfl dX12_burst_146 hf
theorem kX12_burst {X : zX} {e : Nat → Prop} (hw : zWf X e) {v1 : Int} {v2 : Int} {v3 : Int} {v4 : Int} (o : zOk e (50, 0, 0)) {I : zMem} {u : (Int × zMem)} (hf : fX12_burst v1 v2 v3 v4 I = some u) : zCn X mX12_burst yX12_burst [.ref (zad X (50, 0, 0)), vi v1, vi v2, vi v3, vi v4] I (some (vi u.1), u.2) := zCn_of (by decide +kernel) rfl rfl ⟨rfl, rfl⟩ (tX12_burst_0 hw.N o hf)
set_option maxRecDepth 100000 in
theorem tX12_tick_l30_y {X : zX} {e : Nat → Prop} (hw : zWf X e) {T : zT} {v1 : Int} {w2 : Int} (o : zOk e (50, 0, 0)) (s : (Int × zMem)) {u : ((Int × zMem) ⊕ (Int × zMem))} (hf : fX12_tick_l30 v1 w2 s = some u) (hk : ∀ s', u = .inl s' → zW X T mX12_tick 30 [(0, .ref (zad X (50, 0, 0))), (1, vi v1), (2, vi w2), (3, vi s'.1)] [] s'.2) (hx : ∀ x, u = .inr x → zW X T mX12_tick 45 [(0, .ref (zad X (50, 0, 0))), (2, vi w2)] [] x.2) : zW X T mX12_tick 30 [(0, .ref (zad X (50, 0, 0))), (1, vi v1), (2, vi w2), (3, vi s.1)] [] s.2 := by
  unfold fX12_tick_l30 at hf
  refine zW_iload_n 3 dX12_tick_30 rfl ?_
  refine zW_iload_n 1 dX12_tick_31 rfl ?_
  refine zF_icmp_ge 45 dX12_tick_32 rfl rfl rfl hf (fun c hf => ?_) (fun c hf => ?_)
  · refine zW_sub [0, 2] rfl ?_
    exact hx _ (Option.some.inj hf).symm
  · refine zW_aload_n 0 dX12_tick_35 rfl ?_
    refine zC_Vwv (As := []) (fun x hx => kX12_ticks hw o hx) mv_RX12_242 (hw.1 _ o) rfl rfl rfl rfl rfl dX12_tick_36 hf (fun r4 hf => ?_)
    refine zW_iinc 3 (lv' := [(3, vi (s.1 + 1)), (0, .ref (zad X (50, 0, 0))), (1, vi v1), (2, vi w2)]) dX12_tick_39 rfl rfl rfl ?_
    refine zW_goto 30 dX12_tick_42 rfl ?_
    refine zW_sub [1, 2, 3, 0] rfl ?_
    exact hk _ (Option.some.inj hf).symm
theorem tX12_tick_l30 {X : zX} {e : Nat → Prop} (hw : zWf X e) {T : zT} {v1 : Int} {w2 : Int} (o : zOk e (50, 0, 0)) {s0 : (Int × zMem)} {α : Type} {F : (Int × zMem) → Option α} {u : α} (hf : zb (zlp (fX12_tick_l30 v1 w2) 5000 s0) F = some u) (kx : ∀ x, F x = some u → zW X T mX12_tick 45 [(0, .ref (zad X (50, 0, 0))), (2, vi w2)] [] x.2) : zW X T mX12_tick 30 [(0, .ref (zad X (50, 0, 0))), (1, vi v1), (2, vi w2), (3, vi s0.1)] [] s0.2 := by
  obtain ⟨x, h, hf⟩ := zb_inv hf
  exact zlp_W (P := fun s => zW X T mX12_tick 30 [(0, .ref (zad X (50, 0, 0))), (1, vi v1), (2, vi w2), (3, vi s.1)] [] s.2) (E := fun x => zW X T mX12_tick 45 [(0, .ref (zad X (50, 0, 0))), (2, vi w2)] [] x.2) (fun s u h hk hx => tX12_tick_l30_y hw o s h hk hx) _ s0 x h (kx x hf)
set_option maxRecDepth 100000 in
theorem tX12_tick_0 {X : zX} {e : Nat → Prop} (hw : zWf X e) {v1 : Int} (o : zOk e (50, 0, 0)) {I : zMem} {u : (Int × zMem)} (hf : fX12_tick v1 I = some u) : zW X (some (vi u.1), u.2) mX12_tick 0 [(0, .ref (zad X (50, 0, 0))), (1, vi v1)] [] I := by
  unfold fX12_tick at hf
  refine zW_aload_n 0 dX12_tick_0 rfl ?_
  refine zW_iconst dX12_tick_1 ?_
  refine zF_put lk_RX12_1 (hw.1 _ o) rfl rfl (zn_int _) dX12_tick_2 hf (fun I1 hf => ?_)
  refine zW_iload_n 1 dX12_tick_5 rfl ?_
  refine zW_i2l dX12_tick_6 ?_
  refine zW_lconst1 dX12_tick_7 ?_
  refine zW_ldc2 dX12_tick_8 wc_RX12_98 ?_
  refine zC_Sri (As := [vl (w32 v1), vl 1, vl 60]) (fun x hx => kX12_within hw (v0 := w32 v1) (v2 := 1) (v4 := 60)  hx) ms_RX12_94 rfl rfl rfl rfl dX12_tick_11 hf (fun r2 hf => ?_)
  refine zF_if_ne 20 dX12_tick_14 rfl rfl hf (fun c hf => ?_) (fun c hf => ?_)
  · refine zW_bipush dX12_tick_17 rfl ?_
    exact zR_i hw rfl dX12_tick_19 hf
  · refine zW_aload_n 0 dX12_tick_20 rfl ?_
    refine zW_getR (q' := (51, 0, 0)) lk_RX12_13 (hw.1 _ o) rfl rfl (hw.2.1 _ _ _ o rfl) dX12_tick_21 ?_
    refine zW_bipush dX12_tick_24 rfl ?_
    refine zF_iald (hw.1 _ (zokM (r' := 51) o rfl rfl)) rfl (zin_lit _ _ rfl) (ix_lit _ rfl) dX12_tick_26 ?_
    refine zF_istore_n (lv' := fun a3 => [(2, vi a3), (0, .ref (zad X (50, 0, 0))), (1, vi v1)]) dX12_tick_27 hf (fun _ => rfl) rfl (fun a3 hf => ?_)
    refine zW_iconst dX12_tick_28 ?_
    refine zW_istore_n (lv' := [(3, vi 0), (2, vi a3), (0, .ref (zad X (50, 0, 0))), (1, vi v1)]) dX12_tick_29 rfl rfl ?_
    refine zW_sub [2, 3, 1, 0] rfl ?_
    refine tX12_tick_l30 hw o (s0 := (0, I1)) hf (fun x5 hf => ?_)
    refine zW_aload_n 0 dX12_tick_45 rfl ?_
    refine zW_getR (q' := (51, 0, 0)) lk_RX12_13 (hw.1 _ o) rfl rfl (hw.2.1 _ _ _ o rfl) dX12_tick_46 ?_
    refine zW_bipush dX12_tick_49 rfl ?_
    refine zF_iald (hw.1 _ (zokM (r' := 51) o rfl rfl)) rfl (zin_lit _ _ rfl) (ix_lit _ rfl) dX12_tick_51 ?_
    refine zW_iload_n 1 dX12_tick_52 rfl ?_
    refine zW_isub dX12_tick_53 ?_
    exact zR_i hw rfl dX12_tick_54 hf
theorem kX12_tick {X : zX} {e : Nat → Prop} (hw : zWf X e) {v1 : Int} (o : zOk e (50, 0, 0)) {I : zMem} {u : (Int × zMem)} (hf : fX12_tick v1 I = some u) : zCn X mX12_tick yX12_tick [.ref (zad X (50, 0, 0)), vi v1] I (some (vi u.1), u.2) := zCn_of (by decide +kernel) rfl rfl ⟨rfl, rfl⟩ (tX12_tick_0 hw.N o hf)
set_option maxRecDepth 100000 in
theorem tX12_report_0 {X : zX} {e : Nat → Prop} (hw : zWf X e)  (o : zOk e (50, 0, 0)) {I : zMem} {u : (Int × zMem)} (hf : fX12_report  I = some u) : zW X (some (vi u.1), u.2) mX12_report 0 [(0, .ref (zad X (50, 0, 0)))] [] I := by
  unfold fX12_report at hf
  refine zW_aload_n 0 dX12_report_0 rfl ?_
  refine zW_iconst dX12_report_1 ?_
  refine zF_put lk_RX12_1 (hw.1 _ o) rfl rfl (zn_int _) dX12_report_2 hf (fun I1 hf => ?_)
  refine zW_aload_n 0 dX12_report_5 rfl ?_
  refine zC_Vwv (As := []) (fun x hx => kX12_reports hw o hx) mv_RX12_245 (hw.1 _ o) rfl rfl rfl rfl rfl dX12_report_6 hf (fun r2 hf => ?_)
  refine zW_aload_n 0 dX12_report_9 rfl ?_
  refine zW_getR (q' := (51, 0, 0)) lk_RX12_13 (hw.1 _ o) rfl rfl (hw.2.1 _ _ _ o rfl) dX12_report_10 ?_
  refine zW_bipush dX12_report_13 rfl ?_
  refine zF_iald (hw.1 _ (zokM (r' := 51) o rfl rfl)) rfl (zin_lit _ _ rfl) (ix_lit _ rfl) dX12_report_15 ?_
  exact zR_i hw rfl dX12_report_16 hf
theorem kX12_report {X : zX} {e : Nat → Prop} (hw : zWf X e)  (o : zOk e (50, 0, 0)) {I : zMem} {u : (Int × zMem)} (hf : fX12_report  I = some u) : zCn X mX12_report yX12_report [.ref (zad X (50, 0, 0))] I (some (vi u.1), u.2) := zCn_of (by decide +kernel) rfl rfl ⟨rfl, rfl⟩ (tX12_report_0 hw.N o hf)
set_option maxRecDepth 100000 in
theorem tX12_draw_0 {X : zX} {e : Nat → Prop} (hw : zWf X e) {v1 : Int} (o : zOk e (50, 0, 0)) {I : zMem} {u : (Int × zMem)} (hf : fX12_draw v1 I = some u) : zW X (some (vi u.1), u.2) mX12_draw 0 [(0, .ref (zad X (50, 0, 0))), (1, vi v1)] [] I := by
  unfold fX12_draw at hf
  refine zW_aload_n 0 dX12_draw_0 rfl ?_
  refine zW_ldc dX12_draw_1 wc_RX12_248 ?_
  refine zW_aload_n 0 dX12_draw_3 rfl ?_
  refine zW_getI lk_RX12_249 (hw.1 _ o) rfl rfl dX12_draw_4 ?_
  refine zW_imul dX12_draw_7 ?_
  refine zW_sipush dX12_draw_8 rfl ?_
  refine zW_iadd dX12_draw_11 ?_
  refine zF_put lk_RX12_249 (hw.1 _ o) rfl rfl (zn_int _) dX12_draw_12 hf (fun I1 hf => ?_)
  refine zW_aload_n 0 dX12_draw_15 rfl ?_
  refine zW_getI lk_RX12_249 (hw.1 _ o) rfl rfl dX12_draw_16 ?_
  refine zW_bipush dX12_draw_19 rfl ?_
  refine zW_iushr dX12_draw_21 ?_
  refine zW_iload_n 1 dX12_draw_22 rfl ?_
  obtain ⟨c, hf⟩ := zgd hf
  refine zW_irem dX12_draw_23 c ?_
  exact zR_i hw rfl dX12_draw_24 hf
theorem kX12_draw {X : zX} {e : Nat → Prop} (hw : zWf X e) {v1 : Int} (o : zOk e (50, 0, 0)) {I : zMem} {u : (Int × zMem)} (hf : fX12_draw v1 I = some u) : zCn X mX12_draw yX12_draw [.ref (zad X (50, 0, 0)), vi v1] I (some (vi u.1), u.2) := zCn_of (by decide +kernel) rfl rfl ⟨rfl, rfl⟩ (tX12_draw_0 hw.N o hf)
set_option maxRecDepth 100000 in
theorem tX12_goesRound_b124 {X : zX} {e : Nat → Prop} (hw : zWf X e) {v1 : Int} {v2 : Int} {v3 : Int} {I : zMem} (o : zOk e (50, 0, 0)) {u : zMem} (hf : fX12_goesRound_b124 v1 v2 v3 I = some u) : zW X (none, u) mX12_goesRound 124 [(0, .ref (zad X (50, 0, 0)))] [] I := by
  unfold fX12_goesRound_b124 at hf
  refine zW_aload_n 0 dX12_goesRound_124 rfl ?_
  refine zC_Vwv (As := []) (fun x hx => kX12_ticks hw o hx) mv_RX12_242 (hw.1 _ o) rfl rfl rfl rfl rfl dX12_goesRound_125 hf (fun r6 hf => ?_)
  exact zR_v hw rfl dX12_goesRound_128 hf
set_option maxRecDepth 100000 in
theorem tX12_goesRound_l83_y {X : zX} {e : Nat → Prop} (hw : zWf X e) {T : zT} {v1 : Int} {v2 : Int} {v3 : Int} {w4 : Int} (o : zOk e (50, 0, 0)) (s : (Int × zMem)) {u : ((Int × zMem) ⊕ (Int × zMem))} (hf : fX12_goesRound_l83 v1 v2 v3 w4 s = some u) (hk : ∀ s', u = .inl s' → zW X T mX12_goesRound 83 [(0, .ref (zad X (50, 0, 0))), (1, vi v1), (2, vi v2), (3, vi v3), (4, vi w4), (5, vi s'.1)] [] s'.2) (hx : ∀ x, u = .inr x → zW X T mX12_goesRound 116 [(0, .ref (zad X (50, 0, 0))), (1, vi v1), (2, vi v2), (4, vi w4)] [] x.2) : zW X T mX12_goesRound 83 [(0, .ref (zad X (50, 0, 0))), (1, vi v1), (2, vi v2), (3, vi v3), (4, vi w4), (5, vi s.1)] [] s.2 := by
  unfold fX12_goesRound_l83 at hf
  refine zW_iload 5 dX12_goesRound_83 rfl ?_
  refine zW_iload_n 2 dX12_goesRound_85 rfl ?_
  refine zF_icmp_ge 116 dX12_goesRound_86 rfl rfl rfl hf (fun c hf => ?_) (fun c hf => ?_)
  · refine zW_sub [0, 1, 2, 4] rfl ?_
    exact hx _ (Option.some.inj hf).symm
  · refine zW_aload_n 0 dX12_goesRound_89 rfl ?_
    refine zW_getR (q' := (63, 0, 0)) lk_RX12_52 (hw.1 _ o) rfl rfl (hw.2.1 _ _ _ o rfl) dX12_goesRound_90 ?_
    refine zW_iload 5 dX12_goesRound_93 rfl ?_
    refine zW_dup2 dX12_goesRound_95 rfl rfl ?_
    obtain ⟨c9, hf⟩ := zgd hf
    refine zF_iald (hw.1 _ (zokM (r' := 63) o rfl rfl)) rfl c9 rfl dX12_goesRound_96 ?_
    refine zW_aload_n 0 dX12_goesRound_97 rfl ?_
    refine zW_iconst dX12_goesRound_98 ?_
    refine zW_iload_n 3 dX12_goesRound_99 rfl ?_
    refine zW_imul dX12_goesRound_100 ?_
    refine zW_iconst dX12_goesRound_101 ?_
    refine zW_iadd dX12_goesRound_102 ?_
    refine zC_Vwi (As := [vi ((2 * v3) + 1)]) (fun x hx => kX12_draw hw (v1 := (2 * v3) + 1) o hx) mv_RX12_252 (hw.1 _ o) rfl rfl rfl rfl rfl dX12_goesRound_103 hf (fun r10 hf => ?_)
    refine zW_iload_n 3 dX12_goesRound_106 rfl ?_
    refine zW_isub dX12_goesRound_107 ?_
    refine zW_iadd dX12_goesRound_108 ?_
    refine zF_iast (hw.1 _ (zokM (r' := 63) o rfl rfl)) rfl c9 rfl dX12_goesRound_109 hf (fun I11 hf => ?_)
    refine zW_iinc 5 (lv' := [(5, vi (s.1 + 1)), (0, .ref (zad X (50, 0, 0))), (1, vi v1), (2, vi v2), (3, vi v3), (4, vi w4)]) dX12_goesRound_110 rfl rfl rfl ?_
    refine zW_goto 83 dX12_goesRound_113 rfl ?_
    refine zW_sub [1, 2, 3, 4, 5, 0] rfl ?_
    exact hk _ (Option.some.inj hf).symm
theorem tX12_goesRound_l83 {X : zX} {e : Nat → Prop} (hw : zWf X e) {T : zT} {v1 : Int} {v2 : Int} {v3 : Int} {w4 : Int} (o : zOk e (50, 0, 0)) {s0 : (Int × zMem)} {α : Type} {F : (Int × zMem) → Option α} {u : α} (hf : zb (zlp (fX12_goesRound_l83 v1 v2 v3 w4) 5000 s0) F = some u) (kx : ∀ x, F x = some u → zW X T mX12_goesRound 116 [(0, .ref (zad X (50, 0, 0))), (1, vi v1), (2, vi v2), (4, vi w4)] [] x.2) : zW X T mX12_goesRound 83 [(0, .ref (zad X (50, 0, 0))), (1, vi v1), (2, vi v2), (3, vi v3), (4, vi w4), (5, vi s0.1)] [] s0.2 := by
  obtain ⟨x, h, hf⟩ := zb_inv hf
  exact zlp_W (P := fun s => zW X T mX12_goesRound 83 [(0, .ref (zad X (50, 0, 0))), (1, vi v1), (2, vi v2), (3, vi v3), (4, vi w4), (5, vi s.1)] [] s.2) (E := fun x => zW X T mX12_goesRound 116 [(0, .ref (zad X (50, 0, 0))), (1, vi v1), (2, vi v2), (4, vi w4)] [] x.2) (fun s u h hk hx => tX12_goesRound_l83_y hw o s h hk hx) _ s0 x h (kx x hf)
set_option maxRecDepth 100000 in
theorem tX12_goesRound_b78 {X : zX} {e : Nat → Prop} (hw : zWf X e) {v1 : Int} {v2 : Int} {v3 : Int} {k0 : Int} {I : zMem} (o : zOk e (50, 0, 0)) {u : zMem} (hf : fX12_goesRound_b78 v1 v2 v3 k0 I = some u) : zW X (none, u) mX12_goesRound 78 [(0, .ref (zad X (50, 0, 0))), (1, vi v1), (2, vi v2), (3, vi v3)] [vi k0] I := by
  unfold fX12_goesRound_b78 at hf
  refine zW_istore (lv' := [(4, vi k0), (0, .ref (zad X (50, 0, 0))), (1, vi v1), (2, vi v2), (3, vi v3)]) dX12_goesRound_78 rfl rfl ?_
  refine zW_iconst dX12_goesRound_80 ?_
  refine zW_istore (lv' := [(5, vi 0), (4, vi k0), (0, .ref (zad X (50, 0, 0))), (1, vi v1), (2, vi v2), (3, vi v3)]) dX12_goesRound_81 rfl rfl ?_
  refine zW_sub [2, 3, 4, 5, 1, 0] rfl ?_
  refine tX12_goesRound_l83 hw o (s0 := (0, I)) hf (fun x12 hf => ?_)
  refine zW_aload_n 0 dX12_goesRound_116 rfl ?_
  refine zW_iload_n 1 dX12_goesRound_117 rfl ?_
  refine zW_iload_n 2 dX12_goesRound_118 rfl ?_
  refine zW_iload 3 dX12_goesRound_119 rfl ?_
  refine zC_Vwv (As := [vi v1, vi v2, vi k0]) (fun x hx => kX12_endsSend hw (v1 := v1) (v2 := v2) (v3 := k0) o hx) mv_RX12_233 (hw.1 _ o) rfl rfl rfl rfl rfl dX12_goesRound_121 hf (fun r13 hf => ?_)
  refine zW_sub [0] rfl ?_
  exact tX12_goesRound_b124 hw o hf
set_option maxRecDepth 100000 in
theorem tX12_goesRound_b50 {X : zX} {e : Nat → Prop} (hw : zWf X e) {v1 : Int} {v2 : Int} {v3 : Int} {I : zMem} (o : zOk e (50, 0, 0)) {u : zMem} (hf : fX12_goesRound_b50 v1 v2 v3 I = some u) : zW X (none, u) mX12_goesRound 50 [(0, .ref (zad X (50, 0, 0))), (1, vi v1), (2, vi v2), (3, vi v3)] [] I := by
  unfold fX12_goesRound_b50 at hf
  refine zW_aload_n 0 dX12_goesRound_50 rfl ?_
  refine zW_iload_n 1 dX12_goesRound_51 rfl ?_
  refine zC_Vri (As := [vi v1]) (fun x hx => kX12_canSend hw (v1 := v1) o hx) mv_RX12_227 (hw.1 _ o) rfl rfl rfl rfl rfl dX12_goesRound_52 hf (fun r5 hf => ?_)
  refine zF_if_eq 124 dX12_goesRound_55 rfl rfl hf (fun c hf => ?_) (fun c hf => ?_)
  · refine zW_sub [0] rfl ?_
    exact tX12_goesRound_b124 hw o hf
  · refine zW_aload_n 0 dX12_goesRound_58 rfl ?_
    refine zW_iload_n 1 dX12_goesRound_59 rfl ?_
    refine zW_iload_n 2 dX12_goesRound_60 rfl ?_
    refine zC_Vwv (As := [vi v1, vi v2]) (fun x hx => kX12_beginsSend hw (v1 := v1) (v2 := v2) o hx) mv_RX12_230 (hw.1 _ o) rfl rfl rfl rfl rfl dX12_goesRound_61 hf (fun r7 hf => ?_)
    refine zW_aload_n 0 dX12_goesRound_64 rfl ?_
    refine zW_bipush dX12_goesRound_65 rfl ?_
    refine zC_Vwi (As := [vi 16]) (fun x hx => kX12_draw hw (v1 := 16) o hx) mv_RX12_252 (hw.1 _ o) rfl rfl rfl rfl rfl dX12_goesRound_67 hf (fun r8 hf => ?_)
    refine zF_if_eq 77 dX12_goesRound_70 rfl rfl hf (fun c hf => ?_) (fun c hf => ?_)
    · refine zW_iconst dX12_goesRound_77 ?_
      refine zW_sub [0, 1, 2, 3] rfl ?_
      exact tX12_goesRound_b78 hw o hf
    · refine zW_iconst dX12_goesRound_73 ?_
      refine zW_goto 78 dX12_goesRound_74 rfl ?_
      refine zW_sub [0, 1, 2, 3] rfl ?_
      exact tX12_goesRound_b78 hw o hf
set_option maxRecDepth 100000 in
theorem tX12_goesRound_b46 {X : zX} {e : Nat → Prop} (hw : zWf X e) {v1 : Int} {v2 : Int} {v3 : Int} {k0 : Int} {k1 : Int} {I : zMem} (o : zOk e (50, 0, 0)) (ko2 : zOk e (50, 0, 0)) {u : zMem} (hf : fX12_goesRound_b46 v1 v2 v3 k0 k1 I = some u) : zW X (none, u) mX12_goesRound 46 [(0, .ref (zad X (50, 0, 0))), (1, vi v1), (2, vi v2), (3, vi v3)] [vi k0, vi k1, .ref (zad X (50, 0, 0))] I := by
  unfold fX12_goesRound_b46 at hf
  refine zC_Vwi (As := [vi k1, vi k0]) (fun x hx => kX12_reads hw (v1 := k1) (v2 := k0) ko2 hx) mv_RX12_239 (hw.1 _ ko2) rfl rfl rfl rfl rfl dX12_goesRound_46 hf (fun r4 hf => ?_)
  refine zW_pop dX12_goesRound_49 rfl ?_
  refine zW_sub [0, 1, 2, 3] rfl ?_
  exact tX12_goesRound_b50 hw o hf
set_option maxRecDepth 100000 in
theorem tX12_goesRound_0 {X : zX} {e : Nat → Prop} (hw : zWf X e) {v1 : Int} {v2 : Int} {v3 : Int} (o : zOk e (50, 0, 0)) {I : zMem} {u : zMem} (hf : fX12_goesRound v1 v2 v3 I = some u) : zW X (none, u) mX12_goesRound 0 [(0, .ref (zad X (50, 0, 0))), (1, vi v1), (2, vi v2), (3, vi v3)] [] I := by
  unfold fX12_goesRound at hf
  refine zW_aload_n 0 dX12_goesRound_0 rfl ?_
  refine zW_getR (q' := (51, 0, 0)) lk_RX12_13 (hw.1 _ o) rfl rfl (hw.2.1 _ _ _ o rfl) dX12_goesRound_1 ?_
  refine zW_aload_n 0 dX12_goesRound_4 rfl ?_
  refine zW_iload_n 1 dX12_goesRound_5 rfl ?_
  refine zC_Vri (As := [vi v1]) (fun x hx => kX12_own hw (v1 := v1) o hx) mv_RX12_188 (hw.1 _ o) rfl rfl rfl rfl rfl dX12_goesRound_6 hf (fun r1 hf => ?_)
  refine zW_iconst dX12_goesRound_9 ?_
  refine zW_iadd dX12_goesRound_10 ?_
  obtain ⟨c2, hf⟩ := zgd hf
  refine zF_iald (hw.1 _ (zokM (r' := 51) o rfl rfl)) rfl c2 rfl dX12_goesRound_11 ?_
  refine zW_iconst dX12_goesRound_12 ?_
  refine zF_icmp_ne 50 dX12_goesRound_13 rfl rfl (w32_lit _ rfl) hf (fun c hf => ?_) (fun c hf => ?_)
  · refine zW_aload_n 0 dX12_goesRound_16 rfl ?_
    refine zW_bipush dX12_goesRound_17 rfl ?_
    refine zC_Vwi (As := [vi 8]) (fun x hx => kX12_draw hw (v1 := 8) o hx) mv_RX12_252 (hw.1 _ o) rfl rfl rfl rfl rfl dX12_goesRound_19 hf (fun r3 hf => ?_)
    refine zW_istore (lv' := [(4, vi r3.1), (0, .ref (zad X (50, 0, 0))), (1, vi v1), (2, vi v2), (3, vi v3)]) dX12_goesRound_22 rfl rfl ?_
    refine zW_aload_n 1 dX12_goesRound_24 rfl ?_
    refine zW_iload_n 2 dX12_goesRound_25 rfl ?_
    refine zW_iload 0 dX12_goesRound_26 rfl ?_
    refine zF_if_ne 35 dX12_goesRound_28 rfl rfl hf (fun c hf => ?_) (fun c hf => ?_)
    · refine zW_iconst dX12_goesRound_31 ?_
      refine zW_goto 46 dX12_goesRound_32 rfl ?_
      refine zW_sub [1, 2, 3, 4] rfl ?_
      exact tX12_goesRound_b46 hw o o hf
    · refine zW_iload 0 dX12_goesRound_35 rfl ?_
      refine zW_iconst dX12_goesRound_37 ?_
      refine zF_icmp_ne 45 dX12_goesRound_38 rfl rfl (w32_lit _ rfl) hf (fun c hf => ?_) (fun c hf => ?_)
      · refine zW_iconst dX12_goesRound_41 ?_
        refine zW_goto 46 dX12_goesRound_42 rfl ?_
        refine zW_sub [1, 2, 3, 4] rfl ?_
        exact tX12_goesRound_b46 hw o o hf
      · refine zW_iconst dX12_goesRound_45 ?_
        refine zW_sub [1, 2, 3, 4] rfl ?_
        exact tX12_goesRound_b46 hw o o hf
  · refine zW_sub [0, 1, 2, 3] rfl ?_
    exact tX12_goesRound_b50 hw o hf
theorem kX12_goesRound {X : zX} {e : Nat → Prop} (hw : zWf X e) {v1 : Int} {v2 : Int} {v3 : Int} (o : zOk e (50, 0, 0)) {I : zMem} {u : zMem} (hf : fX12_goesRound v1 v2 v3 I = some u) : zCn X mX12_goesRound yX12_goesRound [.ref (zad X (50, 0, 0)), vi v1, vi v2, vi v3] I (none, u) := zCn_of (by decide +kernel) rfl rfl ⟨rfl, rfl⟩ (tX12_goesRound_0 hw.N o hf)
