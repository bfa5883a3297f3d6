set_option maxRecDepth 100000 in
theorem tX11_weak_b49_90 {X : zX} {e : Nat → Prop} (hw : zWf X e) {T : zT} {v1 : Int} {v2 : Int} {v3 : Int} {w4 : Int} {w6 : Int} {k0 : Int} {k1 : Int} {I : zMem} (o : zOk e (0, 0, 0)) (h1 : e 1) (ko2 : zOk e (14, 0, 0)) {u : ((Int × zMem) ⊕ (Int × zMem))} (hf : fX11_weak_b49_90 v1 v2 v3 w4 w6 k0 k1 I = some u) (hk : ∀ s', u = .inl s' → zW X T mX11_weak 49 [(0, .ref (zad X (0, 0, 0))), (1, vi v1), (4, vl w4), (6, vi s'.1)] [] s'.2) (hx : ∀ x, u = .inr x → zW X T mX11_weak 97 [(0, .ref (zad X (0, 0, 0))), (1, vi v1)] [] x.2) : zW X T mX11_weak 90 [(0, .ref (zad X (0, 0, 0))), (1, vi v1), (4, vl w4), (6, vi w6)] [vi k0, vi k1, .ref (zad X (14, 0, 0))] I := by
  unfold fX11_weak_b49_90 at hf
  obtain ⟨c9, hf⟩ := zgd hf
  refine zF_iast (hw.1 _ ko2) rfl c9 rfl dX11_weak_90 hf (fun I10 hf => ?_)
  refine zW_iinc 3 (lv' := [(6, vi (w6 + 1)), (0, .ref (zad X (0, 0, 0))), (1, vi v1), (4, vl w4)]) dX11_weak_91 rfl rfl rfl ?_
  refine zW_goto 49 dX11_weak_94 rfl ?_
  refine zW_sub [1, 2, 3, 0] rfl ?_
  exact hk _ (Option.some.inj hf).symm
set_option maxRecDepth 100000 in
theorem tX11_weak_l49_y {X : zX} {e : Nat → Prop} (hw : zWf X e) {T : zT} {v1 : Int} {v2 : Int} {v3 : Int} {w4 : Int} (o : zOk e (0, 0, 0)) (h1 : e 1) (s : (Int × zMem)) {u : ((Int × zMem) ⊕ (Int × zMem))} (hf : fX11_weak_l49 v1 v2 v3 w4 s = some u) (hk : ∀ s', u = .inl s' → zW X T mX11_weak 49 [(0, .ref (zad X (0, 0, 0))), (1, vi v1), (4, vl w4), (6, vi s'.1)] [] s'.2) (hx : ∀ x, u = .inr x → zW X T mX11_weak 97 [(0, .ref (zad X (0, 0, 0))), (1, vi v1)] [] x.2) : zW X T mX11_weak 49 [(0, .ref (zad X (0, 0, 0))), (1, vi v1), (4, vl w4), (6, vi s.1)] [] s.2 := by
  unfold fX11_weak_l49 at hf
  refine zW_iload 3 dX11_weak_49 rfl ?_
  refine zW_bipush dX11_weak_51 rfl ?_
  refine zF_icmp_ge 97 dX11_weak_53 rfl rfl (w32_lit _ rfl) hf (fun c hf => ?_) (fun c hf => ?_)
  · refine zW_sub [0, 1] rfl ?_
    exact hx _ (Option.some.inj hf).symm
  · refine zW_aload_n 0 dX11_weak_56 rfl ?_
    refine zW_getR (q' := (14, 0, 0)) lk_RX11_68 (hw.1 _ o) rfl rfl (hw.2.1 _ _ _ o rfl) dX11_weak_57 ?_
    refine zW_iload 3 dX11_weak_60 rfl ?_
    refine zW_lload 2 dX11_weak_62 rfl ?_
    refine zW_iload 3 dX11_weak_64 rfl ?_
    refine zC_Sri (As := [vl w4, vi s.1]) (fun x hx => kX1_isOne hw (v0 := w4) (v2 := s.1)  hx) ms_RX11_159 rfl rfl rfl rfl dX11_weak_66 hf (fun r7 hf => ?_)
    refine zF_if_eq 82 dX11_weak_69 rfl rfl hf (fun c hf => ?_) (fun c hf => ?_)
    · refine zW_aload_n 0 dX11_weak_82 rfl ?_
      refine zW_getR (q' := (13, 0, 0)) lk_RX11_64 (hw.1 _ o) rfl rfl (hw.2.1 _ _ _ o rfl) dX11_weak_83 ?_
      refine zW_iload 3 dX11_weak_86 rfl ?_
      obtain ⟨c8, hf⟩ := zgd hf
      refine zF_iald (hw.1 _ (zokA (r' := 13) o rfl rfl)) rfl c8 rfl dX11_weak_88 ?_
      refine zW_ineg dX11_weak_89 ?_
      refine zW_sub [0, 1, 2, 3] rfl ?_
      exact tX11_weak_b49_90 hw o h1 (zokA (r' := 14) o rfl rfl) hf hk hx
    · refine zW_aload_n 0 dX11_weak_72 rfl ?_
      refine zW_getR (q' := (13, 0, 0)) lk_RX11_64 (hw.1 _ o) rfl rfl (hw.2.1 _ _ _ o rfl) dX11_weak_73 ?_
      refine zW_iload 3 dX11_weak_76 rfl ?_
      obtain ⟨c11, hf⟩ := zgd hf
      refine zF_iald (hw.1 _ (zokA (r' := 13) o rfl rfl)) rfl c11 rfl dX11_weak_78 ?_
      refine zW_goto 90 dX11_weak_79 rfl ?_
      refine zW_sub [0, 1, 2, 3] rfl ?_
      exact tX11_weak_b49_90 hw o h1 (zokA (r' := 14) o rfl rfl) hf hk hx
theorem tX11_weak_l49 {X : zX} {e : Nat → Prop} (hw : zWf X e) {T : zT} {v1 : Int} {v2 : Int} {v3 : Int} {w4 : Int} (o : zOk e (0, 0, 0)) (h1 : e 1) {s0 : (Int × zMem)} {α : Type} {F : (Int × zMem) → Option α} {u : α} (hf : zb (zlp (fX11_weak_l49 v1 v2 v3 w4) 5000 s0) F = some u) (kx : ∀ x, F x = some u → zW X T mX11_weak 97 [(0, .ref (zad X (0, 0, 0))), (1, vi v1)] [] x.2) : zW X T mX11_weak 49 [(0, .ref (zad X (0, 0, 0))), (1, vi v1), (4, vl w4), (6, vi s0.1)] [] s0.2 := by
  obtain ⟨x, h, hf⟩ := zb_inv hf
  exact zlp_W (P := fun s => zW X T mX11_weak 49 [(0, .ref (zad X (0, 0, 0))), (1, vi v1), (4, vl w4), (6, vi s.1)] [] s.2) (E := fun x => zW X T mX11_weak 97 [(0, .ref (zad X (0, 0, 0))), (1, vi v1)] [] x.2) (fun s u h hk hx => tX11_weak_l49_y hw o h1 s h hk hx) _ s0 x h (kx x hf)
set_option maxRecDepth 100000 in
theorem tX11_weak_b103_142 {X : zX} {e : Nat → Prop} (hw : zWf X e) {T : zT} {v1 : Int} {v2 : Int} {v3 : Int} {w6 : Int} {w7 : Int} {I : zMem} (o : zOk e (0, 0, 0)) (h1 : e 1) {u : ((Int × Int × zMem) ⊕ (Int × Int × zMem))} (hf : fX11_weak_b103_142 v1 v2 v3 w6 w7 I = some u) (hk : ∀ s', u = .inl s' → zW X T mX11_weak 103 [(0, .ref (zad X (0, 0, 0))), (1, vi v1), (6, vi s'.1), (7, vi s'.2.1)] [] s'.2.2) (hx : ∀ x, u = .inr x → zW X T mX11_weak 148 [(6, vi x.1)] [] x.2.2) : zW X T mX11_weak 142 [(0, .ref (zad X (0, 0, 0))), (1, vi v1), (6, vi w6), (7, vi w7)] [] I := by
  unfold fX11_weak_b103_142 at hf
  refine zW_iinc 3 (lv' := [(7, vi (w7 + 1)), (0, .ref (zad X (0, 0, 0))), (1, vi v1), (6, vi w6)]) dX11_weak_142 rfl rfl rfl ?_
  refine zW_goto 103 dX11_weak_145 rfl ?_
  refine zW_sub [1, 2, 3, 0] rfl ?_
  exact hk _ (Option.some.inj hf).symm
set_option maxRecDepth 100000 in
theorem tX11_weak_l103_y {X : zX} {e : Nat → Prop} (hw : zWf X e) {T : zT} {v1 : Int} {v2 : Int} {v3 : Int} (o : zOk e (0, 0, 0)) (h1 : e 1) (s : (Int × Int × zMem)) {u : ((Int × Int × zMem) ⊕ (Int × Int × zMem))} (hf : fX11_weak_l103 v1 v2 v3 s = some u) (hk : ∀ s', u = .inl s' → zW X T mX11_weak 103 [(0, .ref (zad X (0, 0, 0))), (1, vi v1), (6, vi s'.1), (7, vi s'.2.1)] [] s'.2.2) (hx : ∀ x, u = .inr x → zW X T mX11_weak 148 [(6, vi x.1)] [] x.2.2) : zW X T mX11_weak 103 [(0, .ref (zad X (0, 0, 0))), (1, vi v1), (6, vi s.1), (7, vi s.2.1)] [] s.2.2 := by
  unfold fX11_weak_l103 at hf
  refine zW_iload 3 dX11_weak_103 rfl ?_
  refine zW_bipush dX11_weak_105 rfl ?_
  refine zF_icmp_ge 148 dX11_weak_107 rfl rfl (w32_lit _ rfl) hf (fun c hf => ?_) (fun c hf => ?_)
  · refine zW_sub [2] rfl ?_
    exact hx _ (Option.some.inj hf).symm
  · refine zW_aload_n 0 dX11_weak_110 rfl ?_
    refine zW_getR (q' := (13, 0, 0)) lk_RX11_64 (hw.1 _ o) rfl rfl (hw.2.1 _ _ _ o rfl) dX11_weak_111 ?_
    refine zW_iload 3 dX11_weak_114 rfl ?_
    obtain ⟨c13, hf⟩ := zgd hf
    refine zF_iald (hw.1 _ (zokA (r' := 13) o rfl rfl)) rfl c13 rfl dX11_weak_116 ?_
    refine zF_if_le 142 dX11_weak_117 rfl rfl hf (fun c hf => ?_) (fun c hf => ?_)
    · refine zW_sub [0, 1, 2, 3] rfl ?_
      exact tX11_weak_b103_142 hw o h1 hf hk hx
    · refine zW_aload_n 0 dX11_weak_120 rfl ?_
      refine zW_iload_n 1 dX11_weak_121 rfl ?_
      refine zW_iload 3 dX11_weak_122 rfl ?_
      refine zC_Vwi (As := [vi v1, vi s.2.1]) (fun x hx => kX11_turnSpoils hw (v1 := v1) (v2 := s.2.1) o h1 hx) mv_RX11_163 (hw.1 _ o) rfl rfl rfl rfl rfl dX11_weak_124 hf (fun r14 hf => ?_)
      refine zF_if_eq 142 dX11_weak_127 rfl rfl hf (fun c hf => ?_) (fun c hf => ?_)
      · refine zW_sub [0, 1, 2, 3] rfl ?_
        exact tX11_weak_b103_142 hw o h1 hf hk hx
      · refine zW_iload 2 dX11_weak_130 rfl ?_
        refine zW_aload_n 0 dX11_weak_132 rfl ?_
        refine zW_getR (q' := (13, 0, 0)) lk_RX11_64 (hw.1 _ o) rfl rfl (hw.2.1 _ _ _ o rfl) dX11_weak_133 ?_
        refine zW_iload 3 dX11_weak_136 rfl ?_
        refine zF_iald (hw.1 _ (zokA (r' := 13) o rfl rfl)) rfl c13 rfl dX11_weak_138 ?_
        refine zW_iadd dX11_weak_139 ?_
        refine zF_istore (lv' := fun a15 => [(6, vi a15), (0, .ref (zad X (0, 0, 0))), (1, vi v1), (7, vi s.2.1)]) dX11_weak_140 hf (fun _ => rfl) rfl (fun a15 hf => ?_)
        refine zW_sub [1, 2, 0, 3] rfl ?_
        exact tX11_weak_b103_142 hw o h1 hf hk hx
theorem tX11_weak_l103 {X : zX} {e : Nat → Prop} (hw : zWf X e) {T : zT} {v1 : Int} {v2 : Int} {v3 : Int} (o : zOk e (0, 0, 0)) (h1 : e 1) {s0 : (Int × Int × zMem)} {α : Type} {F : (Int × Int × zMem) → Option α} {u : α} (hf : zb (zlp (fX11_weak_l103 v1 v2 v3) 5000 s0) F = some u) (kx : ∀ x, F x = some u → zW X T mX11_weak 148 [(6, vi x.1)] [] x.2.2) : zW X T mX11_weak 103 [(0, .ref (zad X (0, 0, 0))), (1, vi v1), (6, vi s0.1), (7, vi s0.2.1)] [] s0.2.2 := by
  obtain ⟨x, h, hf⟩ := zb_inv hf
  exact zlp_W (P := fun s => zW X T mX11_weak 103 [(0, .ref (zad X (0, 0, 0))), (1, vi v1), (6, vi s.1), (7, vi s.2.1)] [] s.2.2) (E := fun x => zW X T mX11_weak 148 [(6, vi x.1)] [] x.2.2) (fun s u h hk hx => tX11_weak_l103_y hw o h1 s h hk hx) _ s0 x h (kx x hf)
set_option maxRecDepth 100000 in
theorem tX11_weak_0 {X : zX} {e : Nat → Prop} (hw : zWf X e) {v1 : Int} {v2 : Int} {v3 : Int} (o : zOk e (0, 0, 0)) (h1 : e 1) {I : zMem} {u : (Int × zMem)} (hf : fX11_weak v1 v2 v3 I = some u) : zW X (some (vi u.1), u.2) mX11_weak 0 [(0, .ref (zad X (0, 0, 0))), (1, vi v1), (2, vi v2), (3, vi v3)] [] I := by
  unfold fX11_weak at hf
  refine zW_iload_n 2 dX11_weak_0 rfl ?_
  refine zC_Sri (As := [vi v2]) (fun x hx => kX11_isVersion hw (v0 := v2)  hx) ms_RX11_101 rfl rfl rfl rfl dX11_weak_1 hf (fun r1 hf => ?_)
  refine zF_if_ne 10 dX11_weak_4 rfl rfl hf (fun c hf => ?_) (fun c hf => ?_)
  · refine zW_bipush dX11_weak_7 rfl ?_
    exact zR_i hw rfl dX11_weak_9 hf
  · refine zW_iload_n 1 dX11_weak_10 rfl ?_
    refine zC_Sri (As := [vi v1]) (fun x hx => kX11_isWord hw (v0 := v1)  hx) ms_RX11_83 rfl rfl rfl rfl dX11_weak_11 hf (fun r2 hf => ?_)
    refine zF_if_eq 24 dX11_weak_14 rfl rfl hf (fun c hf => ?_) (fun c hf => ?_)
    · refine zW_bipush dX11_weak_24 rfl ?_
      exact zR_i hw rfl dX11_weak_26 hf
    · refine zW_iload_n 3 dX11_weak_17 rfl ?_
      refine zC_Sri (As := [vi v3]) (fun x hx => kX11_isLength hw (v0 := v3)  hx) ms_RX11_104 rfl rfl rfl rfl dX11_weak_18 hf (fun r3 hf => ?_)
      refine zF_if_ne 27 dX11_weak_21 rfl rfl hf (fun c hf => ?_) (fun c hf => ?_)
      · refine zW_bipush dX11_weak_24 rfl ?_
        exact zR_i hw rfl dX11_weak_26 hf
      · refine zW_aload_n 0 dX11_weak_27 rfl ?_
        refine zW_iconst dX11_weak_28 ?_
        refine zW_iload_n 2 dX11_weak_29 rfl ?_
        refine zW_ishl dX11_weak_30 ?_
        refine zW_iload_n 3 dX11_weak_31 rfl ?_
        refine zC_Vwv (As := [vi (ishl 1 v2), vi v3]) (fun x hx => kX11_countVersions hw (v1 := ishl 1 v2) (v2 := v3) o h1 hx) mv_RX11_156 (hw.1 _ o) rfl rfl rfl rfl rfl dX11_weak_32 hf (fun r4 hf => ?_)
        refine zW_aload_n 0 dX11_weak_35 rfl ?_
        refine zW_getR (q' := (1, 0, 0)) lk_RX11_12 (hw.1 _ o) rfl rfl (hw.2.1 _ _ _ o rfl) dX11_weak_36 ?_
        refine zW_getR (q' := (16, 0, 0)) lk_RX11_91 (hw.1 _ (zokA (r' := 1) o rfl rfl)) rfl rfl (hw.2.1 _ _ _ (zokA (r' := 1) o rfl rfl) rfl) dX11_weak_39 ?_
        refine zW_iload_n 1 dX11_weak_42 rfl ?_
        obtain ⟨c5, hf⟩ := zgd hf
        refine zF_lald (hw.1 _ (zokA (r' := 16) (zokA (r' := 1) o rfl rfl) rfl rfl)) rfl c5 rfl dX11_weak_43 ?_
        refine zF_lstore (lv' := fun a6 => [(4, vl a6), (0, .ref (zad X (0, 0, 0))), (1, vi v1), (2, vi v2), (3, vi v3)]) dX11_weak_44 hf (fun _ => rfl) rfl (fun a6 hf => ?_)
        refine zW_iconst dX11_weak_46 ?_
        refine zW_istore (lv' := [(6, vi 0), (4, vl a6), (0, .ref (zad X (0, 0, 0))), (1, vi v1), (2, vi v2), (3, vi v3)]) dX11_weak_47 rfl rfl ?_
        refine zW_sub [2, 3, 1, 0] rfl ?_
        refine tX11_weak_l49 hw o h1 (s0 := (0, r4)) hf (fun x12 hf => ?_)
        refine zW_iconst dX11_weak_97 ?_
        refine zW_istore (lv' := [(6, vi 0), (0, .ref (zad X (0, 0, 0))), (1, vi v1)]) dX11_weak_98 rfl rfl ?_
        refine zW_iconst dX11_weak_100 ?_
        refine zW_istore (lv' := [(7, vi 0), (6, vi 0), (0, .ref (zad X (0, 0, 0))), (1, vi v1)]) dX11_weak_101 rfl rfl ?_
        refine zW_sub [2, 3, 1, 0] rfl ?_
        refine tX11_weak_l103 hw o h1 (s0 := (0, 0, x12.2)) hf (fun x16 hf => ?_)
        refine zW_iload 0 dX11_weak_148 rfl ?_
        exact zR_i hw rfl dX11_weak_150 hf
theorem kX11_weak {X : zX} {e : Nat → Prop} (hw : zWf X e) {v1 : Int} {v2 : Int} {v3 : Int} (o : zOk e (0, 0, 0)) (h1 : e 1) {I : zMem} {u : (Int × zMem)} (hf : fX11_weak v1 v2 v3 I = some u) : zCn X mX11_weak yX11_weak [.ref (zad X (0, 0, 0)), vi v1, vi v2, vi v3] I (some (vi u.1), u.2) := zCn_of (by decide +kernel) rfl rfl ⟨rfl, rfl⟩ (tX11_weak_0 hw.N o h1 hf)
set_option maxRecDepth 100000 in
theorem tX11_link_0 {X : zX} {e : Nat → Prop} (hw : zWf X e) {v1 : Int} {v2 : Int} {v3 : Int} {v4 : Int} {v5 : Int} (o : zOk e (0, 0, 0)) (h1 : e 1) {I : zMem} {u : (Int × zMem)} (hf : fX11_link v1 v2 v3 v4 v5 I = some u) : zW X (some (vi u.1), u.2) mX11_link 0 [(0, .ref (zad X (0, 0, 0))), (1, vi v1), (2, vi v2), (3, vi v3), (4, vi v4), (5, vi v5)] [] I := by
  unfold fX11_link at hf
  refine zW_iload_n 1 dX11_link_0 rfl ?_
  refine zW_iconst dX11_link_1 ?_
  refine zF_icmp_lt 32 dX11_link_2 rfl rfl (w32_lit _ rfl) hf (fun c hf => ?_) (fun c hf => ?_)
  · refine zW_bipush dX11_link_32 rfl ?_
    exact zR_i hw rfl dX11_link_34 hf
  · refine zW_iload_n 1 dX11_link_5 rfl ?_
    refine zW_bipush dX11_link_6 rfl ?_
    refine zF_icmp_gt 32 dX11_link_8 rfl rfl (w32_lit _ rfl) hf (fun c hf => ?_) (fun c hf => ?_)
    · refine zW_bipush dX11_link_32 rfl ?_
      exact zR_i hw rfl dX11_link_34 hf
    · refine zW_iload_n 2 dX11_link_11 rfl ?_
      refine zW_iconst dX11_link_12 ?_
      refine zF_icmp_lt 32 dX11_link_13 rfl rfl (w32_lit _ rfl) hf (fun c hf => ?_) (fun c hf => ?_)
      · refine zW_bipush dX11_link_32 rfl ?_
        exact zR_i hw rfl dX11_link_34 hf
      · refine zW_iload_n 2 dX11_link_16 rfl ?_
        refine zW_iconst dX11_link_17 ?_
        refine zF_icmp_gt 32 dX11_link_18 rfl rfl (w32_lit _ rfl) hf (fun c hf => ?_) (fun c hf => ?_)
        · refine zW_bipush dX11_link_32 rfl ?_
          exact zR_i hw rfl dX11_link_34 hf
        · refine zW_iload_n 3 dX11_link_21 rfl ?_
          refine zW_iconst dX11_link_22 ?_
          refine zF_icmp_lt 32 dX11_link_23 rfl rfl (w32_lit _ rfl) hf (fun c hf => ?_) (fun c hf => ?_)
          · refine zW_bipush dX11_link_32 rfl ?_
            exact zR_i hw rfl dX11_link_34 hf
          · refine zW_iload_n 3 dX11_link_26 rfl ?_
            refine zW_bipush dX11_link_27 rfl ?_
            refine zF_icmp_le 35 dX11_link_29 rfl rfl (w32_lit _ rfl) hf (fun c hf => ?_) (fun c hf => ?_)
            · refine zW_iload 4 dX11_link_35 rfl ?_
              refine zW_iconst dX11_link_37 ?_
              refine zF_icmp_lt 62 dX11_link_38 rfl rfl (w32_lit _ rfl) hf (fun c hf => ?_) (fun c hf => ?_)
              · refine zW_bipush dX11_link_62 rfl ?_
                exact zR_i hw rfl dX11_link_64 hf
              · refine zW_iload 4 dX11_link_41 rfl ?_
                refine zW_bipush dX11_link_43 rfl ?_
                refine zF_icmp_gt 62 dX11_link_45 rfl rfl (w32_lit _ rfl) hf (fun c hf => ?_) (fun c hf => ?_)
                · refine zW_bipush dX11_link_62 rfl ?_
                  exact zR_i hw rfl dX11_link_64 hf
                · refine zW_iload 5 dX11_link_48 rfl ?_
                  refine zW_bipush dX11_link_50 rfl ?_
                  refine zF_icmp_lt 62 dX11_link_52 rfl rfl (w32_lit _ rfl) hf (fun c hf => ?_) (fun c hf => ?_)
                  · refine zW_bipush dX11_link_62 rfl ?_
                    exact zR_i hw rfl dX11_link_64 hf
                  · refine zW_iload 5 dX11_link_55 rfl ?_
                    refine zW_bipush dX11_link_57 rfl ?_
                    refine zF_icmp_le 65 dX11_link_59 rfl rfl (w32_lit _ rfl) hf (fun c hf => ?_) (fun c hf => ?_)
                    · refine zW_aload_n 0 dX11_link_65 rfl ?_
                      refine zW_getR (q' := (7, 1, 0)) lk_RX11_56 (hw.1 _ o) rfl rfl (hw.2.1 _ _ _ o rfl) dX11_link_66 ?_
                      refine zC_Vwv (As := []) (fun x hx => kX4_begin hw (L := 1) (zok1 (r' := 7) h1 rfl) hx) mv_RX11_167 (hw.1 _ (zok1 (r' := 7) h1 rfl)) rfl rfl rfl rfl rfl dX11_link_69 hf (fun r1 hf => ?_)
                      refine zW_aload_n 0 dX11_link_72 rfl ?_
                      refine zW_getR (q' := (7, 1, 0)) lk_RX11_56 (hw.1 _ o) rfl rfl (hw.2.1 _ _ _ o rfl) dX11_link_73 ?_
                      refine zW_iload_n 1 dX11_link_76 rfl ?_
                      refine zF_put lk_RX11_170 (hw.1 _ (zok1 (r' := 7) h1 rfl)) rfl rfl (zn_int _) dX11_link_77 hf (fun I2 hf => ?_)
                      refine zW_aload_n 0 dX11_link_80 rfl ?_
                      refine zW_getR (q' := (7, 1, 0)) lk_RX11_56 (hw.1 _ o) rfl rfl (hw.2.1 _ _ _ o rfl) dX11_link_81 ?_
                      refine zW_iload_n 2 dX11_link_84 rfl ?_
                      refine zF_put lk_RX11_173 (hw.1 _ (zok1 (r' := 7) h1 rfl)) rfl rfl (zn_int _) dX11_link_85 hf (fun I3 hf => ?_)
                      refine zW_aload_n 0 dX11_link_88 rfl ?_
                      refine zW_getR (q' := (7, 1, 0)) lk_RX11_56 (hw.1 _ o) rfl rfl (hw.2.1 _ _ _ o rfl) dX11_link_89 ?_
                      refine zW_iload_n 3 dX11_link_92 rfl ?_
                      refine zF_put lk_RX11_176 (hw.1 _ (zok1 (r' := 7) h1 rfl)) rfl rfl (zn_int _) dX11_link_93 hf (fun I4 hf => ?_)
                      refine zW_aload_n 0 dX11_link_96 rfl ?_
                      refine zW_getR (q' := (7, 1, 0)) lk_RX11_56 (hw.1 _ o) rfl rfl (hw.2.1 _ _ _ o rfl) dX11_link_97 ?_
                      refine zW_iload 4 dX11_link_100 rfl ?_
                      refine zF_put lk_RX11_179 (hw.1 _ (zok1 (r' := 7) h1 rfl)) rfl rfl (zn_int _) dX11_link_102 hf (fun I5 hf => ?_)
                      refine zW_aload_n 0 dX11_link_105 rfl ?_
                      refine zW_getR (q' := (7, 1, 0)) lk_RX11_56 (hw.1 _ o) rfl rfl (hw.2.1 _ _ _ o rfl) dX11_link_106 ?_
                      refine zW_iload 5 dX11_link_109 rfl ?_
                      refine zF_put lk_RX11_94 (hw.1 _ (zok1 (r' := 7) h1 rfl)) rfl rfl (zn_int _) dX11_link_111 hf (fun I6 hf => ?_)
                      refine zW_iconst dX11_link_114 ?_
                      exact zR_i hw rfl dX11_link_115 hf
                    · refine zW_bipush dX11_link_62 rfl ?_
                      exact zR_i hw rfl dX11_link_64 hf
            · refine zW_bipush dX11_link_32 rfl ?_
              exact zR_i hw rfl dX11_link_34 hf
theorem kX11_link {X : zX} {e : Nat → Prop} (hw : zWf X e) {v1 : Int} {v2 : Int} {v3 : Int} {v4 : Int} {v5 : Int} (o : zOk e (0, 0, 0)) (h1 : e 1) {I : zMem} {u : (Int × zMem)} (hf : fX11_link v1 v2 v3 v4 v5 I = some u) : zCn X mX11_link yX11_link [.ref (zad X (0, 0, 0)), vi v1, vi v2, vi v3, vi v4, vi v5] I (some (vi u.1), u.2) := zCn_of (by decide +kernel) rfl rfl ⟨rfl, rfl⟩ (tX11_link_0 hw.N o h1 hf)
set_option maxRecDepth 100000 in
theorem tX11_limit_0 {X : zX} {e : Nat → Prop} (hw : zWf X e) {v1 : Int} (o : zOk e (0, 0, 0)) (h1 : e 1) {I : zMem} {u : (Int × zMem)} (hf : fX11_limit v1 I = some u) : zW X (some (vi u.1), u.2) mX11_limit 0 [(0, .ref (zad X (0, 0, 0))), (1, vi v1)] [] I := by
  unfold fX11_limit at hf
  refine zW_iload_n 1 dX11_limit_0 rfl ?_
  refine zW_iconst dX11_limit_1 ?_
  refine zF_icmp_lt 12 dX11_limit_2 rfl rfl (w32_lit _ rfl) hf (fun c hf => ?_) (fun c hf => ?_)
  · refine zW_bipush dX11_limit_12 rfl ?_
    exact zR_i hw rfl dX11_limit_14 hf
  · refine zW_iload_n 1 dX11_limit_5 rfl ?_
    refine zW_sipush dX11_limit_6 rfl ?_
    refine zF_icmp_le 15 dX11_limit_9 rfl rfl (w32_lit _ rfl) hf (fun c hf => ?_) (fun c hf => ?_)
    · refine zW_aload_n 0 dX11_limit_15 rfl ?_
      refine zW_getR (q' := (7, 1, 0)) lk_RX11_56 (hw.1 _ o) rfl rfl (hw.2.1 _ _ _ o rfl) dX11_limit_16 ?_
      refine zW_getI lk_RX11_182 (hw.1 _ (zok1 (r' := 7) h1 rfl)) rfl rfl dX11_limit_19 ?_
      refine zF_istore_n (lv' := fun a1 => [(2, vi a1), (0, .ref (zad X (0, 0, 0))), (1, vi v1)]) dX11_limit_22 hf (fun _ => rfl) rfl (fun a1 hf => ?_)
      refine zW_aload_n 1 dX11_limit_23 rfl ?_
      refine zW_getR (q' := (7, 1, 0)) lk_RX11_56 (hw.1 _ o) rfl rfl (hw.2.1 _ _ _ o rfl) dX11_limit_24 ?_
      refine zW_iload_n 2 dX11_limit_27 rfl ?_
      refine zF_put lk_RX11_182 (hw.1 _ (zok1 (r' := 7) h1 rfl)) rfl rfl (zn_int _) dX11_limit_28 hf (fun I2 hf => ?_)
      refine zW_iload_n 0 dX11_limit_31 rfl ?_
      exact zR_i hw rfl dX11_limit_32 hf
    · refine zW_bipush dX11_limit_12 rfl ?_
      exact zR_i hw rfl dX11_limit_14 hf
theorem kX11_limit {X : zX} {e : Nat → Prop} (hw : zWf X e) {v1 : Int} (o : zOk e (0, 0, 0)) (h1 : e 1) {I : zMem} {u : (Int × zMem)} (hf : fX11_limit v1 I = some u) : zCn X mX11_limit yX11_limit [.ref (zad X (0, 0, 0)), vi v1] I (some (vi u.1), u.2) := zCn_of (by decide +kernel) rfl rfl ⟨rfl, rfl⟩ (tX11_limit_0 hw.N o h1 hf)
set_option maxRecDepth 100000 in
theorem tX11_fade_0 {X : zX} {e : Nat → Prop} (hw : zWf X e) {v1 : Int} (o : zOk e (0, 0, 0)) (h1 : e 1) {I : zMem} {u : (Int × zMem)} (hf : fX11_fade v1 I = some u) : zW X (some (vi u.1), u.2) mX11_fade 0 [(0, .ref (zad X (0, 0, 0))), (1, vi v1)] [] I := by
  unfold fX11_fade at hf
  refine zW_iload_n 1 dX11_fade_0 rfl ?_
  refine zF_if_lt 10 dX11_fade_1 rfl rfl hf (fun c hf => ?_) (fun c hf => ?_)
  · refine zW_bipush dX11_fade_10 rfl ?_
    exact zR_i hw rfl dX11_fade_12 hf
  · refine zW_iload_n 1 dX11_fade_4 rfl ?_
    refine zW_bipush dX11_fade_5 rfl ?_
    refine zF_icmp_le 13 dX11_fade_7 rfl rfl (w32_lit _ rfl) hf (fun c hf => ?_) (fun c hf => ?_)
    · refine zW_aload_n 0 dX11_fade_13 rfl ?_
      refine zW_getR (q' := (7, 1, 0)) lk_RX11_56 (hw.1 _ o) rfl rfl (hw.2.1 _ _ _ o rfl) dX11_fade_14 ?_
      refine zW_getI lk_RX11_185 (hw.1 _ (zok1 (r' := 7) h1 rfl)) rfl rfl dX11_fade_17 ?_
      refine zF_istore_n (lv' := fun a1 => [(2, vi a1), (0, .ref (zad X (0, 0, 0))), (1, vi v1)]) dX11_fade_20 hf (fun _ => rfl) rfl (fun a1 hf => ?_)
      refine zW_aload_n 1 dX11_fade_21 rfl ?_
      refine zW_getR (q' := (7, 1, 0)) lk_RX11_56 (hw.1 _ o) rfl rfl (hw.2.1 _ _ _ o rfl) dX11_fade_22 ?_
      refine zW_iload_n 2 dX11_fade_25 rfl ?_
      refine zF_put lk_RX11_185 (hw.1 _ (zok1 (r' := 7) h1 rfl)) rfl rfl (zn_int _) dX11_fade_26 hf (fun I2 hf => ?_)
      refine zW_iload_n 0 dX11_fade_29 rfl ?_
      exact zR_i hw rfl dX11_fade_30 hf
    · refine zW_bipush dX11_fade_10 rfl ?_
      exact zR_i hw rfl dX11_fade_12 hf
theorem kX11_fade {X : zX} {e : Nat → Prop} (hw : zWf X e) {v1 : Int} (o : zOk e (0, 0, 0)) (h1 : e 1) {I : zMem} {u : (Int × zMem)} (hf : fX11_fade v1 I = some u) : zCn X mX11_fade yX11_fade [.ref (zad X (0, 0, 0)), vi v1] I (some (vi u.1), u.2) := zCn_of (by decide +kernel) rfl rfl ⟨rfl, rfl⟩ (tX11_fade_0 hw.N o h1 hf)
set_option maxRecDepth 100000 in
theorem tX11_offer_0 {X : zX} {e : Nat → Prop} (hw : zWf X e) {v1 : Int} (o : zOk e (0, 0, 0)) (h1 : e 1) {I : zMem} {u : (Int × zMem)} (hf : fX11_offer v1 I = some u) : zW X (some (vi u.1), u.2) mX11_offer 0 [(0, .ref (zad X (0, 0, 0))), (1, vi v1)] [] I := by
  unfold fX11_offer at hf
  refine zW_iload_n 1 dX11_offer_0 rfl ?_
  refine zF_if_lt 10 dX11_offer_1 rfl rfl hf (fun c hf => ?_) (fun c hf => ?_)
  · refine zW_bipush dX11_offer_10 rfl ?_
    exact zR_i hw rfl dX11_offer_12 hf
  · refine zW_iload_n 1 dX11_offer_4 rfl ?_
    refine zW_bipush dX11_offer_5 rfl ?_
    refine zF_icmp_le 13 dX11_offer_7 rfl rfl (w32_lit _ rfl) hf (fun c hf => ?_) (fun c hf => ?_)
    · refine zW_aload_n 0 dX11_offer_13 rfl ?_
      refine zW_getR (q' := (7, 1, 0)) lk_RX11_56 (hw.1 _ o) rfl rfl (hw.2.1 _ _ _ o rfl) dX11_offer_14 ?_
      refine zW_getR (q' := (8, 1, 0)) lk_RX11_188 (hw.1 _ (zok1 (r' := 7) h1 rfl)) rfl rfl (hw.2.1 _ _ _ (zok1 (r' := 7) h1 rfl) rfl) dX11_offer_17 ?_
      refine zW_astore_n (lv' := [(2, .ref (zad X (8, 1, 0))), (0, .ref (zad X (0, 0, 0))), (1, vi v1)]) dX11_offer_20 rfl rfl ?_
      refine zW_aload_n 0 dX11_offer_21 rfl ?_
      refine zW_getI lk_RX11_192 (hw.1 _ (zokB (r' := 8) (zok1 (r' := 7) h1 rfl) rfl rfl)) rfl rfl dX11_offer_22 ?_
      refine zW_bipush dX11_offer_25 rfl ?_
      refine zF_icmp_lt 33 dX11_offer_27 rfl rfl (w32_lit _ rfl) hf (fun c hf => ?_) (fun c hf => ?_)
      · refine zW_aload_n 0 dX11_offer_33 rfl ?_
        refine zW_getR (q' := (33, 1, 0)) lk_RX11_197 (hw.1 _ (zokB (r' := 8) (zok1 (r' := 7) h1 rfl) rfl rfl)) rfl rfl (hw.2.1 _ _ _ (zokB (r' := 8) (zok1 (r' := 7) h1 rfl) rfl rfl) rfl) dX11_offer_34 ?_
        refine zW_aload_n 0 dX11_offer_37 rfl ?_
        refine zW_getI lk_RX11_192 (hw.1 _ (zokB (r' := 8) (zok1 (r' := 7) h1 rfl) rfl rfl)) rfl rfl dX11_offer_38 ?_
        refine zW_iload_n 2 dX11_offer_41 rfl ?_
        obtain ⟨c1, hf⟩ := zgd hf
        refine zF_iast (hw.1 _ (zokB (r' := 33) (zokB (r' := 8) (zok1 (r' := 7) h1 rfl) rfl rfl) rfl rfl)) rfl c1 rfl dX11_offer_42 hf (fun I2 hf => ?_)
        refine zW_aload_n 0 dX11_offer_43 rfl ?_
        refine zW_dup dX11_offer_44 rfl ?_
        refine zW_getI lk_RX11_192 (hw.1 _ (zokB (r' := 8) (zok1 (r' := 7) h1 rfl) rfl rfl)) rfl rfl dX11_offer_45 ?_
        refine zW_iconst dX11_offer_48 ?_
        refine zW_iadd dX11_offer_49 ?_
        refine zF_put lk_RX11_192 (hw.1 _ (zokB (r' := 8) (zok1 (r' := 7) h1 rfl) rfl rfl)) rfl rfl (zn_int _) dX11_offer_50 hf (fun I3 hf => ?_)
        refine zW_aload_n 0 dX11_offer_53 rfl ?_
        refine zW_getI lk_RX11_192 (hw.1 _ (zokB (r' := 8) (zok1 (r' := 7) h1 rfl) rfl rfl)) rfl rfl dX11_offer_54 ?_
        exact zR_i hw rfl dX11_offer_57 hf
      · refine zW_bipush dX11_offer_30 rfl ?_
        exact zR_i hw rfl dX11_offer_32 hf
    · refine zW_bipush dX11_offer_10 rfl ?_
      exact zR_i hw rfl dX11_offer_12 hf
theorem kX11_offer {X : zX} {e : Nat → Prop} (hw : zWf X e) {v1 : Int} (o : zOk e (0, 0, 0)) (h1 : e 1) {I : zMem} {u : (Int × zMem)} (hf : fX11_offer v1 I = some u) : zCn X mX11_offer yX11_offer [.ref (zad X (0, 0, 0)), vi v1] I (some (vi u.1), u.2) := zCn_of (by decide +kernel) rfl rfl ⟨rfl, rfl⟩ (tX11_offer_0 hw.N o h1 hf)
set_option maxRecDepth 100000 in
theorem tX11_isProcess_b19 {X : zX} {e : Nat → Prop} (hw : zWf X e) {v1 : Int} {I : zMem} (o : zOk e (0, 0, 0)) (h1 : e 1) {u : Int} (hf : fX11_isProcess_b19 v1 I = some u) : zW X (some (vi u), I) mX11_isProcess 19 [] [] I := by
  unfold fX11_isProcess_b19 at hf
  refine zW_iconst dX11_isProcess_19 ?_
  exact zS_z hw rfl (Or.inl rfl) dX11_isProcess_20 hf
set_option maxRecDepth 100000 in
theorem tX11_isProcess_0 {X : zX} {e : Nat → Prop} (hw : zWf X e) {v1 : Int} (o : zOk e (0, 0, 0)) (h1 : e 1) {I : zMem} {u : Int} (hf : fX11_isProcess v1 I = some u) : zW X (some (vi u), I) mX11_isProcess 0 [(0, .ref (zad X (0, 0, 0))), (1, vi v1)] [] I := by
  unfold fX11_isProcess at hf
  refine zW_iload_n 1 dX11_isProcess_0 rfl ?_
  refine zF_if_lt 19 dX11_isProcess_1 rfl rfl hf (fun c hf => ?_) (fun c hf => ?_)
  · refine zW_sub [] rfl ?_
    exact tX11_isProcess_b19 hw o h1 hf
  · refine zW_iload_n 1 dX11_isProcess_4 rfl ?_
    refine zW_aload_n 0 dX11_isProcess_5 rfl ?_
    refine zW_getR (q' := (7, 1, 0)) lk_RX11_56 (hw.1 _ o) rfl rfl (hw.2.1 _ _ _ o rfl) dX11_isProcess_6 ?_
    refine zW_getI lk_RX11_170 (hw.1 _ (zok1 (r' := 7) h1 rfl)) rfl rfl dX11_isProcess_9 ?_
    refine zF_icmp_ge 19 dX11_isProcess_12 rfl rfl rfl hf (fun c hf => ?_) (fun c hf => ?_)
    · refine zW_sub [] rfl ?_
      exact tX11_isProcess_b19 hw o h1 hf
    · refine zW_iconst dX11_isProcess_15 ?_
      refine zW_goto 20 dX11_isProcess_16 rfl ?_
      exact zS_z hw rfl (Or.inr rfl) dX11_isProcess_20 hf
theorem kX11_isProcess {X : zX} {e : Nat → Prop} (hw : zWf X e) {v1 : Int} (o : zOk e (0, 0, 0)) (h1 : e 1) {I : zMem} {u : Int} (hf : fX11_isProcess v1 I = some u) : zCn X mX11_isProcess yX11_isProcess [.ref (zad X (0, 0, 0)), vi v1] I (some (vi u), I) := zCn_of (by decide +kernel) rfl rfl ⟨rfl, rfl⟩ (tX11_isProcess_0 hw.N o h1 hf)
set_option maxRecDepth 100000 in
theorem tX11_send_b107_157 {X : zX} {e : Nat → Prop} (hw : zWf X e) {T : zT} {v1 : Int} {v2 : Int} {v3 : Int} {w4 : Int} {w6 : Int} {k0 : Int} {I : zMem} (o : zOk e (0, 0, 0)) (h1 : e 1) {u : ((Int × Int × zMem) ⊕ (Int × Int × zMem))} (hf : fX11_send_b107_157 v1 v2 v3 w4 w6 k0 I = some u) (hk : ∀ s', u = .inl s' → zW X T mX11_send 107 [(0, .ref (zad X (0, 0, 0))), (1, vi v1), (2, vi v2), (3, vi v3), (4, vi w4), (5, vi s'.1), (6, vi s'.2.1)] [] s'.2.2) (hx : ∀ x, u = .inr x → zW X T mX11_send 165 [(0, .ref (zad X (0, 0, 0))), (1, vi v1), (2, vi v2)] [] x.2.2) : zW X T mX11_send 157 [(0, .ref (zad X (0, 0, 0))), (1, vi v1), (2, vi v2), (3, vi v3), (4, vi w4), (6, vi w6)] [vi k0] I := by
  unfold fX11_send_b107_157 at hf
  refine zW_istore (lv' := [(5, vi k0), (0, .ref (zad X (0, 0, 0))), (1, vi v1), (2, vi v2), (3, vi v3), (4, vi w4), (6, vi w6)]) dX11_send_157 rfl rfl ?_
  refine zW_iinc 6 (lv' := [(6, vi (w6 + 1)), (5, vi k0), (0, .ref (zad X (0, 0, 0))), (1, vi v1), (2, vi v2), (3, vi v3), (4, vi w4)]) dX11_send_159 rfl rfl rfl ?_
  refine zW_goto 107 dX11_send_162 rfl ?_
  refine zW_sub [2, 3, 4, 5, 6, 1, 0] rfl ?_
  exact hk _ (Option.some.inj hf).symm
set_option maxRecDepth 100000 in
theorem tX11_send_l107_y {X : zX} {e : Nat → Prop} (hw : zWf X e) {T : zT} {v1 : Int} {v2 : Int} {v3 : Int} {w4 : Int} (o : zOk e (0, 0, 0)) (h1 : e 1) (s : (Int × Int × zMem)) {u : ((Int × Int × zMem) ⊕ (Int × Int × zMem))} (hf : fX11_send_l107 v1 v2 v3 w4 s = some u) (hk : ∀ s', u = .inl s' → zW X T mX11_send 107 [(0, .ref (zad X (0, 0, 0))), (1, vi v1), (2, vi v2), (3, vi v3), (4, vi w4), (5, vi s'.1), (6, vi s'.2.1)] [] s'.2.2) (hx : ∀ x, u = .inr x → zW X T mX11_send 165 [(0, .ref (zad X (0, 0, 0))), (1, vi v1), (2, vi v2)] [] x.2.2) : zW X T mX11_send 107 [(0, .ref (zad X (0, 0, 0))), (1, vi v1), (2, vi v2), (3, vi v3), (4, vi w4), (5, vi s.1), (6, vi s.2.1)] [] s.2.2 := by
  unfold fX11_send_l107 at hf
  refine zW_iload 6 dX11_send_107 rfl ?_
  refine zW_iload_n 2 dX11_send_109 rfl ?_
  refine zF_icmp_ge 165 dX11_send_110 rfl rfl rfl hf (fun c hf => ?_) (fun c hf => ?_)
  · refine zW_sub [0, 1, 2] rfl ?_
    exact hx _ (Option.some.inj hf).symm
  · refine zW_iload 4 dX11_send_113 rfl ?_
    refine zF_if_le 165 dX11_send_115 rfl rfl hf (fun c hf => ?_) (fun c hf => ?_)
    · refine zW_sub [0, 1, 2] rfl ?_
      exact hx _ (Option.some.inj hf).symm
    · refine zW_aload_n 0 dX11_send_118 rfl ?_
      refine zW_getR (q' := (5, 0, 0)) lk_RX11_42 (hw.1 _ o) rfl rfl (hw.2.1 _ _ _ o rfl) dX11_send_119 ?_
      refine zW_getR (q' := (28, 0, 0)) lk_RX11_215 (hw.1 _ (zokA (r' := 5) o rfl rfl)) rfl rfl (hw.2.1 _ _ _ (zokA (r' := 5) o rfl rfl) rfl) dX11_send_122 ?_
      refine zW_iload 6 dX11_send_125 rfl ?_
      refine zW_aload_n 0 dX11_send_127 rfl ?_
      refine zW_getR (q' := (6, 0, 0)) lk_RX11_49 (hw.1 _ o) rfl rfl (hw.2.1 _ _ _ o rfl) dX11_send_128 ?_
      refine zW_getR (q' := (29, 0, 0)) lk_RX11_218 (hw.1 _ (zokA (r' := 6) o rfl rfl)) rfl rfl (hw.2.1 _ _ _ (zokA (r' := 6) o rfl rfl) rfl) dX11_send_131 ?_
      refine zW_iload_n 3 dX11_send_134 rfl ?_
      obtain ⟨c5, hf⟩ := zgd hf
      refine zW_aald (q' := (30, 0, ix v3)) 7 rfl rfl (hw.1 _ (zokA (r' := 29) (zokA (r' := 6) o rfl rfl) rfl rfl)) rfl rfl c5 (hw.2.1 _ _ _ (zokA (r' := 29) (zokA (r' := 6) o rfl rfl) rfl rfl) rfl) dX11_send_135 ?_
      refine zW_iload 5 dX11_send_136 rfl ?_
      obtain ⟨c6, hf⟩ := zgd hf
      refine zF_bald (hw.1 _ (zokT (r' := 30) (zokA (r' := 29) (zokA (r' := 6) o rfl rfl) rfl rfl) rfl rfl c5)) rfl c6 rfl dX11_send_138 ?_
      obtain ⟨c7, hf⟩ := zgd hf
      refine zF_iast (hw.1 _ (zokA (r' := 28) (zokA (r' := 5) o rfl rfl) rfl rfl)) rfl c7 rfl dX11_send_139 hf (fun I8 hf => ?_)
      refine zW_iload 5 dX11_send_140 rfl ?_
      refine zW_iconst dX11_send_142 ?_
      refine zW_iadd dX11_send_143 ?_
      refine zW_iload 4 dX11_send_144 rfl ?_
      refine zF_icmp_ge 156 dX11_send_146 rfl rfl rfl hf (fun c hf => ?_) (fun c hf => ?_)
      · refine zW_iconst dX11_send_156 ?_
        refine zW_sub [0, 1, 2, 3, 4, 6] rfl ?_
        exact tX11_send_b107_157 hw o h1 hf hk hx
      · refine zW_iload 5 dX11_send_149 rfl ?_
        refine zW_iconst dX11_send_151 ?_
        refine zW_iadd dX11_send_152 ?_
        refine zW_goto 157 dX11_send_153 rfl ?_
        refine zW_sub [0, 1, 2, 3, 4, 6] rfl ?_
        exact tX11_send_b107_157 hw o h1 hf hk hx
theorem tX11_send_l107 {X : zX} {e : Nat → Prop} (hw : zWf X e) {T : zT} {v1 : Int} {v2 : Int} {v3 : Int} {w4 : Int} (o : zOk e (0, 0, 0)) (h1 : e 1) {s0 : (Int × Int × zMem)} {α : Type} {F : (Int × Int × zMem) → Option α} {u : α} (hf : zb (zlp (fX11_send_l107 v1 v2 v3 w4) 5000 s0) F = some u) (kx : ∀ x, F x = some u → zW X T mX11_send 165 [(0, .ref (zad X (0, 0, 0))), (1, vi v1), (2, vi v2)] [] x.2.2) : zW X T mX11_send 107 [(0, .ref (zad X (0, 0, 0))), (1, vi v1), (2, vi v2), (3, vi v3), (4, vi w4), (5, vi s0.1), (6, vi s0.2.1)] [] s0.2.2 := by
  obtain ⟨x, h, hf⟩ := zb_inv hf
  exact zlp_W (P := fun s => zW X T mX11_send 107 [(0, .ref (zad X (0, 0, 0))), (1, vi v1), (2, vi v2), (3, vi v3), (4, vi w4), (5, vi s.1), (6, vi s.2.1)] [] s.2.2) (E := fun x => zW X T mX11_send 165 [(0, .ref (zad X (0, 0, 0))), (1, vi v1), (2, vi v2)] [] x.2.2) (fun s u h hk hx => tX11_send_l107_y hw o h1 s h hk hx) _ s0 x h (kx x hf)
set_option maxRecDepth 100000 in
theorem tX11_send_b92 {X : zX} {e : Nat → Prop} (hw : zWf X e) {v1 : Int} {v2 : Int} {v3 : Int} {k0 : Int} {I : zMem} (o : zOk e (0, 0, 0)) (h1 : e 1) {u : (Int × zMem)} (hf : fX11_send_b92 v1 v2 v3 k0 I = some u) : zW X (some (vi u.1), u.2) mX11_send 92 [(0, .ref (zad X (0, 0, 0))), (1, vi v1), (2, vi v2), (3, vi v3)] [vi k0] I := by
  unfold fX11_send_b92 at hf
  refine zW_istore (lv' := [(4, vi k0), (0, .ref (zad X (0, 0, 0))), (1, vi v1), (2, vi v2), (3, vi v3)]) dX11_send_92 rfl rfl ?_
  refine zW_aload_n 1 dX11_send_94 rfl ?_
  refine zW_getR (q' := (5, 0, 0)) lk_RX11_42 (hw.1 _ o) rfl rfl (hw.2.1 _ _ _ o rfl) dX11_send_95 ?_
  refine zC_Vwv (As := []) (fun x hx => kX0_quiet hw (zokA (r' := 5) o rfl rfl) hx) mv_RX11_212 (hw.1 _ (zokA (r' := 5) o rfl rfl)) rfl rfl rfl rfl rfl dX11_send_98 hf (fun r4 hf => ?_)
  refine zW_iconst dX11_send_101 ?_
  refine zW_istore (lv' := [(5, vi 0), (4, vi k0), (0, .ref (zad X (0, 0, 0))), (1, vi v1), (2, vi v2), (3, vi v3)]) dX11_send_102 rfl rfl ?_
  refine zW_iconst dX11_send_104 ?_
  refine zW_istore (lv' := [(6, vi 0), (5, vi 0), (4, vi k0), (0, .ref (zad X (0, 0, 0))), (1, vi v1), (2, vi v2), (3, vi v3)]) dX11_send_105 rfl rfl ?_
  refine zW_sub [3, 4, 5, 6, 2, 1, 0] rfl ?_
  refine tX11_send_l107 hw o h1 (s0 := (0, 0, r4)) hf (fun x9 hf => ?_)
  refine zW_aload_n 0 dX11_send_165 rfl ?_
  refine zW_getR (q' := (5, 0, 0)) lk_RX11_42 (hw.1 _ o) rfl rfl (hw.2.1 _ _ _ o rfl) dX11_send_166 ?_
  refine zW_aload_n 0 dX11_send_169 rfl ?_
  refine zW_getR (q' := (7, 1, 0)) lk_RX11_56 (hw.1 _ o) rfl rfl (hw.2.1 _ _ _ o rfl) dX11_send_170 ?_
  refine zW_iload_n 1 dX11_send_173 rfl ?_
  refine zW_iload_n 2 dX11_send_174 rfl ?_
  refine zW_iconst dX11_send_175 ?_
  refine zC_Vwi (As := [.ref (zad X (7, 1, 0)), vi v1, vi v2, vi 1]) (fun x hx => kX0_transmit hw (L2 := 1) (v2 := v1) (v3 := v2) (v4 := 1) (zokA (r' := 5) o rfl rfl) (zok1 (r' := 7) h1 rfl) hx) mv_RX11_222 (hw.1 _ (zokA (r' := 5) o rfl rfl)) rfl rfl rfl rfl rfl dX11_send_176 hf (fun r10 hf => ?_)
  exact zR_i hw rfl dX11_send_179 hf
set_option maxRecDepth 100000 in
theorem tX11_send_b50 {X : zX} {e : Nat → Prop} (hw : zWf X e) {v1 : Int} {v2 : Int} {v3 : Int} {I : zMem} (o : zOk e (0, 0, 0)) (h1 : e 1) {u : (Int × zMem)} (hf : fX11_send_b50 v1 v2 v3 I = some u) : zW X (some (vi u.1), u.2) mX11_send 50 [(0, .ref (zad X (0, 0, 0))), (1, vi v1), (2, vi v2), (3, vi v3)] [] I := by
  unfold fX11_send_b50 at hf
  refine zW_aload_n 0 dX11_send_50 rfl ?_
  refine zW_getR (q' := (7, 1, 0)) lk_RX11_56 (hw.1 _ o) rfl rfl (hw.2.1 _ _ _ o rfl) dX11_send_51 ?_
  refine zW_getR (q' := (8, 1, 0)) lk_RX11_188 (hw.1 _ (zok1 (r' := 7) h1 rfl)) rfl rfl (hw.2.1 _ _ _ (zok1 (r' := 7) h1 rfl) rfl) dX11_send_54 ?_
  refine zW_iload_n 1 dX11_send_57 rfl ?_
  refine zW_aload_n 0 dX11_send_58 rfl ?_
  refine zW_getR (q' := (7, 1, 0)) lk_RX11_56 (hw.1 _ o) rfl rfl (hw.2.1 _ _ _ o rfl) dX11_send_59 ?_
  refine zW_getI lk_RX11_173 (hw.1 _ (zok1 (r' := 7) h1 rfl)) rfl rfl dX11_send_62 ?_
  refine zC_Vri (As := [vi v1, vi (I (7, 1, 0) 1)]) (fun x hx => kX7_isAble hw (L := 1) (v1 := v1) (v2 := I (7, 1, 0) 1) (zokB (r' := 8) (zok1 (r' := 7) h1 rfl) rfl rfl) hx) mv_RX11_206 (hw.1 _ (zokB (r' := 8) (zok1 (r' := 7) h1 rfl) rfl rfl)) rfl rfl rfl rfl rfl dX11_send_65 hf (fun r3 hf => ?_)
  refine zF_if_ne 74 dX11_send_68 rfl rfl hf (fun c hf => ?_) (fun c hf => ?_)
  · refine zW_bipush dX11_send_71 rfl ?_
    exact zR_i hw rfl dX11_send_73 hf
  · refine zW_iload_n 3 dX11_send_74 rfl ?_
    refine zW_iconst dX11_send_75 ?_
    refine zF_icmp_ne 83 dX11_send_76 rfl rfl (w32_lit _ rfl) hf (fun c hf => ?_) (fun c hf => ?_)
    · refine zW_iconst dX11_send_79 ?_
      refine zW_goto 92 dX11_send_80 rfl ?_
      refine zW_sub [0, 1, 2, 3] rfl ?_
      exact tX11_send_b92 hw o h1 hf
    · refine zW_aload_n 0 dX11_send_83 rfl ?_
      refine zW_getR (q' := (6, 0, 0)) lk_RX11_49 (hw.1 _ o) rfl rfl (hw.2.1 _ _ _ o rfl) dX11_send_84 ?_
      refine zW_getR (q' := (31, 0, 0)) lk_RX11_209 (hw.1 _ (zokA (r' := 6) o rfl rfl)) rfl rfl (hw.2.1 _ _ _ (zokA (r' := 6) o rfl rfl) rfl) dX11_send_87 ?_
      refine zW_iload_n 3 dX11_send_90 rfl ?_
      obtain ⟨c11, hf⟩ := zgd hf
      refine zF_iald (hw.1 _ (zokA (r' := 31) (zokA (r' := 6) o rfl rfl) rfl rfl)) rfl c11 rfl dX11_send_91 ?_
      refine zW_sub [0, 1, 2, 3] rfl ?_
      exact tX11_send_b92 hw o h1 hf
set_option maxRecDepth 100000 in
theorem tX11_send_0 {X : zX} {e : Nat → Prop} (hw : zWf X e) {v1 : Int} {v2 : Int} {v3 : Int} (o : zOk e (0, 0, 0)) (h1 : e 1) {I : zMem} {u : (Int × zMem)} (hf : fX11_send v1 v2 v3 I = some u) : zW X (some (vi u.1), u.2) mX11_send 0 [(0, .ref (zad X (0, 0, 0))), (1, vi v1), (2, vi v2), (3, vi v3)] [] I := by
  unfold fX11_send at hf
  refine zW_aload_n 0 dX11_send_0 rfl ?_
  refine zW_iload_n 1 dX11_send_1 rfl ?_
  refine zC_Vri (As := [vi v1]) (fun x hx => kX11_isProcess hw (v1 := v1) o h1 hx) mv_RX11_200 (hw.1 _ o) rfl rfl rfl rfl rfl dX11_send_2 hf (fun r1 hf => ?_)
  refine zF_if_eq 18 dX11_send_5 rfl rfl hf (fun c hf => ?_) (fun c hf => ?_)
  · refine zW_bipush dX11_send_18 rfl ?_
    exact zR_i hw rfl dX11_send_20 hf
  · refine zW_iload_n 3 dX11_send_8 rfl ?_
    refine zW_iconst dX11_send_9 ?_
    refine zF_icmp_lt 18 dX11_send_10 rfl rfl (w32_lit _ rfl) hf (fun c hf => ?_) (fun c hf => ?_)
    · refine zW_bipush dX11_send_18 rfl ?_
      exact zR_i hw rfl dX11_send_20 hf
    · refine zW_iload_n 3 dX11_send_13 rfl ?_
      refine zW_iconst dX11_send_14 ?_
      refine zF_icmp_lt 21 dX11_send_15 rfl rfl (w32_lit _ rfl) hf (fun c hf => ?_) (fun c hf => ?_)
      · refine zW_iload_n 2 dX11_send_21 rfl ?_
        refine zC_Sri (As := [vi v2]) (fun x hx => kX11_isLength hw (v0 := v2)  hx) ms_RX11_104 rfl rfl rfl rfl dX11_send_22 hf (fun r2 hf => ?_)
        refine zF_if_ne 31 dX11_send_25 rfl rfl hf (fun c hf => ?_) (fun c hf => ?_)
        · refine zW_bipush dX11_send_28 rfl ?_
          exact zR_i hw rfl dX11_send_30 hf
        · refine zW_iload_n 3 dX11_send_31 rfl ?_
          refine zW_iconst dX11_send_32 ?_
          refine zF_icmp_eq 50 dX11_send_33 rfl rfl (w32_lit _ rfl) hf (fun c hf => ?_) (fun c hf => ?_)
          · refine zW_sub [0, 1, 2, 3] rfl ?_
            exact tX11_send_b50 hw o h1 hf
          · refine zW_aload_n 0 dX11_send_36 rfl ?_
            refine zW_getR (q' := (6, 0, 0)) lk_RX11_49 (hw.1 _ o) rfl rfl (hw.2.1 _ _ _ o rfl) dX11_send_37 ?_
            refine zW_iload_n 3 dX11_send_40 rfl ?_
            refine zC_Vri (As := [vi v3]) (fun x hx => kX9_isMissing hw (v1 := v3) (zokA (r' := 6) o rfl rfl) hx) mv_RX11_203 (hw.1 _ (zokA (r' := 6) o rfl rfl)) rfl rfl rfl rfl rfl dX11_send_41 hf (fun r12 hf => ?_)
            refine zF_if_eq 50 dX11_send_44 rfl rfl hf (fun c hf => ?_) (fun c hf => ?_)
            · refine zW_sub [0, 1, 2, 3] rfl ?_
              exact tX11_send_b50 hw o h1 hf
            · refine zW_bipush dX11_send_47 rfl ?_
              exact zR_i hw rfl dX11_send_49 hf
      · refine zW_bipush dX11_send_18 rfl ?_
        exact zR_i hw rfl dX11_send_20 hf
theorem kX11_send {X : zX} {e : Nat → Prop} (hw : zWf X e) {v1 : Int} {v2 : Int} {v3 : Int} (o : zOk e (0, 0, 0)) (h1 : e 1) {I : zMem} {u : (Int × zMem)} (hf : fX11_send v1 v2 v3 I = some u) : zCn X mX11_send yX11_send [.ref (zad X (0, 0, 0)), vi v1, vi v2, vi v3] I (some (vi u.1), u.2) := zCn_of (by decide +kernel) rfl rfl ⟨rfl, rfl⟩ (tX11_send_0 hw.N o h1 hf)
set_option maxRecDepth 100000 in
theorem tX11_answer_0 {X : zX} {e : Nat → Prop} (hw : zWf X e) {v1 : Int} {v2 : Int} (o : zOk e (0, 0, 0)) (h1 : e 1) {I : zMem} {u : (Int × zMem)} (hf : fX11_answer v1 v2 I = some u) : zW X (some (vi u.1), u.2) mX11_answer 0 [(0, .ref (zad X (0, 0, 0))), (1, vi v1), (2, vi v2)] [] I := by
  unfold fX11_answer at hf
  refine zW_aload_n 0 dX11_answer_0 rfl ?_
  refine zW_iload_n 1 dX11_answer_1 rfl ?_
  refine zC_Vri (As := [vi v1]) (fun x hx => kX11_isProcess hw (v1 := v1) o h1 hx) mv_RX11_200 (hw.1 _ o) rfl rfl rfl rfl rfl dX11_answer_2 hf (fun r1 hf => ?_)
  refine zF_if_ne 11 dX11_answer_5 rfl rfl hf (fun c hf => ?_) (fun c hf => ?_)
  · refine zW_bipush dX11_answer_8 rfl ?_
    exact zR_i hw rfl dX11_answer_10 hf
  · refine zW_iload_n 2 dX11_answer_11 rfl ?_
    refine zF_if_lt 20 dX11_answer_12 rfl rfl hf (fun c hf => ?_) (fun c hf => ?_)
    · refine zW_bipush dX11_answer_20 rfl ?_
      exact zR_i hw rfl dX11_answer_22 hf
    · refine zW_iload_n 2 dX11_answer_15 rfl ?_
      refine zW_iconst dX11_answer_16 ?_
      refine zF_icmp_le 23 dX11_answer_17 rfl rfl (w32_lit _ rfl) hf (fun c hf => ?_) (fun c hf => ?_)
      · refine zW_aload_n 0 dX11_answer_23 rfl ?_
        refine zW_getR (q' := (7, 1, 0)) lk_RX11_56 (hw.1 _ o) rfl rfl (hw.2.1 _ _ _ o rfl) dX11_answer_24 ?_
        refine zW_getR (q' := (8, 1, 0)) lk_RX11_188 (hw.1 _ (zok1 (r' := 7) h1 rfl)) rfl rfl (hw.2.1 _ _ _ (zok1 (r' := 7) h1 rfl) rfl) dX11_answer_27 ?_
        refine zW_getR (q' := (32, 1, 0)) lk_RX11_226 (hw.1 _ (zokB (r' := 8) (zok1 (r' := 7) h1 rfl) rfl rfl)) rfl rfl (hw.2.1 _ _ _ (zokB (r' := 8) (zok1 (r' := 7) h1 rfl) rfl rfl) rfl) dX11_answer_30 ?_
        refine zW_iload_n 1 dX11_answer_33 rfl ?_
        obtain ⟨c2, hf⟩ := zgd hf
        refine zW_aald (q' := (10, 1, ix v1)) 6 rfl rfl (hw.1 _ (zokB (r' := 32) (zokB (r' := 8) (zok1 (r' := 7) h1 rfl) rfl rfl) rfl rfl)) rfl rfl c2 (hw.2.1 _ _ _ (zokB (r' := 32) (zokB (r' := 8) (zok1 (r' := 7) h1 rfl) rfl rfl) rfl rfl) rfl) dX11_answer_34 ?_
        refine zW_getI lk_RX11_230 (hw.1 _ (zokE (r' := 10) (zokB (r' := 32) (zokB (r' := 8) (zok1 (r' := 7) h1 rfl) rfl rfl) rfl rfl) rfl rfl c2)) rfl rfl dX11_answer_35 ?_
        refine zF_if_ne 44 dX11_answer_38 rfl rfl hf (fun c hf => ?_) (fun c hf => ?_)
        · refine zW_bipush dX11_answer_41 rfl ?_
          exact zR_i hw rfl dX11_answer_43 hf
        · refine zW_aload_n 0 dX11_answer_44 rfl ?_
          refine zW_getR (q' := (7, 1, 0)) lk_RX11_56 (hw.1 _ o) rfl rfl (hw.2.1 _ _ _ o rfl) dX11_answer_45 ?_
          refine zW_iload_n 1 dX11_answer_48 rfl ?_
          refine zW_iload_n 2 dX11_answer_49 rfl ?_
          refine zC_Vwi (As := [vi v1, vi v2]) (fun x hx => kX4_readAnswer hw (L := 1) (v1 := v1) (v2 := v2) (zok1 (r' := 7) h1 rfl) hx) mv_RX11_236 (hw.1 _ (zok1 (r' := 7) h1 rfl)) rfl rfl rfl rfl rfl dX11_answer_50 hf (fun r3 hf => ?_)
          exact zR_i hw rfl dX11_answer_53 hf
      · refine zW_bipush dX11_answer_20 rfl ?_
        exact zR_i hw rfl dX11_answer_22 hf
theorem kX11_answer {X : zX} {e : Nat → Prop} (hw : zWf X e) {v1 : Int} {v2 : Int} (o : zOk e (0, 0, 0)) (h1 : e 1) {I : zMem} {u : (Int × zMem)} (hf : fX11_answer v1 v2 I = some u) : zCn X mX11_answer yX11_answer [.ref (zad X (0, 0, 0)), vi v1, vi v2] I (some (vi u.1), u.2) := zCn_of (by decide +kernel) rfl rfl ⟨rfl, rfl⟩ (tX11_answer_0 hw.N o h1 hf)
set_option maxRecDepth 100000 in
theorem tX11_isTray_b13 {X : zX} {e : Nat → Prop} (hw : zWf X e) {I : zMem} {v0 : Int}  {u : Int} (hf : fX11_isTray_b13 v0 = some u) : zW X (some (vi u), I) mX11_isTray 13 [] [] I := by
  unfold fX11_isTray_b13 at hf
  refine zW_iconst dX11_isTray_13 ?_
  exact zS_z hw rfl (Or.inl rfl) dX11_isTray_14 hf
set_option maxRecDepth 100000 in
theorem tX11_isTray_0 {X : zX} {e : Nat → Prop} (hw : zWf X e) {v0 : Int}  {I : zMem} {u : Int} (hf : fX11_isTray v0 = some u) : zW X (some (vi u), I) mX11_isTray 0 [(0, vi v0)] [] I := by
  unfold fX11_isTray at hf
  refine zW_iload_n 0 dX11_isTray_0 rfl ?_
  refine zF_if_lt 13 dX11_isTray_1 rfl rfl hf (fun c hf => ?_) (fun c hf => ?_)
  · refine zW_sub [] rfl ?_
    exact tX11_isTray_b13 hw  hf
  · refine zW_iload_n 0 dX11_isTray_4 rfl ?_
    refine zW_iconst dX11_isTray_5 ?_
    refine zF_icmp_ge 13 dX11_isTray_6 rfl rfl (w32_lit _ rfl) hf (fun c hf => ?_) (fun c hf => ?_)
    · refine zW_sub [] rfl ?_
      exact tX11_isTray_b13 hw  hf
    · refine zW_iconst dX11_isTray_9 ?_
      refine zW_goto 14 dX11_isTray_10 rfl ?_
      exact zS_z hw rfl (Or.inr rfl) dX11_isTray_14 hf
theorem kX11_isTray {X : zX} {e : Nat → Prop} (hw : zWf X e) {v0 : Int}  {I : zMem} {u : Int} (hf : fX11_isTray v0 = some u) : zCn X mX11_isTray yX11_isTray [vi v0] I (some (vi u), I) := zCn_of (by decide +kernel) rfl rfl ⟨rfl, rfl⟩ (tX11_isTray_0 hw.N  hf)
set_option maxRecDepth 100000 in
theorem tX11_burst_l73_y {X : zX} {e : Nat → Prop} (hw : zWf X e) {T : zT} {v1 : Int} {v2 : Int} {v3 : Int} {v4 : Int} {w5 : Int} (o : zOk e (0, 0, 0)) (h1 : e 1) (s : (Int × zMem)) {u : ((Int × zMem) ⊕ (Int × zMem))} (hf : fX11_burst_l73 v1 v2 v3 v4 w5 s = some u) (hk : ∀ s', u = .inl s' → zW X T mX11_burst 73 [(0, .ref (zad X (0, 0, 0))), (1, vi v1), (2, vi v2), (3, vi v3), (4, vi v4), (5, vi w5), (6, vi s'.1)] [] s'.2) (hx : ∀ x, u = .inr x → zW X T mX11_burst 109 [(0, .ref (zad X (0, 0, 0))), (1, vi v1), (2, vi v2), (3, vi v3), (5, vi w5)] [] x.2) : zW X T mX11_burst 73 [(0, .ref (zad X (0, 0, 0))), (1, vi v1), (2, vi v2), (3, vi v3), (4, vi v4), (5, vi w5), (6, vi s.1)] [] s.2 := by
  unfold fX11_burst_l73 at hf
  refine zW_iload 6 dX11_burst_73 rfl ?_
  refine zW_iload 5 dX11_burst_75 rfl ?_
  refine zF_icmp_ge 109 dX11_burst_77 rfl rfl rfl hf (fun c hf => ?_) (fun c hf => ?_)
  · refine zW_sub [0, 1, 2, 3, 5] rfl ?_
    exact hx _ (Option.some.inj hf).symm
  · refine zW_aload_n 0 dX11_burst_80 rfl ?_
    refine zW_getR (q' := (5, 0, 0)) lk_RX11_42 (hw.1 _ o) rfl rfl (hw.2.1 _ _ _ o rfl) dX11_burst_81 ?_
    refine zW_getR (q' := (28, 0, 0)) lk_RX11_215 (hw.1 _ (zokA (r' := 5) o rfl rfl)) rfl rfl (hw.2.1 _ _ _ (zokA (r' := 5) o rfl rfl) rfl) dX11_burst_84 ?_
    refine zW_iload 6 dX11_burst_87 rfl ?_
    refine zW_aload_n 0 dX11_burst_89 rfl ?_
    refine zW_getR (q' := (6, 0, 0)) lk_RX11_49 (hw.1 _ o) rfl rfl (hw.2.1 _ _ _ o rfl) dX11_burst_90 ?_
    refine zW_getR (q' := (29, 0, 0)) lk_RX11_218 (hw.1 _ (zokA (r' := 6) o rfl rfl)) rfl rfl (hw.2.1 _ _ _ (zokA (r' := 6) o rfl rfl) rfl) dX11_burst_93 ?_
    refine zW_iload 4 dX11_burst_96 rfl ?_
    obtain ⟨c7, hf⟩ := zgd hf
    refine zW_aald (q' := (30, 0, ix v4)) 7 rfl rfl (hw.1 _ (zokA (r' := 29) (zokA (r' := 6) o rfl rfl) rfl rfl)) rfl rfl c7 (hw.2.1 _ _ _ (zokA (r' := 29) (zokA (r' := 6) o rfl rfl) rfl rfl) rfl) dX11_burst_98 ?_
    refine zW_iload 6 dX11_burst_99 rfl ?_
    obtain ⟨c8, hf⟩ := zgd hf
    refine zF_bald (hw.1 _ (zokT (r' := 30) (zokA (r' := 29) (zokA (r' := 6) o rfl rfl) rfl rfl) rfl rfl c7)) rfl c8 rfl dX11_burst_101 ?_
    refine zF_iast (hw.1 _ (zokA (r' := 28) (zokA (r' := 5) o rfl rfl) rfl rfl)) rfl c8 rfl dX11_burst_102 hf (fun I9 hf => ?_)
    refine zW_iinc 6 (lv' := [(6, vi (s.1 + 1)), (0, .ref (zad X (0, 0, 0))), (1, vi v1), (2, vi v2), (3, vi v3), (4, vi v4), (5, vi w5)]) dX11_burst_103 rfl rfl rfl ?_
    refine zW_goto 73 dX11_burst_106 rfl ?_
    refine zW_sub [1, 2, 3, 4, 5, 6, 0] rfl ?_
    exact hk _ (Option.some.inj hf).symm
theorem tX11_burst_l73 {X : zX} {e : Nat → Prop} (hw : zWf X e) {T : zT} {v1 : Int} {v2 : Int} {v3 : Int} {v4 : Int} {w5 : Int} (o : zOk e (0, 0, 0)) (h1 : e 1) {s0 : (Int × zMem)} {α : Type} {F : (Int × zMem) → Option α} {u : α} (hf : zb (zlp (fX11_burst_l73 v1 v2 v3 v4 w5) 5000 s0) F = some u) (kx : ∀ x, F x = some u → zW X T mX11_burst 109 [(0, .ref (zad X (0, 0, 0))), (1, vi v1), (2, vi v2), (3, vi v3), (5, vi w5)] [] x.2) : zW X T mX11_burst 73 [(0, .ref (zad X (0, 0, 0))), (1, vi v1), (2, vi v2), (3, vi v3), (4, vi v4), (5, vi w5), (6, vi s0.1)] [] s0.2 := by
  obtain ⟨x, h, hf⟩ := zb_inv hf
  exact zlp_W (P := fun s => zW X T mX11_burst 73 [(0, .ref (zad X (0, 0, 0))), (1, vi v1), (2, vi v2), (3, vi v3), (4, vi v4), (5, vi w5), (6, vi s.1)] [] s.2) (E := fun x => zW X T mX11_burst 109 [(0, .ref (zad X (0, 0, 0))), (1, vi v1), (2, vi v2), (3, vi v3), (5, vi w5)] [] x.2) (fun s u h hk hx => tX11_burst_l73_y hw o h1 s h hk hx) _ s0 x h (kx x hf)
set_option maxRecDepth 100000 in
theorem tX11_burst_0 {X : zX} {e : Nat → Prop} (hw : zWf X e) {v1 : Int} {v2 : Int} {v3 : Int} {v4 : Int} (o : zOk e (0, 0, 0)) (h1 : e 1) {I : zMem} {u : (Int × zMem)} (hf : fX11_burst v1 v2 v3 v4 I = some u) : zW X (some (vi u.1), u.2) mX11_burst 0 [(0, .ref (zad X (0, 0, 0))), (1, vi v1), (2, vi v2), (3, vi v3), (4, vi v4)] [] I := by
  unfold fX11_burst at hf
  refine zW_aload_n 0 dX11_burst_0 rfl ?_
  refine zW_iload_n 1 dX11_burst_1 rfl ?_
  refine zC_Vri (As := [vi v1]) (fun x hx => kX11_isProcess hw (v1 := v1) o h1 hx) mv_RX11_200 (hw.1 _ o) rfl rfl rfl rfl rfl dX11_burst_2 hf (fun r1 hf => ?_)
  refine zF_if_eq 32 dX11_burst_5 rfl rfl hf (fun c hf => ?_) (fun c hf => ?_)
  · refine zW_bipush dX11_burst_32 rfl ?_
    exact zR_i hw rfl dX11_burst_34 hf
  · refine zW_iload_n 2 dX11_burst_8 rfl ?_
    refine zC_Sri (As := [vi v2]) (fun x hx => kX11_isVersion hw (v0 := v2)  hx) ms_RX11_101 rfl rfl rfl rfl dX11_burst_9 hf (fun r2 hf => ?_)
    refine zF_if_eq 32 dX11_burst_12 rfl rfl hf (fun c hf => ?_) (fun c hf => ?_)
    · refine zW_bipush dX11_burst_32 rfl ?_
      exact zR_i hw rfl dX11_burst_34 hf
    · refine zW_iload_n 3 dX11_burst_15 rfl ?_
      refine zF_if_lt 32 dX11_burst_16 rfl rfl hf (fun c hf => ?_) (fun c hf => ?_)
      · refine zW_bipush dX11_burst_32 rfl ?_
        exact zR_i hw rfl dX11_burst_34 hf
      · refine zW_iload_n 3 dX11_burst_19 rfl ?_
        refine zW_iconst dX11_burst_20 ?_
        refine zF_icmp_gt 32 dX11_burst_21 rfl rfl (w32_lit _ rfl) hf (fun c hf => ?_) (fun c hf => ?_)
        · refine zW_bipush dX11_burst_32 rfl ?_
          exact zR_i hw rfl dX11_burst_34 hf
        · refine zW_iload 4 dX11_burst_24 rfl ?_
          refine zC_Sri (As := [vi v4]) (fun x hx => kX11_isTray hw (v0 := v4)  hx) ms_RX11_239 rfl rfl rfl rfl dX11_burst_26 hf (fun r3 hf => ?_)
          refine zF_if_ne 35 dX11_burst_29 rfl rfl hf (fun c hf => ?_) (fun c hf => ?_)
          · refine zW_bipush dX11_burst_32 rfl ?_
            exact zR_i hw rfl dX11_burst_34 hf
          · refine zW_aload_n 0 dX11_burst_35 rfl ?_
            refine zW_getR (q' := (6, 0, 0)) lk_RX11_49 (hw.1 _ o) rfl rfl (hw.2.1 _ _ _ o rfl) dX11_burst_36 ?_
            refine zW_iload 4 dX11_burst_39 rfl ?_
            refine zC_Vri (As := [vi v4]) (fun x hx => kX9_isMissing hw (v1 := v4) (zokA (r' := 6) o rfl rfl) hx) mv_RX11_203 (hw.1 _ (zokA (r' := 6) o rfl rfl)) rfl rfl rfl rfl rfl dX11_burst_41 hf (fun r4 hf => ?_)
            refine zF_if_eq 50 dX11_burst_44 rfl rfl hf (fun c hf => ?_) (fun c hf => ?_)
            · refine zW_aload_n 0 dX11_burst_50 rfl ?_
              refine zW_getR (q' := (6, 0, 0)) lk_RX11_49 (hw.1 _ o) rfl rfl (hw.2.1 _ _ _ o rfl) dX11_burst_51 ?_
              refine zW_getR (q' := (31, 0, 0)) lk_RX11_209 (hw.1 _ (zokA (r' := 6) o rfl rfl)) rfl rfl (hw.2.1 _ _ _ (zokA (r' := 6) o rfl rfl) rfl) dX11_burst_54 ?_
              refine zW_iload 4 dX11_burst_57 rfl ?_
              obtain ⟨c5, hf⟩ := zgd hf
              refine zF_iald (hw.1 _ (zokA (r' := 31) (zokA (r' := 6) o rfl rfl) rfl rfl)) rfl c5 rfl dX11_burst_59 ?_
              refine zF_istore (lv' := fun a6 => [(5, vi a6), (0, .ref (zad X (0, 0, 0))), (1, vi v1), (2, vi v2), (3, vi v3), (4, vi v4)]) dX11_burst_60 hf (fun _ => rfl) rfl (fun a6 hf => ?_)
              refine zW_iload 0 dX11_burst_62 rfl ?_
              refine zF_if_ne 70 dX11_burst_64 rfl rfl hf (fun c hf => ?_) (fun c hf => ?_)
              · refine zW_bipush dX11_burst_67 rfl ?_
                exact zR_i hw rfl dX11_burst_69 hf
              · refine zW_iconst dX11_burst_70 ?_
                refine zW_istore (lv' := [(6, vi 0), (5, vi a6), (0, .ref (zad X (0, 0, 0))), (1, vi v1), (2, vi v2), (3, vi v3), (4, vi v4)]) dX11_burst_71 rfl rfl ?_
                refine zW_sub [2, 3, 4, 5, 6, 1, 0] rfl ?_
                refine tX11_burst_l73 hw o h1 (s0 := (0, I)) hf (fun x10 hf => ?_)
                refine zW_aload_n 0 dX11_burst_109 rfl ?_
                refine zW_getR (q' := (2, 0, 0)) lk_RX11_19 (hw.1 _ o) rfl rfl (hw.2.1 _ _ _ o rfl) dX11_burst_110 ?_
                refine zW_aload_n 0 dX11_burst_113 rfl ?_
                refine zW_getR (q' := (7, 1, 0)) lk_RX11_56 (hw.1 _ o) rfl rfl (hw.2.1 _ _ _ o rfl) dX11_burst_114 ?_
                refine zW_getI lk_RX11_94 (hw.1 _ (zok1 (r' := 7) h1 rfl)) rfl rfl dX11_burst_117 ?_
                refine zW_iload_n 2 dX11_burst_120 rfl ?_
                refine zW_iload 4 dX11_burst_121 rfl ?_
                refine zC_Vwv (As := [vi (x10.2 (7, 1, 0) 4), vi v2, vi a6]) (fun x hx => kX6_lay hw (v1 := x10.2 (7, 1, 0) 4) (v2 := v2) (v3 := a6) (zokA (r' := 2) o rfl rfl) hx) mv_RX11_107 (hw.1 _ (zokA (r' := 2) o rfl rfl)) rfl rfl rfl rfl rfl dX11_burst_123 hf (fun r11 hf => ?_)
                refine zW_aload_n 0 dX11_burst_126 rfl ?_
                refine zW_getR (q' := (5, 0, 0)) lk_RX11_42 (hw.1 _ o) rfl rfl (hw.2.1 _ _ _ o rfl) dX11_burst_127 ?_
                refine zW_aload_n 0 dX11_burst_130 rfl ?_
                refine zW_getR (q' := (7, 1, 0)) lk_RX11_56 (hw.1 _ o) rfl rfl (hw.2.1 _ _ _ o rfl) dX11_burst_131 ?_
                refine zW_iload_n 1 dX11_burst_134 rfl ?_
                refine zW_iload_n 3 dX11_burst_135 rfl ?_
                refine zW_iload 4 dX11_burst_136 rfl ?_
                refine zC_Vwi (As := [.ref (zad X (7, 1, 0)), vi v1, vi v3, vi a6]) (fun x hx => kX0_hear hw (L2 := 1) (v2 := v1) (v3 := v3) (v4 := a6) (zokA (r' := 5) o rfl rfl) (zok1 (r' := 7) h1 rfl) hx) mv_RX11_242 (hw.1 _ (zokA (r' := 5) o rfl rfl)) rfl rfl rfl rfl rfl dX11_burst_138 hf (fun r12 hf => ?_)
                exact zR_i hw rfl dX11_burst_141 hf
            · refine zW_bipush dX11_burst_47 rfl ?_
              exact zR_i hw rfl dX11_burst_49 hf
theorem kX11_burst {X : zX} {e : Nat → Prop} (hw : zWf X e) {v1 : Int} {v2 : Int} {v3 : Int} {v4 : Int} (o : zOk e (0, 0, 0)) (h1 : e 1) {I : zMem} {u : (Int × zMem)} (hf : fX11_burst v1 v2 v3 v4 I = some u) : zCn X mX11_burst yX11_burst [.ref (zad X (0, 0, 0)), vi v1, vi v2, vi v3, vi v4] I (some (vi u.1), u.2) := zCn_of (by decide +kernel) rfl rfl ⟨rfl, rfl⟩ (tX11_burst_0 hw.N o h1 hf)
set_option maxRecDepth 100000 in
theorem tX11_tick_l27_y {X : zX} {e : Nat → Prop} (hw : zWf X e) {T : zT} {v1 : Int} {w2 : Int} (o : zOk e (0, 0, 0)) (h1 : e 1) (s : (Int × zMem)) {u : ((Int × zMem) ⊕ (Int × zMem))} (hf : fX11_tick_l27 v1 w2 s = some u) (hk : ∀ s', u = .inl s' → zW X T mX11_tick 27 [(0, .ref (zad X (0, 0, 0))), (1, vi v1), (2, vi w2), (3, vi s'.1)] [] s'.2) (hx : ∀ x, u = .inr x → zW X T mX11_tick 55 [(0, .ref (zad X (0, 0, 0))), (2, vi w2)] [] x.2) : zW X T mX11_tick 27 [(0, .ref (zad X (0, 0, 0))), (1, vi v1), (2, vi w2), (3, vi s.1)] [] s.2 := by
  unfold fX11_tick_l27 at hf
  refine zW_iload_n 3 dX11_tick_27 rfl ?_
  refine zW_iload_n 1 dX11_tick_28 rfl ?_
  refine zF_icmp_ge 55 dX11_tick_29 rfl rfl rfl hf (fun c hf => ?_) (fun c hf => ?_)
  · refine zW_sub [0, 2] rfl ?_
    exact hx _ (Option.some.inj hf).symm
  · refine zW_aload_n 0 dX11_tick_32 rfl ?_
    refine zW_getR (q' := (7, 1, 0)) lk_RX11_56 (hw.1 _ o) rfl rfl (hw.2.1 _ _ _ o rfl) dX11_tick_33 ?_
    refine zW_getR (q' := (9, 1, 0)) lk_RX11_246 (hw.1 _ (zok1 (r' := 7) h1 rfl)) rfl rfl (hw.2.1 _ _ _ (zok1 (r' := 7) h1 rfl) rfl) dX11_tick_36 ?_
    refine zW_aload_n 0 dX11_tick_39 rfl ?_
    refine zW_getR (q' := (7, 1, 0)) lk_RX11_56 (hw.1 _ o) rfl rfl (hw.2.1 _ _ _ o rfl) dX11_tick_40 ?_
    refine zW_getI lk_RX11_176 (hw.1 _ (zok1 (r' := 7) h1 rfl)) rfl rfl dX11_tick_43 ?_
    refine zC_Vwv (As := [vi (s.2 (7, 1, 0) 2)]) (fun x hx => kX5_passTime hw (L := 1) (v1 := s.2 (7, 1, 0) 2) (zokB (r' := 9) (zok1 (r' := 7) h1 rfl) rfl rfl) hx) mv_RX11_255 (hw.1 _ (zokB (r' := 9) (zok1 (r' := 7) h1 rfl) rfl rfl)) rfl rfl rfl rfl rfl dX11_tick_46 hf (fun r2 hf => ?_)
    refine zW_iinc 3 (lv' := [(3, vi (s.1 + 1)), (0, .ref (zad X (0, 0, 0))), (1, vi v1), (2, vi w2)]) dX11_tick_49 rfl rfl rfl ?_
    refine zW_goto 27 dX11_tick_52 rfl ?_
    refine zW_sub [1, 2, 3, 0] rfl ?_
    exact hk _ (Option.some.inj hf).symm
theorem tX11_tick_l27 {X : zX} {e : Nat → Prop} (hw : zWf X e) {T : zT} {v1 : Int} {w2 : Int} (o : zOk e (0, 0, 0)) (h1 : e 1) {s0 : (Int × zMem)} {α : Type} {F : (Int × zMem) → Option α} {u : α} (hf : zb (zlp (fX11_tick_l27 v1 w2) 5000 s0) F = some u) (kx : ∀ x, F x = some u → zW X T mX11_tick 55 [(0, .ref (zad X (0, 0, 0))), (2, vi w2)] [] x.2) : zW X T mX11_tick 27 [(0, .ref (zad X (0, 0, 0))), (1, vi v1), (2, vi w2), (3, vi s0.1)] [] s0.2 := by
  obtain ⟨x, h, hf⟩ := zb_inv hf
  exact zlp_W (P := fun s => zW X T mX11_tick 27 [(0, .ref (zad X (0, 0, 0))), (1, vi v1), (2, vi w2), (3, vi s.1)] [] s.2) (E := fun x => zW X T mX11_tick 55 [(0, .ref (zad X (0, 0, 0))), (2, vi w2)] [] x.2) (fun s u h hk hx => tX11_tick_l27_y hw o h1 s h hk hx) _ s0 x h (kx x hf)
set_option maxRecDepth 100000 in
theorem tX11_tick_0 {X : zX} {e : Nat → Prop} (hw : zWf X e) {v1 : Int} (o : zOk e (0, 0, 0)) (h1 : e 1) {I : zMem} {u : (Int × zMem)} (hf : fX11_tick v1 I = some u) : zW X (some (vi u.1), u.2) mX11_tick 0 [(0, .ref (zad X (0, 0, 0))), (1, vi v1)] [] I := by
  unfold fX11_tick at hf
  refine zW_iload_n 1 dX11_tick_0 rfl ?_
  refine zW_iconst dX11_tick_1 ?_
  refine zF_icmp_lt 11 dX11_tick_2 rfl rfl (w32_lit _ rfl) hf (fun c hf => ?_) (fun c hf => ?_)
  · refine zW_bipush dX11_tick_11 rfl ?_
    exact zR_i hw rfl dX11_tick_13 hf
  · refine zW_iload_n 1 dX11_tick_5 rfl ?_
    refine zW_bipush dX11_tick_6 rfl ?_
    refine zF_icmp_le 14 dX11_tick_8 rfl rfl (w32_lit _ rfl) hf (fun c hf => ?_) (fun c hf => ?_)
    · refine zW_aload_n 0 dX11_tick_14 rfl ?_
      refine zW_getR (q' := (7, 1, 0)) lk_RX11_56 (hw.1 _ o) rfl rfl (hw.2.1 _ _ _ o rfl) dX11_tick_15 ?_
      refine zW_getR (q' := (9, 1, 0)) lk_RX11_246 (hw.1 _ (zok1 (r' := 7) h1 rfl)) rfl rfl (hw.2.1 _ _ _ (zok1 (r' := 7) h1 rfl) rfl) dX11_tick_18 ?_
      refine zW_getI lk_RX11_250 (hw.1 _ (zokB (r' := 9) (zok1 (r' := 7) h1 rfl) rfl rfl)) rfl rfl dX11_tick_21 ?_
      refine zF_istore_n (lv' := fun a1 => [(2, vi a1), (0, .ref (zad X (0, 0, 0))), (1, vi v1)]) dX11_tick_24 hf (fun _ => rfl) rfl (fun a1 hf => ?_)
      refine zW_iconst dX11_tick_25 ?_
      refine zW_istore_n (lv' := [(3, vi 0), (2, vi a1), (0, .ref (zad X (0, 0, 0))), (1, vi v1)]) dX11_tick_26 rfl rfl ?_
      refine zW_sub [2, 3, 1, 0] rfl ?_
      refine tX11_tick_l27 hw o h1 (s0 := (0, I)) hf (fun x3 hf => ?_)
      refine zW_aload_n 0 dX11_tick_55 rfl ?_
      refine zW_getR (q' := (7, 1, 0)) lk_RX11_56 (hw.1 _ o) rfl rfl (hw.2.1 _ _ _ o rfl) dX11_tick_56 ?_
      refine zW_getR (q' := (9, 1, 0)) lk_RX11_246 (hw.1 _ (zok1 (r' := 7) h1 rfl)) rfl rfl (hw.2.1 _ _ _ (zok1 (r' := 7) h1 rfl) rfl) dX11_tick_59 ?_
      refine zW_getI lk_RX11_250 (hw.1 _ (zokB (r' := 9) (zok1 (r' := 7) h1 rfl) rfl rfl)) rfl rfl dX11_tick_62 ?_
      refine zW_iload_n 1 dX11_tick_65 rfl ?_
      refine zW_isub dX11_tick_66 ?_
      exact zR_i hw rfl dX11_tick_67 hf
    · refine zW_bipush dX11_tick_11 rfl ?_
      exact zR_i hw rfl dX11_tick_13 hf
theorem kX11_tick {X : zX} {e : Nat → Prop} (hw : zWf X e) {v1 : Int} (o : zOk e (0, 0, 0)) (h1 : e 1) {I : zMem} {u : (Int × zMem)} (hf : fX11_tick v1 I = some u) : zCn X mX11_tick yX11_tick [.ref (zad X (0, 0, 0)), vi v1] I (some (vi u.1), u.2) := zCn_of (by decide +kernel) rfl rfl ⟨rfl, rfl⟩ (tX11_tick_0 hw.N o h1 hf)
set_option maxRecDepth 100000 in
theorem tX11_report_0 {X : zX} {e : Nat → Prop} (hw : zWf X e)  (o : zOk e (0, 0, 0)) (h1 : e 1) {I : zMem} {u : (Int × zMem)} (hf : fX11_report  I = some u) : zW X (some (vi u.1), u.2) mX11_report 0 [(0, .ref (zad X (0, 0, 0)))] [] I := by
  unfold fX11_report at hf
  refine zW_aload_n 0 dX11_report_0 rfl ?_
  refine zW_getR (q' := (7, 1, 0)) lk_RX11_56 (hw.1 _ o) rfl rfl (hw.2.1 _ _ _ o rfl) dX11_report_1 ?_
  refine zW_getR (q' := (8, 1, 0)) lk_RX11_188 (hw.1 _ (zok1 (r' := 7) h1 rfl)) rfl rfl (hw.2.1 _ _ _ (zok1 (r' := 7) h1 rfl) rfl) dX11_report_4 ?_
  refine zW_aload_n 0 dX11_report_7 rfl ?_
  refine zW_getR (q' := (7, 1, 0)) lk_RX11_56 (hw.1 _ o) rfl rfl (hw.2.1 _ _ _ o rfl) dX11_report_8 ?_
  refine zW_getR (q' := (9, 1, 0)) lk_RX11_246 (hw.1 _ (zok1 (r' := 7) h1 rfl)) rfl rfl (hw.2.1 _ _ _ (zok1 (r' := 7) h1 rfl) rfl) dX11_report_11 ?_
  refine zC_Vwv (As := [.ref (zad X (9, 1, 0))]) (fun x hx => kX7_learn hw (L := 1) (L2 := 1) (zokB (r' := 8) (zok1 (r' := 7) h1 rfl) rfl rfl) (zokB (r' := 9) (zok1 (r' := 7) h1 rfl) rfl rfl) hx) mv_RX11_259 (hw.1 _ (zokB (r' := 8) (zok1 (r' := 7) h1 rfl) rfl rfl)) rfl rfl rfl rfl rfl dX11_report_14 hf (fun r1 hf => ?_)
  refine zW_aload_n 0 dX11_report_17 rfl ?_
  refine zW_getR (q' := (7, 1, 0)) lk_RX11_56 (hw.1 _ o) rfl rfl (hw.2.1 _ _ _ o rfl) dX11_report_18 ?_
  refine zW_getR (q' := (8, 1, 0)) lk_RX11_188 (hw.1 _ (zok1 (r' := 7) h1 rfl)) rfl rfl (hw.2.1 _ _ _ (zok1 (r' := 7) h1 rfl) rfl) dX11_report_21 ?_
  refine zW_getI lk_RX11_263 (hw.1 _ (zokB (r' := 8) (zok1 (r' := 7) h1 rfl) rfl rfl)) rfl rfl dX11_report_24 ?_
  exact zR_i hw rfl dX11_report_27 hf
theorem kX11_report {X : zX} {e : Nat → Prop} (hw : zWf X e)  (o : zOk e (0, 0, 0)) (h1 : e 1) {I : zMem} {u : (Int × zMem)} (hf : fX11_report  I = some u) : zCn X mX11_report yX11_report [.ref (zad X (0, 0, 0))] I (some (vi u.1), u.2) := zCn_of (by decide +kernel) rfl rfl ⟨rfl, rfl⟩ (tX11_report_0 hw.N o h1 hf)
set_option maxRecDepth 100000 in
theorem tX11_run_l56_y {X : zX} {e : Nat → Prop} (hw : zWf X e) {T : zT} {v1 : Int} {v2 : Int} {v3 : Int} {v4 : Int} {w5 : Int} (o : zOk e (0, 0, 0)) (h1 : e 1) (s : (Int × zMem)) {u : ((Int × zMem) ⊕ (Int × zMem))} (hf : fX11_run_l56 v1 v2 v3 v4 w5 s = some u) (hk : ∀ s', u = .inl s' → zW X T mX11_run 56 [(0, .ref (zad X (0, 0, 0))), (2, vi v2), (3, vi v3), (4, vi v4), (5, vi w5), (6, vi s'.1)] [] s'.2) (hx : ∀ x, u = .inr x → zW X T mX11_run 84 [(0, .ref (zad X (0, 0, 0))), (5, vi w5)] [] x.2) : zW X T mX11_run 56 [(0, .ref (zad X (0, 0, 0))), (2, vi v2), (3, vi v3), (4, vi v4), (5, vi w5), (6, vi s.1)] [] s.2 := by
  unfold fX11_run_l56 at hf
  refine zW_iload 5 dX11_run_56 rfl ?_
  refine zW_iload_n 1 dX11_run_58 rfl ?_
  refine zF_icmp_ge 84 dX11_run_59 rfl rfl rfl hf (fun c hf => ?_) (fun c hf => ?_)
  · refine zW_sub [0, 4] rfl ?_
    exact hx _ (Option.some.inj hf).symm
  · refine zW_aload_n 0 dX11_run_62 rfl ?_
    refine zW_getR (q' := (5, 0, 0)) lk_RX11_42 (hw.1 _ o) rfl rfl (hw.2.1 _ _ _ o rfl) dX11_run_63 ?_
    refine zW_aload_n 0 dX11_run_66 rfl ?_
    refine zW_getR (q' := (7, 1, 0)) lk_RX11_56 (hw.1 _ o) rfl rfl (hw.2.1 _ _ _ o rfl) dX11_run_67 ?_
    refine zW_iload 5 dX11_run_70 rfl ?_
    refine zW_iload_n 2 dX11_run_72 rfl ?_
    refine zW_iload 3 dX11_run_73 rfl ?_
    refine zC_Vwv (As := [.ref (zad X (7, 1, 0)), vi s.1, vi v3, vi v4]) (fun x hx => kX0_drawnRound hw (L2 := 1) (v2 := s.1) (v3 := v3) (v4 := v4) (zokA (r' := 5) o rfl rfl) (zok1 (r' := 7) h1 rfl) hx) mv_RX11_269 (hw.1 _ (zokA (r' := 5) o rfl rfl)) rfl rfl rfl rfl rfl dX11_run_75 hf (fun r4 hf => ?_)
    refine zW_iinc 5 (lv' := [(6, vi (s.1 + 1)), (0, .ref (zad X (0, 0, 0))), (2, vi v2), (3, vi v3), (4, vi v4), (5, vi w5)]) dX11_run_78 rfl rfl rfl ?_
    refine zW_goto 56 dX11_run_81 rfl ?_
    refine zW_sub [1, 2, 3, 4, 5, 0] rfl ?_
    exact hk _ (Option.some.inj hf).symm
theorem tX11_run_l56 {X : zX} {e : Nat → Prop} (hw : zWf X e) {T : zT} {v1 : Int} {v2 : Int} {v3 : Int} {v4 : Int} {w5 : Int} (o : zOk e (0, 0, 0)) (h1 : e 1) {s0 : (Int × zMem)} {α : Type} {F : (Int × zMem) → Option α} {u : α} (hf : zb (zlp (fX11_run_l56 v1 v2 v3 v4 w5) 5000 s0) F = some u) (kx : ∀ x, F x = some u → zW X T mX11_run 84 [(0, .ref (zad X (0, 0, 0))), (5, vi w5)] [] x.2) : zW X T mX11_run 56 [(0, .ref (zad X (0, 0, 0))), (2, vi v2), (3, vi v3), (4, vi v4), (5, vi w5), (6, vi s0.1)] [] s0.2 := by
  obtain ⟨x, h, hf⟩ := zb_inv hf
  exact zlp_W (P := fun s => zW X T mX11_run 56 [(0, .ref (zad X (0, 0, 0))), (2, vi v2), (3, vi v3), (4, vi v4), (5, vi w5), (6, vi s.1)] [] s.2) (E := fun x => zW X T mX11_run 84 [(0, .ref (zad X (0, 0, 0))), (5, vi w5)] [] x.2) (fun s u h hk hx => tX11_run_l56_y hw o h1 s h hk hx) _ s0 x h (kx x hf)
set_option maxRecDepth 100000 in
theorem tX11_run_0 {X : zX} {e : Nat → Prop} (hw : zWf X e) {v1 : Int} {v2 : Int} {v3 : Int} {v4 : Int} (o : zOk e (0, 0, 0)) (h1 : e 1) {I : zMem} {u : (Int × zMem)} (hf : fX11_run v1 v2 v3 v4 I = some u) : zW X (some (vi u.1), u.2) mX11_run 0 [(0, .ref (zad X (0, 0, 0))), (1, vi v1), (2, vi v2), (3, vi v3), (4, vi v4)] [] I := by
  unfold fX11_run at hf
  refine zW_iload_n 2 dX11_run_0 rfl ?_
  refine zW_iconst dX11_run_1 ?_
  refine zF_icmp_lt 30 dX11_run_2 rfl rfl (w32_lit _ rfl) hf (fun c hf => ?_) (fun c hf => ?_)
  · refine zW_bipush dX11_run_30 rfl ?_
    exact zR_i hw rfl dX11_run_32 hf
  · refine zW_iload_n 2 dX11_run_5 rfl ?_
    refine zW_bipush dX11_run_6 rfl ?_
    refine zF_icmp_gt 30 dX11_run_8 rfl rfl (w32_lit _ rfl) hf (fun c hf => ?_) (fun c hf => ?_)
    · refine zW_bipush dX11_run_30 rfl ?_
      exact zR_i hw rfl dX11_run_32 hf
    · refine zW_iload_n 3 dX11_run_11 rfl ?_
      refine zC_Sri (As := [vi v3]) (fun x hx => kX11_isLength hw (v0 := v3)  hx) ms_RX11_104 rfl rfl rfl rfl dX11_run_12 hf (fun r1 hf => ?_)
      refine zF_if_eq 30 dX11_run_15 rfl rfl hf (fun c hf => ?_) (fun c hf => ?_)
      · refine zW_bipush dX11_run_30 rfl ?_
        exact zR_i hw rfl dX11_run_32 hf
      · refine zW_iload 4 dX11_run_18 rfl ?_
        refine zF_if_lt 30 dX11_run_20 rfl rfl hf (fun c hf => ?_) (fun c hf => ?_)
        · refine zW_bipush dX11_run_30 rfl ?_
          exact zR_i hw rfl dX11_run_32 hf
        · refine zW_iload 4 dX11_run_23 rfl ?_
          refine zW_bipush dX11_run_25 rfl ?_
          refine zF_icmp_le 33 dX11_run_27 rfl rfl (w32_lit _ rfl) hf (fun c hf => ?_) (fun c hf => ?_)
          · refine zW_aload_n 0 dX11_run_33 rfl ?_
            refine zW_getR (q' := (7, 1, 0)) lk_RX11_56 (hw.1 _ o) rfl rfl (hw.2.1 _ _ _ o rfl) dX11_run_34 ?_
            refine zW_getR (q' := (9, 1, 0)) lk_RX11_246 (hw.1 _ (zok1 (r' := 7) h1 rfl)) rfl rfl (hw.2.1 _ _ _ (zok1 (r' := 7) h1 rfl) rfl) dX11_run_37 ?_
            refine zW_getI lk_RX11_250 (hw.1 _ (zokB (r' := 9) (zok1 (r' := 7) h1 rfl) rfl rfl)) rfl rfl dX11_run_40 ?_
            refine zF_istore (lv' := fun a2 => [(5, vi a2), (0, .ref (zad X (0, 0, 0))), (1, vi v1), (2, vi v2), (3, vi v3), (4, vi v4)]) dX11_run_43 hf (fun _ => rfl) rfl (fun a2 hf => ?_)
            refine zW_aload_n 1 dX11_run_45 rfl ?_
            refine zW_getR (q' := (5, 0, 0)) lk_RX11_42 (hw.1 _ o) rfl rfl (hw.2.1 _ _ _ o rfl) dX11_run_46 ?_
            refine zW_iload_n 2 dX11_run_49 rfl ?_
            refine zF_put lk_RX11_266 (hw.1 _ (zokA (r' := 5) o rfl rfl)) rfl rfl (zn_int _) dX11_run_50 hf (fun I3 hf => ?_)
            refine zW_iconst dX11_run_53 ?_
            refine zW_istore (lv' := [(6, vi 0), (5, vi a2), (0, .ref (zad X (0, 0, 0))), (1, vi v1), (2, vi v2), (3, vi v3), (4, vi v4)]) dX11_run_54 rfl rfl ?_
            refine zW_sub [2, 4, 5, 6, 1, 0] rfl ?_
            refine tX11_run_l56 hw o h1 (s0 := (0, I3)) hf (fun x5 hf => ?_)
            refine zW_aload_n 0 dX11_run_84 rfl ?_
            refine zW_getR (q' := (7, 1, 0)) lk_RX11_56 (hw.1 _ o) rfl rfl (hw.2.1 _ _ _ o rfl) dX11_run_85 ?_
            refine zW_getR (q' := (9, 1, 0)) lk_RX11_246 (hw.1 _ (zok1 (r' := 7) h1 rfl)) rfl rfl (hw.2.1 _ _ _ (zok1 (r' := 7) h1 rfl) rfl) dX11_run_88 ?_
            refine zW_getI lk_RX11_250 (hw.1 _ (zokB (r' := 9) (zok1 (r' := 7) h1 rfl) rfl rfl)) rfl rfl dX11_run_91 ?_
            refine zW_iload 1 dX11_run_94 rfl ?_
            refine zW_isub dX11_run_96 ?_
            exact zR_i hw rfl dX11_run_97 hf
          · refine zW_bipush dX11_run_30 rfl ?_
            exact zR_i hw rfl dX11_run_32 hf
theorem kX11_run {X : zX} {e : Nat → Prop} (hw : zWf X e) {v1 : Int} {v2 : Int} {v3 : Int} {v4 : Int} (o : zOk e (0, 0, 0)) (h1 : e 1) {I : zMem} {u : (Int × zMem)} (hf : fX11_run v1 v2 v3 v4 I = some u) : zCn X mX11_run yX11_run [.ref (zad X (0, 0, 0)), vi v1, vi v2, vi v3, vi v4] I (some (vi u.1), u.2) := zCn_of (by decide +kernel) rfl rfl ⟨rfl, rfl⟩ (tX11_run_0 hw.N o h1 hf)
set_option maxRecDepth 100000 in
theorem tX11_drain_0 {X : zX} {e : Nat → Prop} (hw : zWf X e)  (o : zOk e (0, 0, 0)) (h1 : e 1) {I : zMem} {u : (Int × zMem)} (hf : fX11_drain  I = some u) : zW X (some (vi u.1), u.2) mX11_drain 0 [(0, .ref (zad X (0, 0, 0)))] [] I := by
  unfold fX11_drain at hf
  refine zW_aload_n 0 dX11_drain_0 rfl ?_
  refine zW_getR (q' := (5, 0, 0)) lk_RX11_42 (hw.1 _ o) rfl rfl (hw.2.1 _ _ _ o rfl) dX11_drain_1 ?_
  refine zW_aload_n 0 dX11_drain_4 rfl ?_
  refine zW_getR (q' := (7, 1, 0)) lk_RX11_56 (hw.1 _ o) rfl rfl (hw.2.1 _ _ _ o rfl) dX11_drain_5 ?_
  refine zW_iconst dX11_drain_8 ?_
  refine zC_Vwi (As := [.ref (zad X (7, 1, 0)), vi 0]) (fun x hx => kX0_roundsTillClear hw (L2 := 1) (v2 := 0) (zokA (r' := 5) o rfl rfl) (zok1 (r' := 7) h1 rfl) hx) mv_RX11_273 (hw.1 _ (zokA (r' := 5) o rfl rfl)) rfl rfl rfl rfl rfl dX11_drain_9 hf (fun r1 hf => ?_)
  exact zR_i hw rfl dX11_drain_12 hf
theorem kX11_drain {X : zX} {e : Nat → Prop} (hw : zWf X e)  (o : zOk e (0, 0, 0)) (h1 : e 1) {I : zMem} {u : (Int × zMem)} (hf : fX11_drain  I = some u) : zCn X mX11_drain yX11_drain [.ref (zad X (0, 0, 0))] I (some (vi u.1), u.2) := zCn_of (by decide +kernel) rfl rfl ⟨rfl, rfl⟩ (tX11_drain_0 hw.N o h1 hf)
set_option maxRecDepth 100000 in
theorem tX11_drained_0 {X : zX} {e : Nat → Prop} (hw : zWf X e) {v1 : Int} (o : zOk e (0, 0, 0)) (h1 : e 1) {I : zMem} {u : (Int × zMem)} (hf : fX11_drained v1 I = some u) : zW X (some (vi u.1), u.2) mX11_drained 0 [(0, .ref (zad X (0, 0, 0))), (1, vi v1)] [] I := by
  unfold fX11_drained at hf
  refine zW_iload_n 1 dX11_drained_0 rfl ?_
  refine zF_if_ge 7 dX11_drained_1 rfl rfl hf (fun c hf => ?_) (fun c hf => ?_)
  · refine zW_aload_n 0 dX11_drained_7 rfl ?_
    refine zW_getR (q' := (5, 0, 0)) lk_RX11_42 (hw.1 _ o) rfl rfl (hw.2.1 _ _ _ o rfl) dX11_drained_8 ?_
    refine zW_aload_n 0 dX11_drained_11 rfl ?_
    refine zW_getR (q' := (7, 1, 0)) lk_RX11_56 (hw.1 _ o) rfl rfl (hw.2.1 _ _ _ o rfl) dX11_drained_12 ?_
    refine zW_iconst dX11_drained_15 ?_
    refine zC_Vwi (As := [.ref (zad X (7, 1, 0)), vi 0]) (fun x hx => kX0_roundsTillClear hw (L2 := 1) (v2 := 0) (zokA (r' := 5) o rfl rfl) (zok1 (r' := 7) h1 rfl) hx) mv_RX11_273 (hw.1 _ (zokA (r' := 5) o rfl rfl)) rfl rfl rfl rfl rfl dX11_drained_16 hf (fun r1 hf => ?_)
    refine zW_pop dX11_drained_19 rfl ?_
    refine zW_aload_n 0 dX11_drained_20 rfl ?_
    refine zW_getR (q' := (5, 0, 0)) lk_RX11_42 (hw.1 _ o) rfl rfl (hw.2.1 _ _ _ o rfl) dX11_drained_21 ?_
    refine zW_getR (q' := (7, 0, 0)) lk_RX11_277 (hw.1 _ (zokA (r' := 5) o rfl rfl)) rfl rfl (hw.2.1 _ _ _ (zokA (r' := 5) o rfl rfl) rfl) dX11_drained_24 ?_
    refine zW_getR (q' := (9, 0, 0)) lk_RX11_246 (hw.1 _ (zokA0 (r' := 7) (zokA (r' := 5) o rfl rfl) rfl rfl)) rfl rfl (hw.2.1 _ _ _ (zokA0 (r' := 7) (zokA (r' := 5) o rfl rfl) rfl rfl) rfl) dX11_drained_27 ?_
    refine zW_astore_n (lv' := [(2, .ref (zad X (9, 0, 0))), (0, .ref (zad X (0, 0, 0))), (1, vi v1)]) dX11_drained_30 rfl rfl ?_
    refine zW_aload_n 0 dX11_drained_31 rfl ?_
    refine zW_getI lk_RX11_250 (hw.1 _ (zokB (r' := 9) (zokA0 (r' := 7) (zokA (r' := 5) o rfl rfl) rfl rfl) rfl rfl)) rfl rfl dX11_drained_32 ?_
    refine zW_aload_n 1 dX11_drained_35 rfl ?_
    refine zW_getR (q' := (7, 1, 0)) lk_RX11_56 (hw.1 _ o) rfl rfl (hw.2.1 _ _ _ o rfl) dX11_drained_36 ?_
    refine zW_getR (q' := (9, 1, 0)) lk_RX11_246 (hw.1 _ (zok1 (r' := 7) h1 rfl)) rfl rfl (hw.2.1 _ _ _ (zok1 (r' := 7) h1 rfl) rfl) dX11_drained_39 ?_
    refine zW_getI lk_RX11_250 (hw.1 _ (zokB (r' := 9) (zok1 (r' := 7) h1 rfl) rfl rfl)) rfl rfl dX11_drained_42 ?_
    refine zW_isub dX11_drained_45 ?_
    refine zF_istore_n (lv' := fun a2 => [(3, vi a2), (2, .ref (zad X (9, 0, 0))), (0, .ref (zad X (0, 0, 0))), (1, vi v1)]) dX11_drained_46 hf (fun _ => rfl) rfl (fun a2 hf => ?_)
    refine zW_iload_n 3 dX11_drained_47 rfl ?_
    refine zW_iload_n 0 dX11_drained_48 rfl ?_
    refine zF_icmp_ge 64 dX11_drained_49 rfl rfl rfl hf (fun c hf => ?_) (fun c hf => ?_)
    · refine zW_iconst dX11_drained_64 ?_
      exact zR_i hw rfl dX11_drained_65 hf
    · refine zW_aload_n 1 dX11_drained_52 rfl ?_
      refine zW_iload_n 0 dX11_drained_53 rfl ?_
      refine zW_iconst dX11_drained_54 ?_
      refine zW_isub dX11_drained_55 ?_
      refine zW_iload_n 3 dX11_drained_56 rfl ?_
      refine zW_isub dX11_drained_57 ?_
      refine zC_Vri (As := [vi ((a2 - 1) - v1)]) (fun x hx => kX5_givenAgo hw (L := 0) (v1 := (a2 - 1) - v1) (zokB (r' := 9) (zokA0 (r' := 7) (zokA (r' := 5) o rfl rfl) rfl rfl) rfl rfl) hx) mv_RX11_280 (hw.1 _ (zokB (r' := 9) (zokA0 (r' := 7) (zokA (r' := 5) o rfl rfl) rfl rfl) rfl rfl)) rfl rfl rfl rfl rfl dX11_drained_58 hf (fun r3 hf => ?_)
      refine zW_goto 65 dX11_drained_61 rfl ?_
      exact zR_i hw rfl dX11_drained_65 hf
  · refine zW_bipush dX11_drained_4 rfl ?_
    exact zR_i hw rfl dX11_drained_6 hf
theorem kX11_drained {X : zX} {e : Nat → Prop} (hw : zWf X e) {v1 : Int} (o : zOk e (0, 0, 0)) (h1 : e 1) {I : zMem} {u : (Int × zMem)} (hf : fX11_drained v1 I = some u) : zCn X mX11_drained yX11_drained [.ref (zad X (0, 0, 0)), vi v1] I (some (vi u.1), u.2) := zCn_of (by decide +kernel) rfl rfl ⟨rfl, rfl⟩ (tX11_drained_0 hw.N o h1 hf)
set_option maxRecDepth 100000 in
theorem tX11_worst_b32_83 {X : zX} {e : Nat → Prop} (hw : zWf X e) {T : zT} {v1 : Int} {v2 : Int} {w3 : Int} {w4 : Int} {w5 : Int} {I : zMem} (o : zOk e (0, 0, 0)) (h1 : e 1) {u : ((Int × Int × Int × zMem) ⊕ (Int × Int × Int × zMem))} (hf : fX11_worst_b32_83 v1 v2 w3 w4 w5 I = some u) (hk : ∀ s', u = .inl s' → zW X T mX11_worst 32 [(0, .ref (zad X (0, 0, 0))), (1, vi v1), (2, vi v2), (3, vi s'.1), (4, vi s'.2.1), (5, vi s'.2.2.1)] [] s'.2.2.2) (hx : ∀ x, u = .inr x → zW X T mX11_worst 89 [(2, vi v2), (3, vi x.1), (4, vi x.2.1)] [] x.2.2.2) : zW X T mX11_worst 83 [(0, .ref (zad X (0, 0, 0))), (1, vi v1), (2, vi v2), (3, vi w3), (4, vi w4), (5, vi w5)] [] I := by
  unfold fX11_worst_b32_83 at hf
  refine zW_iinc 5 (lv' := [(5, vi (w5 + 1)), (0, .ref (zad X (0, 0, 0))), (1, vi v1), (2, vi v2), (3, vi w3), (4, vi w4)]) dX11_worst_83 rfl rfl rfl ?_
  refine zW_goto 32 dX11_worst_86 rfl ?_
  refine zW_sub [1, 2, 3, 4, 5, 0] rfl ?_
  exact hk _ (Option.some.inj hf).symm
set_option maxRecDepth 100000 in
theorem tX11_worst_b32_68 {X : zX} {e : Nat → Prop} (hw : zWf X e) {T : zT} {v1 : Int} {v2 : Int} {w3 : Int} {w4 : Int} {w5 : Int} {k0 : Int} {I : zMem} (o : zOk e (0, 0, 0)) (h1 : e 1) {u : ((Int × Int × Int × zMem) ⊕ (Int × Int × Int × zMem))} (hf : fX11_worst_b32_68 v1 v2 w3 w4 w5 k0 I = some u) (hk : ∀ s', u = .inl s' → zW X T mX11_worst 32 [(0, .ref (zad X (0, 0, 0))), (1, vi v1), (2, vi v2), (3, vi s'.1), (4, vi s'.2.1), (5, vi s'.2.2.1)] [] s'.2.2.2) (hx : ∀ x, u = .inr x → zW X T mX11_worst 89 [(2, vi v2), (3, vi x.1), (4, vi x.2.1)] [] x.2.2.2) : zW X T mX11_worst 68 [(0, .ref (zad X (0, 0, 0))), (1, vi v1), (2, vi v2), (3, vi w3), (4, vi w4), (5, vi w5)] [vi k0] I := by
  unfold fX11_worst_b32_68 at hf
  refine zW_istore (lv' := [(7, vi k0), (0, .ref (zad X (0, 0, 0))), (1, vi v1), (2, vi v2), (3, vi w3), (4, vi w4), (5, vi w5)]) dX11_worst_68 rfl rfl ?_
  refine zW_iload 0 dX11_worst_70 rfl ?_
  refine zW_iload_n 4 dX11_worst_72 rfl ?_
  refine zF_icmp_le 83 dX11_worst_73 rfl rfl rfl hf (fun c hf => ?_) (fun c hf => ?_)
  · refine zW_sub [1, 2, 3, 4, 5, 6] rfl ?_
    exact tX11_worst_b32_83 hw o h1 hf hk hx
  · refine zW_iload 0 dX11_worst_76 rfl ?_
    refine zW_istore_n (lv' := [(3, vi k0), (7, vi k0), (0, .ref (zad X (0, 0, 0))), (1, vi v1), (2, vi v2), (4, vi w4), (5, vi w5)]) dX11_worst_78 rfl rfl ?_
    refine zW_iload 6 dX11_worst_79 rfl ?_
    refine zW_istore (lv' := [(4, vi w5), (3, vi k0), (7, vi k0), (0, .ref (zad X (0, 0, 0))), (1, vi v1), (2, vi v2), (5, vi w5)]) dX11_worst_81 rfl rfl ?_
    refine zW_sub [3, 4, 5, 1, 0, 6] rfl ?_
    exact tX11_worst_b32_83 hw o h1 hf hk hx
set_option maxRecDepth 100000 in
theorem tX11_worst_l32_y {X : zX} {e : Nat → Prop} (hw : zWf X e) {T : zT} {v1 : Int} {v2 : Int} (o : zOk e (0, 0, 0)) (h1 : e 1) (s : (Int × Int × Int × zMem)) {u : ((Int × Int × Int × zMem) ⊕ (Int × Int × Int × zMem))} (hf : fX11_worst_l32 v1 v2 s = some u) (hk : ∀ s', u = .inl s' → zW X T mX11_worst 32 [(0, .ref (zad X (0, 0, 0))), (1, vi v1), (2, vi v2), (3, vi s'.1), (4, vi s'.2.1), (5, vi s'.2.2.1)] [] s'.2.2.2) (hx : ∀ x, u = .inr x → zW X T mX11_worst 89 [(2, vi v2), (3, vi x.1), (4, vi x.2.1)] [] x.2.2.2) : zW X T mX11_worst 32 [(0, .ref (zad X (0, 0, 0))), (1, vi v1), (2, vi v2), (3, vi s.1), (4, vi s.2.1), (5, vi s.2.2.1)] [] s.2.2.2 := by
  unfold fX11_worst_l32 at hf
  refine zW_iload 5 dX11_worst_32 rfl ?_
  refine zW_iconst dX11_worst_34 ?_
  refine zW_iload_n 1 dX11_worst_35 rfl ?_
  refine zW_ishl dX11_worst_36 ?_
  refine zF_icmp_ge 89 dX11_worst_37 rfl rfl rfl hf (fun c hf => ?_) (fun c hf => ?_)
  · refine zW_sub [2, 3, 4] rfl ?_
    exact hx _ (Option.some.inj hf).symm
  · refine zW_aload_n 0 dX11_worst_40 rfl ?_
    refine zW_getR (q' := (5, 0, 0)) lk_RX11_42 (hw.1 _ o) rfl rfl (hw.2.1 _ _ _ o rfl) dX11_worst_41 ?_
    refine zW_aload_n 0 dX11_worst_44 rfl ?_
    refine zW_getR (q' := (7, 1, 0)) lk_RX11_56 (hw.1 _ o) rfl rfl (hw.2.1 _ _ _ o rfl) dX11_worst_45 ?_
    refine zW_iload 5 dX11_worst_48 rfl ?_
    refine zC_Vwi (As := [.ref (zad X (7, 1, 0)), vi s.2.2.1]) (fun x hx => kX0_roundsTillClear hw (L2 := 1) (v2 := s.2.2.1) (zokA (r' := 5) o rfl rfl) (zok1 (r' := 7) h1 rfl) hx) mv_RX11_273 (hw.1 _ (zokA (r' := 5) o rfl rfl)) rfl rfl rfl rfl rfl dX11_worst_50 hf (fun r1 hf => ?_)
    refine zW_istore (lv' := [(6, vi r1.1), (0, .ref (zad X (0, 0, 0))), (1, vi v1), (2, vi v2), (3, vi s.1), (4, vi s.2.1), (5, vi s.2.2.1)]) dX11_worst_53 rfl rfl ?_
    refine zW_iload 0 dX11_worst_55 rfl ?_
    refine zW_iconst dX11_worst_57 ?_
    refine zF_icmp_ne 66 dX11_worst_58 rfl rfl (w32_lit _ rfl) hf (fun c hf => ?_) (fun c hf => ?_)
    · refine zW_bipush dX11_worst_61 rfl ?_
      refine zW_goto 68 dX11_worst_63 rfl ?_
      refine zW_sub [1, 2, 3, 4, 5, 6] rfl ?_
      exact tX11_worst_b32_68 hw o h1 hf hk hx
    · refine zW_iload 0 dX11_worst_66 rfl ?_
      refine zW_sub [1, 2, 3, 4, 5, 6] rfl ?_
      exact tX11_worst_b32_68 hw o h1 hf hk hx
theorem tX11_worst_l32 {X : zX} {e : Nat → Prop} (hw : zWf X e) {T : zT} {v1 : Int} {v2 : Int} (o : zOk e (0, 0, 0)) (h1 : e 1) {s0 : (Int × Int × Int × zMem)} {α : Type} {F : (Int × Int × Int × zMem) → Option α} {u : α} (hf : zb (zlp (fX11_worst_l32 v1 v2) 5000 s0) F = some u) (kx : ∀ x, F x = some u → zW X T mX11_worst 89 [(2, vi v2), (3, vi x.1), (4, vi x.2.1)] [] x.2.2.2) : zW X T mX11_worst 32 [(0, .ref (zad X (0, 0, 0))), (1, vi v1), (2, vi v2), (3, vi s0.1), (4, vi s0.2.1), (5, vi s0.2.2.1)] [] s0.2.2.2 := by
  obtain ⟨x, h, hf⟩ := zb_inv hf
  exact zlp_W (P := fun s => zW X T mX11_worst 32 [(0, .ref (zad X (0, 0, 0))), (1, vi v1), (2, vi v2), (3, vi s.1), (4, vi s.2.1), (5, vi s.2.2.1)] [] s.2.2.2) (E := fun x => zW X T mX11_worst 89 [(2, vi v2), (3, vi x.1), (4, vi x.2.1)] [] x.2.2.2) (fun s u h hk hx => tX11_worst_l32_y hw o h1 s h hk hx) _ s0 x h (kx x hf)
set_option maxRecDepth 100000 in
theorem tX11_worst_0 {X : zX} {e : Nat → Prop} (hw : zWf X e) {v1 : Int} {v2 : Int} (o : zOk e (0, 0, 0)) (h1 : e 1) {I : zMem} {u : (Int × zMem)} (hf : fX11_worst v1 v2 I = some u) : zW X (some (vi u.1), u.2) mX11_worst 0 [(0, .ref (zad X (0, 0, 0))), (1, vi v1), (2, vi v2)] [] I := by
  unfold fX11_worst at hf
  refine zW_iload_n 2 dX11_worst_0 rfl ?_
  refine zF_if_lt 9 dX11_worst_1 rfl rfl hf (fun c hf => ?_) (fun c hf => ?_)
  · refine zW_bipush dX11_worst_9 rfl ?_
    exact zR_i hw rfl dX11_worst_11 hf
  · refine zW_iload_n 2 dX11_worst_4 rfl ?_
    refine zW_iconst dX11_worst_5 ?_
    refine zF_icmp_le 12 dX11_worst_6 rfl rfl (w32_lit _ rfl) hf (fun c hf => ?_) (fun c hf => ?_)
    · refine zW_iload_n 1 dX11_worst_12 rfl ?_
      refine zF_if_lt 21 dX11_worst_13 rfl rfl hf (fun c hf => ?_) (fun c hf => ?_)
      · refine zW_bipush dX11_worst_21 rfl ?_
        exact zR_i hw rfl dX11_worst_23 hf
      · refine zW_iload_n 1 dX11_worst_16 rfl ?_
        refine zW_iconst dX11_worst_17 ?_
        refine zF_icmp_le 24 dX11_worst_18 rfl rfl (w32_lit _ rfl) hf (fun c hf => ?_) (fun c hf => ?_)
        · refine zW_iconst dX11_worst_24 ?_
          refine zW_istore_n (lv' := [(3, vi 0), (0, .ref (zad X (0, 0, 0))), (1, vi v1), (2, vi v2)]) dX11_worst_25 rfl rfl ?_
          refine zW_iconst dX11_worst_26 ?_
          refine zW_istore (lv' := [(4, vi 0), (3, vi 0), (0, .ref (zad X (0, 0, 0))), (1, vi v1), (2, vi v2)]) dX11_worst_27 rfl rfl ?_
          refine zW_iconst dX11_worst_29 ?_
          refine zW_istore (lv' := [(5, vi 0), (4, vi 0), (3, vi 0), (0, .ref (zad X (0, 0, 0))), (1, vi v1), (2, vi v2)]) dX11_worst_30 rfl rfl ?_
          refine zW_sub [3, 4, 5, 2, 1, 0] rfl ?_
          refine tX11_worst_l32 hw o h1 (s0 := (0, 0, 0, I)) hf (fun x2 hf => ?_)
          refine zW_iload_n 0 dX11_worst_89 rfl ?_
          refine zW_iconst dX11_worst_90 ?_
          refine zF_icmp_ne 97 dX11_worst_91 rfl rfl (w32_lit _ rfl) hf (fun c hf => ?_) (fun c hf => ?_)
          · refine zW_iload 2 dX11_worst_94 rfl ?_
            exact zR_i hw rfl dX11_worst_96 hf
          · refine zW_iload_n 1 dX11_worst_97 rfl ?_
            refine zW_bipush dX11_worst_98 rfl ?_
            refine zF_icmp_le 107 dX11_worst_100 rfl rfl (w32_lit _ rfl) hf (fun c hf => ?_) (fun c hf => ?_)
            · refine zW_iload_n 1 dX11_worst_107 rfl ?_
              exact zR_i hw rfl dX11_worst_108 hf
            · refine zW_iconst dX11_worst_103 ?_
              refine zW_goto 108 dX11_worst_104 rfl ?_
              exact zR_i hw rfl dX11_worst_108 hf
        · refine zW_bipush dX11_worst_21 rfl ?_
          exact zR_i hw rfl dX11_worst_23 hf
    · refine zW_bipush dX11_worst_9 rfl ?_
      exact zR_i hw rfl dX11_worst_11 hf
theorem kX11_worst {X : zX} {e : Nat → Prop} (hw : zWf X e) {v1 : Int} {v2 : Int} (o : zOk e (0, 0, 0)) (h1 : e 1) {I : zMem} {u : (Int × zMem)} (hf : fX11_worst v1 v2 I = some u) : zCn X mX11_worst yX11_worst [.ref (zad X (0, 0, 0)), vi v1, vi v2] I (some (vi u.1), u.2) := zCn_of (by decide +kernel) rfl rfl ⟨rfl, rfl⟩ (tX11_worst_0 hw.N o h1 hf)
set_option maxRecDepth 100000 in
theorem tX11_process_b37 {X : zX} {e : Nat → Prop} (hw : zWf X e) {v1 : Int} {v2 : Int} {I : zMem} {wp3 : Nat} {k0 : Int} (o : zOk e (0, 0, 0)) (h1 : e 1) (wo3 : zOk e (10, 1, wp3)) {u : Int} (hf : fX11_process_b37 v1 v2 I wp3 k0 = some u) : zW X (some (vi u), I) mX11_process 37 [(0, .ref (zad X (0, 0, 0))), (2, vi v2), (3, .ref (zad X (10, 1, wp3)))] [vi k0] I := by
  unfold fX11_process_b37 at hf
  refine zW_istore (lv' := [(4, vi k0), (0, .ref (zad X (0, 0, 0))), (2, vi v2), (3, .ref (zad X (10, 1, wp3)))]) dX11_process_37 rfl rfl ?_
  refine zW_iload_n 2 dX11_process_39 rfl ?_
  rcases zif hf with ⟨ts0, hf⟩ | ⟨ts0, hf⟩
  · refine zW_tab 0 80 dX11_process_40 (by rw [ts0]; rfl) rfl rfl rfl ?_
    refine zW_aload_n 3 dX11_process_80 rfl ?_
    refine zW_getI lk_RX11_283 (hw.1 _ wo3) rfl rfl dX11_process_81 ?_
    exact zS_i hw rfl dX11_process_84 hf
  · rcases zif hf with ⟨ts1, hf⟩ | ⟨ts1, hf⟩
    · refine zW_tab 1 85 dX11_process_40 (by rw [ts1]; rfl) rfl rfl rfl ?_
      refine zW_iload 0 dX11_process_85 rfl ?_
      refine zF_if_eq 94 dX11_process_87 rfl rfl hf (fun c hf => ?_) (fun c hf => ?_)
      · refine zW_aload_n 1 dX11_process_94 rfl ?_
        refine zW_getR (q' := (7, 1, 0)) lk_RX11_56 (hw.1 _ o) rfl rfl (hw.2.1 _ _ _ o rfl) dX11_process_95 ?_
        refine zW_getR (q' := (8, 1, 0)) lk_RX11_188 (hw.1 _ (zok1 (r' := 7) h1 rfl)) rfl rfl (hw.2.1 _ _ _ (zok1 (r' := 7) h1 rfl) rfl) dX11_process_98 ?_
        refine zW_getR (q' := (34, 1, 0)) lk_RX11_286 (hw.1 _ (zokB (r' := 8) (zok1 (r' := 7) h1 rfl) rfl rfl)) rfl rfl (hw.2.1 _ _ _ (zokB (r' := 8) (zok1 (r' := 7) h1 rfl) rfl rfl) rfl) dX11_process_101 ?_
        refine zW_aload_n 3 dX11_process_104 rfl ?_
        refine zW_getI lk_RX11_283 (hw.1 _ wo3) rfl rfl dX11_process_105 ?_
        obtain ⟨c3, hf⟩ := zgd hf
        refine zF_iald (hw.1 _ (zokB (r' := 34) (zokB (r' := 8) (zok1 (r' := 7) h1 rfl) rfl rfl) rfl rfl)) rfl c3 rfl dX11_process_108 ?_
        exact zS_i hw rfl dX11_process_109 hf
      · refine zW_iconst dX11_process_90 ?_
        refine zW_goto 109 dX11_process_91 rfl ?_
        exact zS_i hw rfl dX11_process_109 hf
    · rcases zif hf with ⟨ts2, hf⟩ | ⟨ts2, hf⟩
      · refine zW_tab 2 110 dX11_process_40 (by rw [ts2]; rfl) rfl rfl rfl ?_
        refine zW_aload_n 3 dX11_process_110 rfl ?_
        refine zW_getI lk_RX11_289 (hw.1 _ wo3) rfl rfl dX11_process_111 ?_
        exact zS_i hw rfl dX11_process_114 hf
      · rcases zif hf with ⟨ts3, hf⟩ | ⟨ts3, hf⟩
        · refine zW_tab 3 115 dX11_process_40 (by rw [ts3]; rfl) rfl rfl rfl ?_
          refine zW_iload 0 dX11_process_115 rfl ?_
          refine zF_if_eq 124 dX11_process_117 rfl rfl hf (fun c hf => ?_) (fun c hf => ?_)
          · refine zW_aload_n 3 dX11_process_124 rfl ?_
            refine zW_getI lk_RX11_292 (hw.1 _ wo3) rfl rfl dX11_process_125 ?_
            exact zS_i hw rfl dX11_process_128 hf
          · refine zW_iconst dX11_process_120 ?_
            refine zW_goto 128 dX11_process_121 rfl ?_
            exact zS_i hw rfl dX11_process_128 hf
        · rcases zif hf with ⟨ts4, hf⟩ | ⟨ts4, hf⟩
          · refine zW_tab 4 129 dX11_process_40 (by rw [ts4]; rfl) rfl rfl rfl ?_
            refine zW_aload_n 3 dX11_process_129 rfl ?_
            refine zW_getI lk_RX11_230 (hw.1 _ wo3) rfl rfl dX11_process_130 ?_
            refine zF_if_eq 140 dX11_process_133 rfl rfl hf (fun c hf => ?_) (fun c hf => ?_)
            · refine zW_iconst dX11_process_140 ?_
              exact zS_i hw rfl dX11_process_141 hf
            · refine zW_iconst dX11_process_136 ?_
              refine zW_goto 141 dX11_process_137 rfl ?_
              exact zS_i hw rfl dX11_process_141 hf
          · rcases zif hf with ⟨ts5, hf⟩ | ⟨ts5, hf⟩
            · refine zW_tab 5 142 dX11_process_40 (by rw [ts5]; rfl) rfl rfl rfl ?_
              refine zW_iload 0 dX11_process_142 rfl ?_
              refine zF_if_eq 151 dX11_process_144 rfl rfl hf (fun c hf => ?_) (fun c hf => ?_)
              · refine zW_getv0 ws_RX11_295 dX11_process_151 ?_
                refine zW_aload_n 3 dX11_process_154 rfl ?_
                refine zW_getI lk_RX11_292 (hw.1 _ wo3) rfl rfl dX11_process_155 ?_
                refine zW_iconst dX11_process_158 ?_
                refine zW_iand_3 dX11_process_159 ?_
                obtain ⟨c4, hf⟩ := zgd hf
                refine zW_vald c4 dX11_process_160 ?_
                exact zS_i hw rfl dX11_process_161 hf
              · refine zW_iconst dX11_process_147 ?_
                refine zW_goto 161 dX11_process_148 rfl ?_
                exact zS_i hw rfl dX11_process_161 hf
            · refine zW_tabd 162 dX11_process_40 (by omega) rfl ?_
              refine zW_bipush dX11_process_162 rfl ?_
              exact zS_i hw rfl dX11_process_164 hf
set_option maxRecDepth 100000 in
theorem tX11_process_0 {X : zX} {e : Nat → Prop} (hw : zWf X e) {v1 : Int} {v2 : Int} (o : zOk e (0, 0, 0)) (h1 : e 1) {I : zMem} {u : Int} (hf : fX11_process v1 v2 I = some u) : zW X (some (vi u), I) mX11_process 0 [(0, .ref (zad X (0, 0, 0))), (1, vi v1), (2, vi v2)] [] I := by
  unfold fX11_process at hf
  refine zW_aload_n 0 dX11_process_0 rfl ?_
  refine zW_iload_n 1 dX11_process_1 rfl ?_
  refine zC_Vri (As := [vi v1]) (fun x hx => kX11_isProcess hw (v1 := v1) o h1 hx) mv_RX11_200 (hw.1 _ o) rfl rfl rfl rfl rfl dX11_process_2 hf (fun r1 hf => ?_)
  refine zF_if_ne 11 dX11_process_5 rfl rfl hf (fun c hf => ?_) (fun c hf => ?_)
  · refine zW_bipush dX11_process_8 rfl ?_
    exact zS_i hw rfl dX11_process_10 hf
  · refine zW_aload_n 0 dX11_process_11 rfl ?_
    refine zW_getR (q' := (7, 1, 0)) lk_RX11_56 (hw.1 _ o) rfl rfl (hw.2.1 _ _ _ o rfl) dX11_process_12 ?_
    refine zW_getR (q' := (8, 1, 0)) lk_RX11_188 (hw.1 _ (zok1 (r' := 7) h1 rfl)) rfl rfl (hw.2.1 _ _ _ (zok1 (r' := 7) h1 rfl) rfl) dX11_process_15 ?_
    refine zW_getR (q' := (32, 1, 0)) lk_RX11_226 (hw.1 _ (zokB (r' := 8) (zok1 (r' := 7) h1 rfl) rfl rfl)) rfl rfl (hw.2.1 _ _ _ (zokB (r' := 8) (zok1 (r' := 7) h1 rfl) rfl rfl) rfl) dX11_process_18 ?_
    refine zW_iload_n 1 dX11_process_21 rfl ?_
    obtain ⟨c2, hf⟩ := zgd hf
    refine zW_aald (q' := (10, 1, ix v1)) 6 rfl rfl (hw.1 _ (zokB (r' := 32) (zokB (r' := 8) (zok1 (r' := 7) h1 rfl) rfl rfl) rfl rfl)) rfl rfl c2 (hw.2.1 _ _ _ (zokB (r' := 32) (zokB (r' := 8) (zok1 (r' := 7) h1 rfl) rfl rfl) rfl rfl) rfl) dX11_process_22 ?_
    refine zW_astore_n (lv' := [(3, .ref (zad X (10, 1, ix v1))), (0, .ref (zad X (0, 0, 0))), (1, vi v1), (2, vi v2)]) dX11_process_23 rfl rfl ?_
    refine zW_aload_n 0 dX11_process_24 rfl ?_
    refine zW_getI lk_RX11_283 (hw.1 _ (zokE (r' := 10) (zokB (r' := 32) (zokB (r' := 8) (zok1 (r' := 7) h1 rfl) rfl rfl) rfl rfl) rfl rfl c2)) rfl rfl dX11_process_25 ?_
    refine zW_iconst dX11_process_28 ?_
    refine zF_icmp_ne 36 dX11_process_29 rfl rfl (w32_lit _ rfl) hf (fun c hf => ?_) (fun c hf => ?_)
    · refine zW_iconst dX11_process_32 ?_
      refine zW_goto 37 dX11_process_33 rfl ?_
      refine zW_sub [1, 3, 0] rfl ?_
      exact tX11_process_b37 hw o h1 (zokE (r' := 10) (zokB (r' := 32) (zokB (r' := 8) (zok1 (r' := 7) h1 rfl) rfl rfl) rfl rfl) rfl rfl c2) hf
    · refine zW_iconst dX11_process_36 ?_
      refine zW_sub [1, 3, 0] rfl ?_
      exact tX11_process_b37 hw o h1 (zokE (r' := 10) (zokB (r' := 32) (zokB (r' := 8) (zok1 (r' := 7) h1 rfl) rfl rfl) rfl rfl) rfl rfl c2) hf
theorem kX11_process {X : zX} {e : Nat → Prop} (hw : zWf X e) {v1 : Int} {v2 : Int} (o : zOk e (0, 0, 0)) (h1 : e 1) {I : zMem} {u : Int} (hf : fX11_process v1 v2 I = some u) : zCn X mX11_process yX11_process [.ref (zad X (0, 0, 0)), vi v1, vi v2] I (some (vi u), I) := zCn_of (by decide +kernel) rfl rfl ⟨rfl, rfl⟩ (tX11_process_0 hw.N o h1 hf)
set_option maxRecDepth 100000 in
theorem tX11_kept_0 {X : zX} {e : Nat → Prop} (hw : zWf X e) {v1 : Int} {v2 : Int} (o : zOk e (0, 0, 0)) (h1 : e 1) {I : zMem} {u : Int} (hf : fX11_kept v1 v2 I = some u) : zW X (some (vi u), I) mX11_kept 0 [(0, .ref (zad X (0, 0, 0))), (1, vi v1), (2, vi v2)] [] I := by
  unfold fX11_kept at hf
  refine zW_iload_n 1 dX11_kept_0 rfl ?_
  refine zC_Sri (As := [vi v1]) (fun x hx => kX11_isSn hw (v0 := v1)  hx) ms_RX11_75 rfl rfl rfl rfl dX11_kept_1 hf (fun r1 hf => ?_)
  refine zF_if_eq 16 dX11_kept_4 rfl rfl hf (fun c hf => ?_) (fun c hf => ?_)
  · refine zW_bipush dX11_kept_16 rfl ?_
    exact zS_i hw rfl dX11_kept_18 hf
  · refine zW_iload_n 2 dX11_kept_7 rfl ?_
    refine zF_if_lt 16 dX11_kept_8 rfl rfl hf (fun c hf => ?_) (fun c hf => ?_)
    · refine zW_bipush dX11_kept_16 rfl ?_
      exact zS_i hw rfl dX11_kept_18 hf
    · refine zW_iload_n 2 dX11_kept_11 rfl ?_
      refine zW_iconst dX11_kept_12 ?_
      refine zF_icmp_le 19 dX11_kept_13 rfl rfl (w32_lit _ rfl) hf (fun c hf => ?_) (fun c hf => ?_)
      · refine zW_aload_n 0 dX11_kept_19 rfl ?_
        refine zW_getR (q' := (7, 1, 0)) lk_RX11_56 (hw.1 _ o) rfl rfl (hw.2.1 _ _ _ o rfl) dX11_kept_20 ?_
        refine zW_getR (q' := (8, 1, 0)) lk_RX11_188 (hw.1 _ (zok1 (r' := 7) h1 rfl)) rfl rfl (hw.2.1 _ _ _ (zok1 (r' := 7) h1 rfl) rfl) dX11_kept_23 ?_
        refine zW_iload_n 1 dX11_kept_26 rfl ?_
        refine zC_Vri (As := [vi v1]) (fun x hx => kX7_isKept hw (L := 1) (v1 := v1) (zokB (r' := 8) (zok1 (r' := 7) h1 rfl) rfl rfl) hx) mv_RX11_298 (hw.1 _ (zokB (r' := 8) (zok1 (r' := 7) h1 rfl) rfl rfl)) rfl rfl rfl rfl rfl dX11_kept_27 hf (fun r2 hf => ?_)
        refine zF_if_ne 35 dX11_kept_30 rfl rfl hf (fun c hf => ?_) (fun c hf => ?_)
        · refine zW_iconst dX11_kept_33 ?_
          exact zS_i hw rfl dX11_kept_34 hf
        · refine zW_iload_n 2 dX11_kept_35 rfl ?_
          refine zF_if_ne 54 dX11_kept_36 rfl rfl hf (fun c hf => ?_) (fun c hf => ?_)
          · refine zW_aload_n 0 dX11_kept_39 rfl ?_
            refine zW_getR (q' := (7, 1, 0)) lk_RX11_56 (hw.1 _ o) rfl rfl (hw.2.1 _ _ _ o rfl) dX11_kept_40 ?_
            refine zW_getR (q' := (8, 1, 0)) lk_RX11_188 (hw.1 _ (zok1 (r' := 7) h1 rfl)) rfl rfl (hw.2.1 _ _ _ (zok1 (r' := 7) h1 rfl) rfl) dX11_kept_43 ?_
            refine zW_getR (q' := (34, 1, 0)) lk_RX11_286 (hw.1 _ (zokB (r' := 8) (zok1 (r' := 7) h1 rfl) rfl rfl)) rfl rfl (hw.2.1 _ _ _ (zokB (r' := 8) (zok1 (r' := 7) h1 rfl) rfl rfl) rfl) dX11_kept_46 ?_
            refine zW_iload_n 1 dX11_kept_49 rfl ?_
            obtain ⟨c3, hf⟩ := zgd hf
            refine zF_iald (hw.1 _ (zokB (r' := 34) (zokB (r' := 8) (zok1 (r' := 7) h1 rfl) rfl rfl) rfl rfl)) rfl c3 rfl dX11_kept_50 ?_
            refine zW_goto 66 dX11_kept_51 rfl ?_
            exact zS_i hw rfl dX11_kept_66 hf
          · refine zW_aload_n 0 dX11_kept_54 rfl ?_
            refine zW_getR (q' := (7, 1, 0)) lk_RX11_56 (hw.1 _ o) rfl rfl (hw.2.1 _ _ _ o rfl) dX11_kept_55 ?_
            refine zW_getR (q' := (8, 1, 0)) lk_RX11_188 (hw.1 _ (zok1 (r' := 7) h1 rfl)) rfl rfl (hw.2.1 _ _ _ (zok1 (r' := 7) h1 rfl) rfl) dX11_kept_58 ?_
            refine zW_getR (q' := (35, 1, 0)) lk_RX11_301 (hw.1 _ (zokB (r' := 8) (zok1 (r' := 7) h1 rfl) rfl rfl)) rfl rfl (hw.2.1 _ _ _ (zokB (r' := 8) (zok1 (r' := 7) h1 rfl) rfl rfl) rfl) dX11_kept_61 ?_
            refine zW_iload_n 1 dX11_kept_64 rfl ?_
            obtain ⟨c4, hf⟩ := zgd hf
            refine zF_iald (hw.1 _ (zokB (r' := 35) (zokB (r' := 8) (zok1 (r' := 7) h1 rfl) rfl rfl) rfl rfl)) rfl c4 rfl dX11_kept_65 ?_
            exact zS_i hw rfl dX11_kept_66 hf
      · refine zW_bipush dX11_kept_16 rfl ?_
        exact zS_i hw rfl dX11_kept_18 hf
theorem kX11_kept {X : zX} {e : Nat → Prop} (hw : zWf X e) {v1 : Int} {v2 : Int} (o : zOk e (0, 0, 0)) (h1 : e 1) {I : zMem} {u : Int} (hf : fX11_kept v1 v2 I = some u) : zCn X mX11_kept yX11_kept [.ref (zad X (0, 0, 0)), vi v1, vi v2] I (some (vi u), I) := zCn_of (by decide +kernel) rfl rfl ⟨rfl, rfl⟩ (tX11_kept_0 hw.N o h1 hf)
set_option maxRecDepth 100000 in
theorem tX11_again_0 {X : zX} {e : Nat → Prop} (hw : zWf X e) {v1 : Int} (o : zOk e (0, 0, 0)) (h1 : e 1) {I : zMem} {u : Int} (hf : fX11_again v1 I = some u) : zW X (some (vi u), I) mX11_again 0 [(0, .ref (zad X (0, 0, 0))), (1, vi v1)] [] I := by
  unfold fX11_again at hf
  refine zW_iload_n 1 dX11_again_0 rfl ?_
  refine zF_if_ge 7 dX11_again_1 rfl rfl hf (fun c hf => ?_) (fun c hf => ?_)
  · refine zW_iload_n 1 dX11_again_7 rfl ?_
    refine zW_aload_n 0 dX11_again_8 rfl ?_
    refine zW_getR (q' := (7, 1, 0)) lk_RX11_56 (hw.1 _ o) rfl rfl (hw.2.1 _ _ _ o rfl) dX11_again_9 ?_
    refine zW_getR (q' := (8, 1, 0)) lk_RX11_188 (hw.1 _ (zok1 (r' := 7) h1 rfl)) rfl rfl (hw.2.1 _ _ _ (zok1 (r' := 7) h1 rfl) rfl) dX11_again_12 ?_
    refine zW_getI lk_RX11_263 (hw.1 _ (zokB (r' := 8) (zok1 (r' := 7) h1 rfl) rfl rfl)) rfl rfl dX11_again_15 ?_
    refine zF_icmp_ge 36 dX11_again_18 rfl rfl rfl hf (fun c hf => ?_) (fun c hf => ?_)
    · refine zW_iconst dX11_again_36 ?_
      exact zS_i hw rfl dX11_again_37 hf
    · refine zW_aload_n 0 dX11_again_21 rfl ?_
      refine zW_getR (q' := (7, 1, 0)) lk_RX11_56 (hw.1 _ o) rfl rfl (hw.2.1 _ _ _ o rfl) dX11_again_22 ?_
      refine zW_getR (q' := (8, 1, 0)) lk_RX11_188 (hw.1 _ (zok1 (r' := 7) h1 rfl)) rfl rfl (hw.2.1 _ _ _ (zok1 (r' := 7) h1 rfl) rfl) dX11_again_25 ?_
      refine zW_getR (q' := (36, 1, 0)) lk_RX11_304 (hw.1 _ (zokB (r' := 8) (zok1 (r' := 7) h1 rfl) rfl rfl)) rfl rfl (hw.2.1 _ _ _ (zokB (r' := 8) (zok1 (r' := 7) h1 rfl) rfl rfl) rfl) dX11_again_28 ?_
      refine zW_iload_n 1 dX11_again_31 rfl ?_
      obtain ⟨c1, hf⟩ := zgd hf
      refine zF_iald (hw.1 _ (zokB (r' := 36) (zokB (r' := 8) (zok1 (r' := 7) h1 rfl) rfl rfl) rfl rfl)) rfl c1 rfl dX11_again_32 ?_
      refine zW_goto 37 dX11_again_33 rfl ?_
      exact zS_i hw rfl dX11_again_37 hf
  · refine zW_bipush dX11_again_4 rfl ?_
    exact zS_i hw rfl dX11_again_6 hf
theorem kX11_again {X : zX} {e : Nat → Prop} (hw : zWf X e) {v1 : Int} (o : zOk e (0, 0, 0)) (h1 : e 1) {I : zMem} {u : Int} (hf : fX11_again v1 I = some u) : zCn X mX11_again yX11_again [.ref (zad X (0, 0, 0)), vi v1] I (some (vi u), I) := zCn_of (by decide +kernel) rfl rfl ⟨rfl, rfl⟩ (tX11_again_0 hw.N o h1 hf)
set_option maxRecDepth 100000 in
theorem tX11_waiting_0 {X : zX} {e : Nat → Prop} (hw : zWf X e) {v1 : Int} (o : zOk e (0, 0, 0)) (h1 : e 1) {I : zMem} {u : Int} (hf : fX11_waiting v1 I = some u) : zW X (some (vi u), I) mX11_waiting 0 [(0, .ref (zad X (0, 0, 0))), (1, vi v1)] [] I := by
  unfold fX11_waiting at hf
  refine zW_iload_n 1 dX11_waiting_0 rfl ?_
  refine zF_if_ge 7 dX11_waiting_1 rfl rfl hf (fun c hf => ?_) (fun c hf => ?_)
  · refine zW_iload_n 1 dX11_waiting_7 rfl ?_
    refine zW_aload_n 0 dX11_waiting_8 rfl ?_
    refine zW_getR (q' := (7, 1, 0)) lk_RX11_56 (hw.1 _ o) rfl rfl (hw.2.1 _ _ _ o rfl) dX11_waiting_9 ?_
    refine zW_getR (q' := (8, 1, 0)) lk_RX11_188 (hw.1 _ (zok1 (r' := 7) h1 rfl)) rfl rfl (hw.2.1 _ _ _ (zok1 (r' := 7) h1 rfl) rfl) dX11_waiting_12 ?_
    refine zW_getI lk_RX11_192 (hw.1 _ (zokB (r' := 8) (zok1 (r' := 7) h1 rfl) rfl rfl)) rfl rfl dX11_waiting_15 ?_
    refine zF_icmp_ge 36 dX11_waiting_18 rfl rfl rfl hf (fun c hf => ?_) (fun c hf => ?_)
    · refine zW_iconst dX11_waiting_36 ?_
      exact zS_i hw rfl dX11_waiting_37 hf
    · refine zW_aload_n 0 dX11_waiting_21 rfl ?_
      refine zW_getR (q' := (7, 1, 0)) lk_RX11_56 (hw.1 _ o) rfl rfl (hw.2.1 _ _ _ o rfl) dX11_waiting_22 ?_
      refine zW_getR (q' := (8, 1, 0)) lk_RX11_188 (hw.1 _ (zok1 (r' := 7) h1 rfl)) rfl rfl (hw.2.1 _ _ _ (zok1 (r' := 7) h1 rfl) rfl) dX11_waiting_25 ?_
      refine zW_getR (q' := (33, 1, 0)) lk_RX11_197 (hw.1 _ (zokB (r' := 8) (zok1 (r' := 7) h1 rfl) rfl rfl)) rfl rfl (hw.2.1 _ _ _ (zokB (r' := 8) (zok1 (r' := 7) h1 rfl) rfl rfl) rfl) dX11_waiting_28 ?_
      refine zW_iload_n 1 dX11_waiting_31 rfl ?_
      obtain ⟨c1, hf⟩ := zgd hf
      refine zF_iald (hw.1 _ (zokB (r' := 33) (zokB (r' := 8) (zok1 (r' := 7) h1 rfl) rfl rfl) rfl rfl)) rfl c1 rfl dX11_waiting_32 ?_
      refine zW_goto 37 dX11_waiting_33 rfl ?_
      exact zS_i hw rfl dX11_waiting_37 hf
  · refine zW_bipush dX11_waiting_4 rfl ?_
    exact zS_i hw rfl dX11_waiting_6 hf
theorem kX11_waiting {X : zX} {e : Nat → Prop} (hw : zWf X e) {v1 : Int} (o : zOk e (0, 0, 0)) (h1 : e 1) {I : zMem} {u : Int} (hf : fX11_waiting v1 I = some u) : zCn X mX11_waiting yX11_waiting [.ref (zad X (0, 0, 0)), vi v1] I (some (vi u), I) := zCn_of (by decide +kernel) rfl rfl ⟨rfl, rfl⟩ (tX11_waiting_0 hw.N o h1 hf)
set_option maxRecDepth 100000 in
theorem tX11_next_b54_146 {X : zX} {e : Nat → Prop} (hw : zWf X e) {T : zT} {v1 : Int} {v2 : Int} {wp3 : Nat} {w4 : Int} {w5 : Int} {w6 : Int} {I : zMem} (o : zOk e (0, 0, 0)) (h1 : e 1) (wo3 : zOk e (10, 1, wp3)) {u : ((Int × Int × Int × zMem) ⊕ (Int × Int × Int × zMem))} (hf : fX11_next_b54_146 v1 v2 wp3 w4 w5 w6 I = some u) (hk : ∀ s', u = .inl s' → zW X T mX11_next 54 [(0, .ref (zad X (0, 0, 0))), (2, vi v2), (3, .ref (zad X (10, 1, wp3))), (4, vi s'.1), (5, vi s'.2.1), (6, vi s'.2.2.1)] [] s'.2.2.2) (hx : ∀ x, u = .inr x → zW X T mX11_next 152 [(4, vi x.1)] [] x.2.2.2) : zW X T mX11_next 146 [(0, .ref (zad X (0, 0, 0))), (2, vi v2), (3, .ref (zad X (10, 1, wp3))), (4, vi w4), (5, vi w5), (6, vi w6)] [] I := by
  unfold fX11_next_b54_146 at hf
  refine zW_iinc 5 (lv' := [(6, vi (w6 + 1)), (0, .ref (zad X (0, 0, 0))), (2, vi v2), (3, .ref (zad X (10, 1, wp3))), (4, vi w4), (5, vi w5)]) dX11_next_146 rfl rfl rfl ?_
  refine zW_goto 54 dX11_next_149 rfl ?_
  refine zW_sub [1, 2, 3, 4, 5, 0] rfl ?_
  exact hk _ (Option.some.inj hf).symm
set_option maxRecDepth 100000 in
theorem tX11_next_l54_y {X : zX} {e : Nat → Prop} (hw : zWf X e) {T : zT} {v1 : Int} {v2 : Int} {wp3 : Nat} (o : zOk e (0, 0, 0)) (h1 : e 1) (wo3 : zOk e (10, 1, wp3)) (s : (Int × Int × Int × zMem)) {u : ((Int × Int × Int × zMem) ⊕ (Int × Int × Int × zMem))} (hf : fX11_next_l54 v1 v2 wp3 s = some u) (hk : ∀ s', u = .inl s' → zW X T mX11_next 54 [(0, .ref (zad X (0, 0, 0))), (2, vi v2), (3, .ref (zad X (10, 1, wp3))), (4, vi s'.1), (5, vi s'.2.1), (6, vi s'.2.2.1)] [] s'.2.2.2) (hx : ∀ x, u = .inr x → zW X T mX11_next 152 [(4, vi x.1)] [] x.2.2.2) : zW X T mX11_next 54 [(0, .ref (zad X (0, 0, 0))), (2, vi v2), (3, .ref (zad X (10, 1, wp3))), (4, vi s.1), (5, vi s.2.1), (6, vi s.2.2.1)] [] s.2.2.2 := by
  unfold fX11_next_l54 at hf
  refine zW_iload 5 dX11_next_54 rfl ?_
  refine zW_iconst dX11_next_56 ?_
  refine zF_icmp_ge 152 dX11_next_57 rfl rfl (w32_lit _ rfl) hf (fun c hf => ?_) (fun c hf => ?_)
  · refine zW_sub [3] rfl ?_
    exact hx _ (Option.some.inj hf).symm
  · refine zW_aload_n 2 dX11_next_60 rfl ?_
    refine zW_getR (q' := (37, 1, wp3)) lk_RX11_307 (hw.1 _ wo3) rfl rfl (hw.2.1 _ _ _ wo3 rfl) dX11_next_61 ?_
    refine zW_iconst dX11_next_64 ?_
    refine zW_aload_n 0 dX11_next_65 rfl ?_
    refine zW_getR (q' := (13, 0, 0)) lk_RX11_64 (hw.1 _ o) rfl rfl (hw.2.1 _ _ _ o rfl) dX11_next_66 ?_
    refine zW_iconst dX11_next_69 ?_
    refine zW_bipush dX11_next_70 rfl ?_
    refine zF_copy ma_RX11_310 (hw.1 _ (zokC (r' := 37) wo3 rfl rfl)) rfl (hw.1 _ (zokA (r' := 13) o rfl rfl)) rfl (by decide) (ix_lit _ rfl) (ix_lit _ rfl) (ix_lit _ rfl) rfl dX11_next_72 hf (fun I4 hf => ?_)
    refine zW_aload_n 0 dX11_next_75 rfl ?_
    refine zW_getR (q' := (2, 0, 0)) lk_RX11_19 (hw.1 _ o) rfl rfl (hw.2.1 _ _ _ o rfl) dX11_next_76 ?_
    refine zW_aload_n 0 dX11_next_79 rfl ?_
    refine zW_getR (q' := (7, 1, 0)) lk_RX11_56 (hw.1 _ o) rfl rfl (hw.2.1 _ _ _ o rfl) dX11_next_80 ?_
    refine zW_getI lk_RX11_94 (hw.1 _ (zok1 (r' := 7) h1 rfl)) rfl rfl dX11_next_83 ?_
    refine zW_iload 5 dX11_next_86 rfl ?_
    refine zW_iload_n 1 dX11_next_88 rfl ?_
    refine zC_Vwv (As := [vi (I4 (7, 1, 0) 4), vi s.2.2.1, vi v2]) (fun x hx => kX6_lay hw (v1 := I4 (7, 1, 0) 4) (v2 := s.2.2.1) (v3 := v2) (zokA (r' := 2) o rfl rfl) hx) mv_RX11_107 (hw.1 _ (zokA (r' := 2) o rfl rfl)) rfl rfl rfl rfl rfl dX11_next_89 hf (fun r5 hf => ?_)
    refine zW_aload_n 0 dX11_next_92 rfl ?_
    refine zW_getR (q' := (2, 0, 0)) lk_RX11_19 (hw.1 _ o) rfl rfl (hw.2.1 _ _ _ o rfl) dX11_next_93 ?_
    refine zW_aload_n 0 dX11_next_96 rfl ?_
    refine zW_getR (q' := (13, 0, 0)) lk_RX11_64 (hw.1 _ o) rfl rfl (hw.2.1 _ _ _ o rfl) dX11_next_97 ?_
    refine zW_iload_n 1 dX11_next_100 rfl ?_
    refine zC_Vwv (As := [.ref (zad X (13, 0, 0)), vi v2]) (fun x hx => kX6_addTo hw (q1 := (13, 0, 0)) (v2 := v2) (zokA (r' := 2) o rfl rfl) (hw.1 _ (zokA (r' := 13) o rfl rfl)) rfl hx) mv_RX11_316 (hw.1 _ (zokA (r' := 2) o rfl rfl)) rfl rfl rfl rfl rfl dX11_next_101 hf (fun r6 hf => ?_)
    refine zW_aload_n 0 dX11_next_104 rfl ?_
    refine zW_getR (q' := (3, 0, 0)) lk_RX11_26 (hw.1 _ o) rfl rfl (hw.2.1 _ _ _ o rfl) dX11_next_105 ?_
    refine zW_aload_n 0 dX11_next_108 rfl ?_
    refine zW_getR (q' := (13, 0, 0)) lk_RX11_64 (hw.1 _ o) rfl rfl (hw.2.1 _ _ _ o rfl) dX11_next_109 ?_
    refine zC_Vwv (As := [.ref (zad X (13, 0, 0))]) (fun x hx => kX10_take hw (q1 := (13, 0, 0)) (zokA (r' := 3) o rfl rfl) (hw.1 _ (zokA (r' := 13) o rfl rfl)) rfl hx) mv_RX11_320 (hw.1 _ (zokA (r' := 3) o rfl rfl)) rfl rfl rfl rfl rfl dX11_next_112 hf (fun r7 hf => ?_)
    refine zW_aload_n 0 dX11_next_115 rfl ?_
    refine zW_getR (q' := (3, 0, 0)) lk_RX11_26 (hw.1 _ o) rfl rfl (hw.2.1 _ _ _ o rfl) dX11_next_116 ?_
    refine zW_aload_n 0 dX11_next_119 rfl ?_
    refine zW_getR (q' := (1, 0, 0)) lk_RX11_12 (hw.1 _ o) rfl rfl (hw.2.1 _ _ _ o rfl) dX11_next_120 ?_
    refine zW_getR (q' := (17, 0, 0)) lk_RX11_134 (hw.1 _ (zokA (r' := 1) o rfl rfl)) rfl rfl (hw.2.1 _ _ _ (zokA (r' := 1) o rfl rfl) rfl) dX11_next_123 ?_
    refine zC_Vri (As := [.ref (zad X (17, 0, 0))]) (fun x hx => kX10_least hw (q1 := (17, 0, 0)) (n1 := 256) (zokA (r' := 3) o rfl rfl) (hw.1 _ (zokA (r' := 17) (zokA (r' := 1) o rfl rfl) rfl rfl)) rfl hx) mv_RX11_137 (hw.1 _ (zokA (r' := 3) o rfl rfl)) rfl rfl rfl rfl rfl dX11_next_126 hf (fun r8 hf => ?_)
    refine zW_istore (lv' := [(7, vi r8), (0, .ref (zad X (0, 0, 0))), (2, vi v2), (3, .ref (zad X (10, 1, wp3))), (4, vi s.1), (5, vi s.2.1), (6, vi s.2.2.1)]) dX11_next_129 rfl rfl ?_
    refine zW_iload 0 dX11_next_131 rfl ?_
    refine zW_iload 5 dX11_next_133 rfl ?_
    refine zF_icmp_le 146 dX11_next_135 rfl rfl rfl hf (fun c hf => ?_) (fun c hf => ?_)
    · refine zW_sub [1, 2, 3, 4, 5, 6] rfl ?_
      exact tX11_next_b54_146 hw o h1 wo3 hf hk hx
    · refine zW_iload 0 dX11_next_138 rfl ?_
      refine zW_istore (lv' := [(5, vi r8), (7, vi r8), (0, .ref (zad X (0, 0, 0))), (2, vi v2), (3, .ref (zad X (10, 1, wp3))), (4, vi s.1), (6, vi s.2.2.1)]) dX11_next_140 rfl rfl ?_
      refine zW_iload 6 dX11_next_142 rfl ?_
      refine zW_istore (lv' := [(4, vi s.2.2.1), (5, vi r8), (7, vi r8), (0, .ref (zad X (0, 0, 0))), (2, vi v2), (3, .ref (zad X (10, 1, wp3))), (6, vi s.2.2.1)]) dX11_next_144 rfl rfl ?_
      refine zW_sub [3, 4, 5, 0, 1, 6] rfl ?_
      exact tX11_next_b54_146 hw o h1 wo3 hf hk hx
theorem tX11_next_l54 {X : zX} {e : Nat → Prop} (hw : zWf X e) {T : zT} {v1 : Int} {v2 : Int} {wp3 : Nat} (o : zOk e (0, 0, 0)) (h1 : e 1) (wo3 : zOk e (10, 1, wp3)) {s0 : (Int × Int × Int × zMem)} {α : Type} {F : (Int × Int × Int × zMem) → Option α} {u : α} (hf : zb (zlp (fX11_next_l54 v1 v2 wp3) 5000 s0) F = some u) (kx : ∀ x, F x = some u → zW X T mX11_next 152 [(4, vi x.1)] [] x.2.2.2) : zW X T mX11_next 54 [(0, .ref (zad X (0, 0, 0))), (2, vi v2), (3, .ref (zad X (10, 1, wp3))), (4, vi s0.1), (5, vi s0.2.1), (6, vi s0.2.2.1)] [] s0.2.2.2 := by
  obtain ⟨x, h, hf⟩ := zb_inv hf
  exact zlp_W (P := fun s => zW X T mX11_next 54 [(0, .ref (zad X (0, 0, 0))), (2, vi v2), (3, .ref (zad X (10, 1, wp3))), (4, vi s.1), (5, vi s.2.1), (6, vi s.2.2.1)] [] s.2.2.2) (E := fun x => zW X T mX11_next 152 [(4, vi x.1)] [] x.2.2.2) (fun s u h hk hx => tX11_next_l54_y hw o h1 wo3 s h hk hx) _ s0 x h (kx x hf)
set_option maxRecDepth 100000 in
theorem tX11_next_0 {X : zX} {e : Nat → Prop} (hw : zWf X e) {v1 : Int} {v2 : Int} (o : zOk e (0, 0, 0)) (h1 : e 1) {I : zMem} {u : (Int × zMem)} (hf : fX11_next v1 v2 I = some u) : zW X (some (vi u.1), u.2) mX11_next 0 [(0, .ref (zad X (0, 0, 0))), (1, vi v1), (2, vi v2)] [] I := by
  unfold fX11_next at hf
  refine zW_aload_n 0 dX11_next_0 rfl ?_
  refine zW_iload_n 1 dX11_next_1 rfl ?_
  refine zC_Vri (As := [vi v1]) (fun x hx => kX11_isProcess hw (v1 := v1) o h1 hx) mv_RX11_200 (hw.1 _ o) rfl rfl rfl rfl rfl dX11_next_2 hf (fun r1 hf => ?_)
  refine zF_if_ne 11 dX11_next_5 rfl rfl hf (fun c hf => ?_) (fun c hf => ?_)
  · refine zW_bipush dX11_next_8 rfl ?_
    exact zR_i hw rfl dX11_next_10 hf
  · refine zW_iload_n 2 dX11_next_11 rfl ?_
    refine zC_Sri (As := [vi v2]) (fun x hx => kX11_isLength hw (v0 := v2)  hx) ms_RX11_104 rfl rfl rfl rfl dX11_next_12 hf (fun r2 hf => ?_)
    refine zF_if_ne 21 dX11_next_15 rfl rfl hf (fun c hf => ?_) (fun c hf => ?_)
    · refine zW_bipush dX11_next_18 rfl ?_
      exact zR_i hw rfl dX11_next_20 hf
    · refine zW_aload_n 0 dX11_next_21 rfl ?_
      refine zW_getR (q' := (7, 1, 0)) lk_RX11_56 (hw.1 _ o) rfl rfl (hw.2.1 _ _ _ o rfl) dX11_next_22 ?_
      refine zW_getR (q' := (8, 1, 0)) lk_RX11_188 (hw.1 _ (zok1 (r' := 7) h1 rfl)) rfl rfl (hw.2.1 _ _ _ (zok1 (r' := 7) h1 rfl) rfl) dX11_next_25 ?_
      refine zW_getR (q' := (32, 1, 0)) lk_RX11_226 (hw.1 _ (zokB (r' := 8) (zok1 (r' := 7) h1 rfl) rfl rfl)) rfl rfl (hw.2.1 _ _ _ (zokB (r' := 8) (zok1 (r' := 7) h1 rfl) rfl rfl) rfl) dX11_next_28 ?_
      refine zW_iload_n 1 dX11_next_31 rfl ?_
      obtain ⟨c3, hf⟩ := zgd hf
      refine zW_aald (q' := (10, 1, ix v1)) 6 rfl rfl (hw.1 _ (zokB (r' := 32) (zokB (r' := 8) (zok1 (r' := 7) h1 rfl) rfl rfl) rfl rfl)) rfl rfl c3 (hw.2.1 _ _ _ (zokB (r' := 32) (zokB (r' := 8) (zok1 (r' := 7) h1 rfl) rfl rfl) rfl rfl) rfl) dX11_next_32 ?_
      refine zW_astore_n (lv' := [(3, .ref (zad X (10, 1, ix v1))), (0, .ref (zad X (0, 0, 0))), (1, vi v1), (2, vi v2)]) dX11_next_33 rfl rfl ?_
      refine zW_aload_n 0 dX11_next_34 rfl ?_
      refine zW_getI lk_RX11_283 (hw.1 _ (zokE (r' := 10) (zokB (r' := 32) (zokB (r' := 8) (zok1 (r' := 7) h1 rfl) rfl rfl) rfl rfl) rfl rfl c3)) rfl rfl dX11_next_35 ?_
      refine zW_iconst dX11_next_38 ?_
      refine zF_icmp_ne 45 dX11_next_39 rfl rfl (w32_lit _ rfl) hf (fun c hf => ?_) (fun c hf => ?_)
      · refine zW_bipush dX11_next_42 rfl ?_
        exact zR_i hw rfl dX11_next_44 hf
      · refine zW_iconst dX11_next_45 ?_
        refine zW_istore (lv' := [(4, vi 0), (3, .ref (zad X (10, 1, ix v1))), (0, .ref (zad X (0, 0, 0))), (1, vi v1), (2, vi v2)]) dX11_next_46 rfl rfl ?_
        refine zW_iconst dX11_next_48 ?_
        refine zW_istore (lv' := [(5, vi (-1)), (4, vi 0), (3, .ref (zad X (10, 1, ix v1))), (0, .ref (zad X (0, 0, 0))), (1, vi v1), (2, vi v2)]) dX11_next_49 rfl rfl ?_
        refine zW_iconst dX11_next_51 ?_
        refine zW_istore (lv' := [(6, vi 0), (5, vi (-1)), (4, vi 0), (3, .ref (zad X (10, 1, ix v1))), (0, .ref (zad X (0, 0, 0))), (1, vi v1), (2, vi v2)]) dX11_next_52 rfl rfl ?_
        refine zW_sub [4, 6, 3, 2, 1, 0] rfl ?_
        refine tX11_next_l54 hw o h1 (zokE (r' := 10) (zokB (r' := 32) (zokB (r' := 8) (zok1 (r' := 7) h1 rfl) rfl rfl) rfl rfl) rfl rfl c3) (s0 := (0, (-1), 0, I)) hf (fun x9 hf => ?_)
        refine zW_iload 0 dX11_next_152 rfl ?_
        exact zR_i hw rfl dX11_next_154 hf
theorem kX11_next {X : zX} {e : Nat → Prop} (hw : zWf X e) {v1 : Int} {v2 : Int} (o : zOk e (0, 0, 0)) (h1 : e 1) {I : zMem} {u : (Int × zMem)} (hf : fX11_next v1 v2 I = some u) : zCn X mX11_next yX11_next [.ref (zad X (0, 0, 0)), vi v1, vi v2] I (some (vi u.1), u.2) := zCn_of (by decide +kernel) rfl rfl ⟨rfl, rfl⟩ (tX11_next_0 hw.N o h1 hf)
set_option maxRecDepth 100000 in
theorem tX11_enough_l129_y {X : zX} {e : Nat → Prop} (hw : zWf X e) {T : zT} {v1 : Int} {v2 : Int} {v3 : Int} {wp4 : Nat} {w6 : Int} (o : zOk e (0, 0, 0)) (h1 : e 1) (wo4 : zOk e (10, 1, wp4)) (s : (Int × zMem)) {u : ((Int × zMem) ⊕ ((Int × zMem) ⊕ (Int × zMem)))} (hf : fX11_enough_l129 v1 v2 v3 wp4 w6 s = some u) (hk : ∀ s', u = .inl s' → zW X T mX11_enough 129 [(0, .ref (zad X (0, 0, 0))), (2, vi v2), (3, vi v3), (4, .ref (zad X (10, 1, wp4))), (6, vi w6), (7, vi s'.1)] [] s'.2) (hx : ∀ x, u = .inr (.inl x) → zW X T mX11_enough 222 [] [] x.2) (hr : ∀ z : (Int × zMem), u = .inr (.inr z) → T = (some (vi z.1), z.2)) : zW X T mX11_enough 129 [(0, .ref (zad X (0, 0, 0))), (2, vi v2), (3, vi v3), (4, .ref (zad X (10, 1, wp4))), (6, vi w6), (7, vi s.1)] [] s.2 := by
  unfold fX11_enough_l129 at hf
  refine zW_iload 5 dX11_enough_129 rfl ?_
  refine zW_bipush dX11_enough_131 rfl ?_
  refine zF_icmp_ge 222 dX11_enough_133 rfl rfl (w32_lit _ rfl) hf (fun c hf => ?_) (fun c hf => ?_)
  · refine zW_sub [] rfl ?_
    exact hx _ (Option.some.inj hf).symm
  · refine zW_aload_n 0 dX11_enough_136 rfl ?_
    refine zW_getR (q' := (2, 0, 0)) lk_RX11_19 (hw.1 _ o) rfl rfl (hw.2.1 _ _ _ o rfl) dX11_enough_137 ?_
    refine zW_aload_n 0 dX11_enough_140 rfl ?_
    refine zW_getR (q' := (7, 1, 0)) lk_RX11_56 (hw.1 _ o) rfl rfl (hw.2.1 _ _ _ o rfl) dX11_enough_141 ?_
    refine zW_getI lk_RX11_94 (hw.1 _ (zok1 (r' := 7) h1 rfl)) rfl rfl dX11_enough_144 ?_
    refine zW_getv0 ws_RX11_295 dX11_enough_147 ?_
    refine zW_aload 3 dX11_enough_150 rfl ?_
    refine zW_getI lk_RX11_292 (hw.1 _ wo4) rfl rfl dX11_enough_152 ?_
    refine zW_iload 5 dX11_enough_155 rfl ?_
    refine zW_iadd dX11_enough_157 ?_
    refine zW_iconst dX11_enough_158 ?_
    refine zW_iand_3 dX11_enough_159 ?_
    obtain ⟨c6, hf⟩ := zgd hf
    refine zW_vald c6 dX11_enough_160 ?_
    refine zW_iload_n 1 dX11_enough_161 rfl ?_
    refine zC_Vwv (As := [vi (s.2 (7, 1, 0) 4), vi (zver (ix (((s.2 (10, 1, wp4) 2) + s.1) % 4))), vi v2]) (fun x hx => kX6_lay hw (v1 := s.2 (7, 1, 0) 4) (v2 := zver (ix (((s.2 (10, 1, wp4) 2) + s.1) % 4))) (v3 := v2) (zokA (r' := 2) o rfl rfl) hx) mv_RX11_107 (hw.1 _ (zokA (r' := 2) o rfl rfl)) rfl rfl rfl rfl rfl dX11_enough_162 hf (fun r7 hf => ?_)
    refine zW_aload_n 0 dX11_enough_165 rfl ?_
    refine zW_getR (q' := (5, 0, 0)) lk_RX11_42 (hw.1 _ o) rfl rfl (hw.2.1 _ _ _ o rfl) dX11_enough_166 ?_
    refine zW_aload_n 0 dX11_enough_169 rfl ?_
    refine zW_getR (q' := (14, 0, 0)) lk_RX11_68 (hw.1 _ o) rfl rfl (hw.2.1 _ _ _ o rfl) dX11_enough_170 ?_
    refine zW_aload_n 0 dX11_enough_173 rfl ?_
    refine zW_getR (q' := (1, 0, 0)) lk_RX11_12 (hw.1 _ o) rfl rfl (hw.2.1 _ _ _ o rfl) dX11_enough_174 ?_
    refine zW_getR (q' := (16, 0, 0)) lk_RX11_91 (hw.1 _ (zokA (r' := 1) o rfl rfl)) rfl rfl (hw.2.1 _ _ _ (zokA (r' := 1) o rfl rfl) rfl) dX11_enough_177 ?_
    refine zW_iload 4 dX11_enough_180 rfl ?_
    obtain ⟨c8, hf⟩ := zgd hf
    refine zF_lald (hw.1 _ (zokA (r' := 16) (zokA (r' := 1) o rfl rfl) rfl rfl)) rfl c8 rfl dX11_enough_182 ?_
    refine zW_iload_n 1 dX11_enough_183 rfl ?_
    refine zW_iload_n 2 dX11_enough_184 rfl ?_
    refine zW_aload_n 0 dX11_enough_185 rfl ?_
    refine zW_getR (q' := (7, 1, 0)) lk_RX11_56 (hw.1 _ o) rfl rfl (hw.2.1 _ _ _ o rfl) dX11_enough_186 ?_
    refine zW_getI lk_RX11_182 (hw.1 _ (zok1 (r' := 7) h1 rfl)) rfl rfl dX11_enough_189 ?_
    refine zC_Vwv (As := [.ref (zad X (14, 0, 0)), vl (r7 (16, 0, 0) (ix w6)), vi v2, vi v3, vi (r7 (7, 1, 0) 5)]) (fun x hx => kX0_addClean hw (q1 := (14, 0, 0)) (v2 := r7 (16, 0, 0) (ix w6)) (v4 := v2) (v5 := v3) (v6 := r7 (7, 1, 0) 5) (zokA (r' := 5) o rfl rfl) (hw.1 _ (zokA (r' := 14) o rfl rfl)) rfl hx) mv_RX11_345 (hw.1 _ (zokA (r' := 5) o rfl rfl)) rfl rfl rfl rfl rfl dX11_enough_192 hf (fun r9 hf => ?_)
    refine zW_aload_n 0 dX11_enough_195 rfl ?_
    refine zW_getR (q' := (4, 0, 0)) lk_RX11_33 (hw.1 _ o) rfl rfl (hw.2.1 _ _ _ o rfl) dX11_enough_196 ?_
    refine zW_aload_n 0 dX11_enough_199 rfl ?_
    refine zW_getR (q' := (14, 0, 0)) lk_RX11_68 (hw.1 _ o) rfl rfl (hw.2.1 _ _ _ o rfl) dX11_enough_200 ?_
    refine zC_Vwi (As := [.ref (zad X (14, 0, 0))]) (fun x hx => kX2_bestWord hw (q1 := (14, 0, 0)) (zokA (r' := 4) o rfl rfl) (hw.1 _ (zokA (r' := 14) o rfl rfl)) rfl hx) mv_RX11_349 (hw.1 _ (zokA (r' := 4) o rfl rfl)) rfl rfl rfl rfl rfl dX11_enough_203 hf (fun r10 hf => ?_)
    refine zW_iload 4 dX11_enough_206 rfl ?_
    refine zF_icmp_ne 216 dX11_enough_208 rfl rfl rfl hf (fun c hf => ?_) (fun c hf => ?_)
    · refine zW_iload 5 dX11_enough_211 rfl ?_
      refine zW_iconst dX11_enough_213 ?_
      refine zW_iadd dX11_enough_214 ?_
      exact zQ_i hw rfl dX11_enough_215 (hr _ (Option.some.inj hf).symm)
    · refine zW_iinc 5 (lv' := [(7, vi (s.1 + 1)), (0, .ref (zad X (0, 0, 0))), (2, vi v2), (3, vi v3), (4, .ref (zad X (10, 1, wp4))), (6, vi w6)]) dX11_enough_216 rfl rfl rfl ?_
      refine zW_goto 129 dX11_enough_219 rfl ?_
      refine zW_sub [1, 2, 3, 4, 5, 0] rfl ?_
      exact hk _ (Option.some.inj hf).symm
theorem tX11_enough_l129 {X : zX} {e : Nat → Prop} (hw : zWf X e) {T : zT} {v1 : Int} {v2 : Int} {v3 : Int} {wp4 : Nat} {w6 : Int} (o : zOk e (0, 0, 0)) (h1 : e 1) (wo4 : zOk e (10, 1, wp4)) {s0 : (Int × zMem)} {α : Type} {F : (Int × zMem) → Option α} {Gr : (Int × zMem) → α} {u : α} (hf : zbr (zlp (fX11_enough_l129 v1 v2 v3 wp4 w6) 5000 s0) F Gr = some u) (kx : ∀ x, F x = some u → zW X T mX11_enough 222 [] [] x.2) (kr : ∀ z, Gr z = u → T = (some (vi z.1), z.2)) : zW X T mX11_enough 129 [(0, .ref (zad X (0, 0, 0))), (2, vi v2), (3, vi v3), (4, .ref (zad X (10, 1, wp4))), (6, vi w6), (7, vi s0.1)] [] s0.2 := by
  have hb := zlp_W (body := fX11_enough_l129 v1 v2 v3 wp4 w6) (P := fun s => zW X T mX11_enough 129 [(0, .ref (zad X (0, 0, 0))), (2, vi v2), (3, vi v3), (4, .ref (zad X (10, 1, wp4))), (6, vi w6), (7, vi s.1)] [] s.2) (E := fun x => (∀ a, x = .inl a → zW X T mX11_enough 222 [] [] a.2) ∧ ∀ z, x = .inr z → T = (some (vi z.1), z.2)) (fun s u h hk hx => tX11_enough_l129_y hw o h1 wo4 s h hk (fun x hu => (hx _ hu).1 x rfl) (fun z hu => (hx _ hu).2 z rfl))
  rcases zbr_inv hf with ⟨x, h, hf⟩ | ⟨z, h, hz⟩
  · exact hb _ s0 _ h ⟨fun a ea => (by cases ea; exact kx _ hf), fun z ez => (by cases ez)⟩
  · exact hb _ s0 _ h ⟨fun a ea => (by cases ea), fun z ez => (by cases ez; exact kr _ hz)⟩
set_option maxRecDepth 100000 in
theorem tX11_enough_b112 {X : zX} {e : Nat → Prop} (hw : zWf X e) {v1 : Int} {v2 : Int} {v3 : Int} {wp4 : Nat} {I : zMem} (o : zOk e (0, 0, 0)) (h1 : e 1) (wo4 : zOk e (10, 1, wp4)) {u : (Int × zMem)} (hf : fX11_enough_b112 v1 v2 v3 wp4 I = some u) : zW X (some (vi u.1), u.2) mX11_enough 112 [(0, .ref (zad X (0, 0, 0))), (2, vi v2), (3, vi v3), (4, .ref (zad X (10, 1, wp4)))] [] I := by
  unfold fX11_enough_b112 at hf
  refine zW_aload_n 0 dX11_enough_112 rfl ?_
  refine zW_getR (q' := (7, 1, 0)) lk_RX11_56 (hw.1 _ o) rfl rfl (hw.2.1 _ _ _ o rfl) dX11_enough_113 ?_
  refine zW_getR (q' := (8, 1, 0)) lk_RX11_188 (hw.1 _ (zok1 (r' := 7) h1 rfl)) rfl rfl (hw.2.1 _ _ _ (zok1 (r' := 7) h1 rfl) rfl) dX11_enough_116 ?_
  refine zW_aload 3 dX11_enough_119 rfl ?_
  refine zC_Vri (As := [.ref (zad X (10, 1, wp4))]) (fun x hx => kX7_wordOn hw (L := 1) (L2 := 1) (p2 := wp4) (zokB (r' := 8) (zok1 (r' := 7) h1 rfl) rfl rfl) wo4 hx) mv_RX11_341 (hw.1 _ (zokB (r' := 8) (zok1 (r' := 7) h1 rfl) rfl rfl)) rfl rfl rfl rfl rfl dX11_enough_121 hf (fun r5 hf => ?_)
  refine zW_istore (lv' := [(6, vi r5), (0, .ref (zad X (0, 0, 0))), (2, vi v2), (3, vi v3), (4, .ref (zad X (10, 1, wp4)))]) dX11_enough_124 rfl rfl ?_
  refine zW_iconst dX11_enough_126 ?_
  refine zW_istore (lv' := [(7, vi 0), (6, vi r5), (0, .ref (zad X (0, 0, 0))), (2, vi v2), (3, vi v3), (4, .ref (zad X (10, 1, wp4)))]) dX11_enough_127 rfl rfl ?_
  refine zW_sub [2, 3, 4, 5, 1, 0] rfl ?_
  refine tX11_enough_l129 hw o h1 wo4 (s0 := (0, I)) hf (fun x11 hf => ?_) (fun z hz => by cases hz; rfl)
  refine zW_iconst dX11_enough_222 ?_
  exact zR_i hw rfl dX11_enough_223 hf
set_option maxRecDepth 100000 in
theorem tX11_enough_0 {X : zX} {e : Nat → Prop} (hw : zWf X e) {v1 : Int} {v2 : Int} {v3 : Int} (o : zOk e (0, 0, 0)) (h1 : e 1) {I : zMem} {u : (Int × zMem)} (hf : fX11_enough v1 v2 v3 I = some u) : zW X (some (vi u.1), u.2) mX11_enough 0 [(0, .ref (zad X (0, 0, 0))), (1, vi v1), (2, vi v2), (3, vi v3)] [] I := by
  unfold fX11_enough at hf
  refine zW_aload_n 0 dX11_enough_0 rfl ?_
  refine zW_iload_n 1 dX11_enough_1 rfl ?_
  refine zC_Vri (As := [vi v1]) (fun x hx => kX11_isProcess hw (v1 := v1) o h1 hx) mv_RX11_200 (hw.1 _ o) rfl rfl rfl rfl rfl dX11_enough_2 hf (fun r1 hf => ?_)
  refine zF_if_ne 11 dX11_enough_5 rfl rfl hf (fun c hf => ?_) (fun c hf => ?_)
  · refine zW_bipush dX11_enough_8 rfl ?_
    exact zR_i hw rfl dX11_enough_10 hf
  · refine zW_iload_n 2 dX11_enough_11 rfl ?_
    refine zC_Sri (As := [vi v2]) (fun x hx => kX11_isLength hw (v0 := v2)  hx) ms_RX11_104 rfl rfl rfl rfl dX11_enough_12 hf (fun r2 hf => ?_)
    refine zF_if_eq 29 dX11_enough_15 rfl rfl hf (fun c hf => ?_) (fun c hf => ?_)
    · refine zW_bipush dX11_enough_29 rfl ?_
      exact zR_i hw rfl dX11_enough_31 hf
    · refine zW_iload_n 3 dX11_enough_18 rfl ?_
      refine zW_iconst dX11_enough_19 ?_
      refine zF_icmp_lt 29 dX11_enough_20 rfl rfl (w32_lit _ rfl) hf (fun c hf => ?_) (fun c hf => ?_)
      · refine zW_bipush dX11_enough_29 rfl ?_
        exact zR_i hw rfl dX11_enough_31 hf
      · refine zW_iload_n 3 dX11_enough_23 rfl ?_
        refine zW_bipush dX11_enough_24 rfl ?_
        refine zF_icmp_le 32 dX11_enough_26 rfl rfl (w32_lit _ rfl) hf (fun c hf => ?_) (fun c hf => ?_)
        · refine zW_aload_n 0 dX11_enough_32 rfl ?_
          refine zW_getR (q' := (7, 1, 0)) lk_RX11_56 (hw.1 _ o) rfl rfl (hw.2.1 _ _ _ o rfl) dX11_enough_33 ?_
          refine zW_getR (q' := (8, 1, 0)) lk_RX11_188 (hw.1 _ (zok1 (r' := 7) h1 rfl)) rfl rfl (hw.2.1 _ _ _ (zok1 (r' := 7) h1 rfl) rfl) dX11_enough_36 ?_
          refine zW_getR (q' := (32, 1, 0)) lk_RX11_226 (hw.1 _ (zokB (r' := 8) (zok1 (r' := 7) h1 rfl) rfl rfl)) rfl rfl (hw.2.1 _ _ _ (zokB (r' := 8) (zok1 (r' := 7) h1 rfl) rfl rfl) rfl) dX11_enough_39 ?_
          refine zW_iload_n 1 dX11_enough_42 rfl ?_
          obtain ⟨c3, hf⟩ := zgd hf
          refine zW_aald (q' := (10, 1, ix v1)) 6 rfl rfl (hw.1 _ (zokB (r' := 32) (zokB (r' := 8) (zok1 (r' := 7) h1 rfl) rfl rfl) rfl rfl)) rfl rfl c3 (hw.2.1 _ _ _ (zokB (r' := 32) (zokB (r' := 8) (zok1 (r' := 7) h1 rfl) rfl rfl) rfl rfl) rfl) dX11_enough_43 ?_
          refine zW_astore (lv' := [(4, .ref (zad X (10, 1, ix v1))), (0, .ref (zad X (0, 0, 0))), (1, vi v1), (2, vi v2), (3, vi v3)]) dX11_enough_44 rfl rfl ?_
          refine zW_aload 0 dX11_enough_46 rfl ?_
          refine zW_getI lk_RX11_283 (hw.1 _ (zokE (r' := 10) (zokB (r' := 32) (zokB (r' := 8) (zok1 (r' := 7) h1 rfl) rfl rfl) rfl rfl) rfl rfl c3)) rfl rfl dX11_enough_48 ?_
          refine zW_iconst dX11_enough_51 ?_
          refine zF_icmp_ne 58 dX11_enough_52 rfl rfl (w32_lit _ rfl) hf (fun c hf => ?_) (fun c hf => ?_)
          · refine zW_bipush dX11_enough_55 rfl ?_
            exact zR_i hw rfl dX11_enough_57 hf
          · refine zW_aload_n 1 dX11_enough_58 rfl ?_
            refine zW_getR (q' := (7, 1, 0)) lk_RX11_56 (hw.1 _ o) rfl rfl (hw.2.1 _ _ _ o rfl) dX11_enough_59 ?_
            refine zW_getR (q' := (9, 1, 0)) lk_RX11_246 (hw.1 _ (zok1 (r' := 7) h1 rfl)) rfl rfl (hw.2.1 _ _ _ (zok1 (r' := 7) h1 rfl) rfl) dX11_enough_62 ?_
            refine zW_getR (q' := (38, 1, 0)) lk_RX11_324 (hw.1 _ (zokB (r' := 9) (zok1 (r' := 7) h1 rfl) rfl rfl)) rfl rfl (hw.2.1 _ _ _ (zokB (r' := 9) (zok1 (r' := 7) h1 rfl) rfl rfl) rfl) dX11_enough_65 ?_
            refine zW_iload_n 2 dX11_enough_68 rfl ?_
            refine zW_aald (q' := (11, 1, ix v1)) 4 rfl rfl (hw.1 _ (zokB (r' := 38) (zokB (r' := 9) (zok1 (r' := 7) h1 rfl) rfl rfl) rfl rfl)) rfl rfl c3 (hw.2.1 _ _ _ (zokB (r' := 38) (zokB (r' := 9) (zok1 (r' := 7) h1 rfl) rfl rfl) rfl rfl) rfl) dX11_enough_69 ?_
            refine zW_astore (lv' := [(5, .ref (zad X (11, 1, ix v1))), (4, .ref (zad X (10, 1, ix v1))), (0, .ref (zad X (0, 0, 0))), (1, vi v1), (2, vi v2), (3, vi v3)]) dX11_enough_70 rfl rfl ?_
            refine zW_aload 0 dX11_enough_72 rfl ?_
            refine zW_getI lk_RX11_328 (hw.1 _ (zokE (r' := 11) (zokB (r' := 38) (zokB (r' := 9) (zok1 (r' := 7) h1 rfl) rfl rfl) rfl rfl) rfl rfl c3)) rfl rfl dX11_enough_74 ?_
            refine zW_aload 1 dX11_enough_77 rfl ?_
            refine zW_getI lk_RX11_289 (hw.1 _ (zokE (r' := 10) (zokB (r' := 32) (zokB (r' := 8) (zok1 (r' := 7) h1 rfl) rfl rfl) rfl rfl) rfl rfl c3)) rfl rfl dX11_enough_79 ?_
            refine zF_icmp_ne 104 dX11_enough_82 rfl rfl rfl hf (fun c hf => ?_) (fun c hf => ?_)
            · refine zW_aload 0 dX11_enough_85 rfl ?_
              refine zW_getR (q' := (41, 1, ix v1)) lk_RX11_333 (hw.1 _ (zokE (r' := 11) (zokB (r' := 38) (zokB (r' := 9) (zok1 (r' := 7) h1 rfl) rfl rfl) rfl rfl) rfl rfl c3)) rfl rfl (hw.2.1 _ _ _ (zokE (r' := 11) (zokB (r' := 38) (zokB (r' := 9) (zok1 (r' := 7) h1 rfl) rfl rfl) rfl rfl) rfl rfl c3) rfl) dX11_enough_87 ?_
              refine zW_iconst dX11_enough_90 ?_
              refine zW_aload_n 2 dX11_enough_91 rfl ?_
              refine zW_getR (q' := (14, 0, 0)) lk_RX11_68 (hw.1 _ o) rfl rfl (hw.2.1 _ _ _ o rfl) dX11_enough_92 ?_
              refine zW_iconst dX11_enough_95 ?_
              refine zW_bipush dX11_enough_96 rfl ?_
              refine zF_copy ma_RX11_310 (hw.1 _ (zokC (r' := 41) (zokE (r' := 11) (zokB (r' := 38) (zokB (r' := 9) (zok1 (r' := 7) h1 rfl) rfl rfl) rfl rfl) rfl rfl c3) rfl rfl)) rfl (hw.1 _ (zokA (r' := 14) o rfl rfl)) rfl (by decide) (ix_lit _ rfl) (ix_lit _ rfl) (ix_lit _ rfl) rfl dX11_enough_98 hf (fun I4 hf => ?_)
              refine zW_goto 112 dX11_enough_101 rfl ?_
              refine zW_sub [2, 4, 5, 1] rfl ?_
              exact tX11_enough_b112 hw o h1 (zokE (r' := 10) (zokB (r' := 32) (zokB (r' := 8) (zok1 (r' := 7) h1 rfl) rfl rfl) rfl rfl) rfl rfl c3) hf
            · refine zW_aload_n 2 dX11_enough_104 rfl ?_
              refine zW_getR (q' := (14, 0, 0)) lk_RX11_68 (hw.1 _ o) rfl rfl (hw.2.1 _ _ _ o rfl) dX11_enough_105 ?_
              refine zW_iconst dX11_enough_108 ?_
              refine zC_Swv (As := [.ref (zad X (14, 0, 0)), vi 0]) (fun x hx => kJ7_fill_53178 hw (q0 := (14, 0, 0)) (n0 := 39) (v1 := 0) (hw.1 _ (zokA (r' := 14) o rfl rfl)) rfl hx) ms_RX11_336 rfl rfl rfl rfl dX11_enough_109 hf (fun r12 hf => ?_)
              refine zW_sub [2, 4, 5, 1] rfl ?_
              exact tX11_enough_b112 hw o h1 (zokE (r' := 10) (zokB (r' := 32) (zokB (r' := 8) (zok1 (r' := 7) h1 rfl) rfl rfl) rfl rfl) rfl rfl c3) hf
        · refine zW_bipush dX11_enough_29 rfl ?_
          exact zR_i hw rfl dX11_enough_31 hf
theorem kX11_enough {X : zX} {e : Nat → Prop} (hw : zWf X e) {v1 : Int} {v2 : Int} {v3 : Int} (o : zOk e (0, 0, 0)) (h1 : e 1) {I : zMem} {u : (Int × zMem)} (hf : fX11_enough v1 v2 v3 I = some u) : zCn X mX11_enough yX11_enough [.ref (zad X (0, 0, 0)), vi v1, vi v2, vi v3] I (some (vi u.1), u.2) := zCn_of (by decide +kernel) rfl rfl ⟨rfl, rfl⟩ (tX11_enough_0 hw.N o h1 hf)
