set_option maxRecDepth 100000 in
theorem tX12_shortest_l29_y {X : zX} {e : Nat → Prop} (hw : zWf X e) {T : zT} {v1 : Int} {v2 : Int} (o : zOk e (50, 0, 0)) (s : (Int × zMem)) {u : ((Int × zMem) ⊕ ((Int × zMem) ⊕ (Int × zMem)))} (hf : fX12_shortest_l29 v1 v2 s = some u) (hk : ∀ s', u = .inl s' → zW X T mX12_shortest 29 [(0, .ref (zad X (50, 0, 0))), (1, vi v1), (2, vi v2), (3, vi s'.1)] [] s'.2) (hx : ∀ x, u = .inr (.inl x) → zW X T mX12_shortest 58 [] [] x.2) (hr : ∀ z : (Int × zMem), u = .inr (.inr z) → T = (some (vi z.1), z.2)) : zW X T mX12_shortest 29 [(0, .ref (zad X (50, 0, 0))), (1, vi v1), (2, vi v2), (3, vi s.1)] [] s.2 := by
  unfold fX12_shortest_l29 at hf
  refine zW_iload_n 3 dX12_shortest_29 rfl ?_
  refine zW_bipush dX12_shortest_30 rfl ?_
  refine zF_icmp_gt 58 dX12_shortest_32 rfl rfl (w32_lit _ rfl) hf (fun c hf => ?_) (fun c hf => ?_)
  · refine zW_sub [] rfl ?_
    exact hx _ (Option.some.inj hf).symm
  · refine zW_aload_n 0 dX12_shortest_35 rfl ?_
    refine zW_iload_n 1 dX12_shortest_36 rfl ?_
    refine zW_iload_n 3 dX12_shortest_37 rfl ?_
    refine zC_Vwv (As := [vi v1, vi s.1]) (fun x hx => kX12_laysOften hw (v1 := v1) (v2 := s.1) o hx) mv_RX12_140 (hw.1 _ o) rfl rfl rfl rfl rfl dX12_shortest_38 hf (fun r4 hf => ?_)
    refine zW_aload_n 0 dX12_shortest_41 rfl ?_
    refine zW_iconst dX12_shortest_42 ?_
    refine zC_Vri (As := [vi 1]) (fun x hx => kX12_leastApart hw (v1 := 1) o hx) mv_RX12_143 (hw.1 _ o) rfl rfl rfl rfl rfl dX12_shortest_43 hf (fun r5 hf => ?_)
    refine zW_iload_n 2 dX12_shortest_46 rfl ?_
    refine zF_icmp_lt 52 dX12_shortest_47 rfl rfl rfl hf (fun c hf => ?_) (fun c hf => ?_)
    · refine zW_iinc 3 (lv' := [(3, vi (s.1 + 1)), (0, .ref (zad X (50, 0, 0))), (1, vi v1), (2, vi v2)]) dX12_shortest_52 rfl rfl rfl ?_
      refine zW_goto 29 dX12_shortest_55 rfl ?_
      refine zW_sub [1, 2, 3, 0] rfl ?_
      exact hk _ (Option.some.inj hf).symm
    · refine zW_iload_n 3 dX12_shortest_50 rfl ?_
      exact zQ_i hw rfl dX12_shortest_51 (hr _ (Option.some.inj hf).symm)
theorem tX12_shortest_l29 {X : zX} {e : Nat → Prop} (hw : zWf X e) {T : zT} {v1 : Int} {v2 : Int} (o : zOk e (50, 0, 0)) {s0 : (Int × zMem)} {α : Type} {F : (Int × zMem) → Option α} {Gr : (Int × zMem) → α} {u : α} (hf : zbr (zlp (fX12_shortest_l29 v1 v2) 5000 s0) F Gr = some u) (kx : ∀ x, F x = some u → zW X T mX12_shortest 58 [] [] x.2) (kr : ∀ z, Gr z = u → T = (some (vi z.1), z.2)) : zW X T mX12_shortest 29 [(0, .ref (zad X (50, 0, 0))), (1, vi v1), (2, vi v2), (3, vi s0.1)] [] s0.2 := by
  have hb := zlp_W (body := fX12_shortest_l29 v1 v2) (P := fun s => zW X T mX12_shortest 29 [(0, .ref (zad X (50, 0, 0))), (1, vi v1), (2, vi v2), (3, vi s.1)] [] s.2) (E := fun x => (∀ a, x = .inl a → zW X T mX12_shortest 58 [] [] a.2) ∧ ∀ z, x = .inr z → T = (some (vi z.1), z.2)) (fun s u h hk hx => tX12_shortest_l29_y hw o s h hk (fun x hu => (hx _ hu).1 x rfl) (fun z hu => (hx _ hu).2 z rfl))
  rcases zbr_inv hf with ⟨x, h, hf⟩ | ⟨z, h, hz⟩
  · exact hb _ s0 _ h ⟨fun a ea => (by cases ea; exact kx _ hf), fun z ez => (by cases ez)⟩
  · exact hb _ s0 _ h ⟨fun a ea => (by cases ea), fun z ez => (by cases ez; exact kr _ hz)⟩
set_option maxRecDepth 100000 in
theorem tX12_shortest_0 {X : zX} {e : Nat → Prop} (hw : zWf X e) {v1 : Int} {v2 : Int} (o : zOk e (50, 0, 0)) {I : zMem} {u : (Int × zMem)} (hf : fX12_shortest v1 v2 I = some u) : zW X (some (vi u.1), u.2) mX12_shortest 0 [(0, .ref (zad X (50, 0, 0))), (1, vi v1), (2, vi v2)] [] I := by
  unfold fX12_shortest at hf
  refine zW_aload_n 0 dX12_shortest_0 rfl ?_
  refine zW_iconst dX12_shortest_1 ?_
  refine zF_put lk_RX12_1 (hw.1 _ o) rfl rfl (zn_int _) dX12_shortest_2 hf (fun I1 hf => ?_)
  refine zW_iload_n 1 dX12_shortest_5 rfl ?_
  refine zC_Sri (As := [vi v1]) (fun x hx => kX12_isSet hw (v0 := v1)  hx) ms_RX12_137 rfl rfl rfl rfl dX12_shortest_6 hf (fun r2 hf => ?_)
  refine zF_if_eq 24 dX12_shortest_9 rfl rfl hf (fun c hf => ?_) (fun c hf => ?_)
  · refine zW_bipush dX12_shortest_24 rfl ?_
    exact zR_i hw rfl dX12_shortest_26 hf
  · refine zW_iload_n 2 dX12_shortest_12 rfl ?_
    refine zW_i2l dX12_shortest_13 ?_
    refine zW_lconst1 dX12_shortest_14 ?_
    refine zW_ldc2 dX12_shortest_15 wc_RX12_98 ?_
    refine zC_Sri (As := [vl (w32 v2), vl 1, vl 60]) (fun x hx => kX12_within hw (v0 := w32 v2) (v2 := 1) (v4 := 60)  hx) ms_RX12_94 rfl rfl rfl rfl dX12_shortest_18 hf (fun r3 hf => ?_)
    refine zF_if_ne 27 dX12_shortest_21 rfl rfl hf (fun c hf => ?_) (fun c hf => ?_)
    · refine zW_bipush dX12_shortest_24 rfl ?_
      exact zR_i hw rfl dX12_shortest_26 hf
    · refine zW_iconst dX12_shortest_27 ?_
      refine zW_istore_n (lv' := [(3, vi 1), (0, .ref (zad X (50, 0, 0))), (1, vi v1), (2, vi v2)]) dX12_shortest_28 rfl rfl ?_
      refine zW_sub [1, 2, 3, 0] rfl ?_
      refine tX12_shortest_l29 hw o (s0 := (1, I1)) hf (fun x6 hf => ?_) (fun z hz => by cases hz; rfl)
      refine zW_iconst dX12_shortest_58 ?_
      exact zR_i hw rfl dX12_shortest_59 hf
theorem kX12_shortest {X : zX} {e : Nat → Prop} (hw : zWf X e) {v1 : Int} {v2 : Int} (o : zOk e (50, 0, 0)) {I : zMem} {u : (Int × zMem)} (hf : fX12_shortest v1 v2 I = some u) : zCn X mX12_shortest yX12_shortest [.ref (zad X (50, 0, 0)), vi v1, vi v2] I (some (vi u.1), u.2) := zCn_of (by decide +kernel) rfl rfl ⟨rfl, rfl⟩ (tX12_shortest_0 hw.N o hf)
set_option maxRecDepth 100000 in
theorem tX12_manyOf_l4_y {X : zX} {e : Nat → Prop} (hw : zWf X e) {T : zT} {I : zMem} {v0 : Int}  (s : (Int × Int)) {u : ((Int × Int) ⊕ (Int × Int))} (hf : fX12_manyOf_l4 v0 s = some u) (hk : ∀ s', u = .inl s' → zW X T mX12_manyOf 4 [(0, vi v0), (1, vi s'.1), (2, vi s'.2)] [] I) (hx : ∀ x, u = .inr x → zW X T mX12_manyOf 23 [(1, vi x.1)] [] I) : zW X T mX12_manyOf 4 [(0, vi v0), (1, vi s.1), (2, vi s.2)] [] I := by
  unfold fX12_manyOf_l4 at hf
  refine zW_iload_n 2 dX12_manyOf_4 rfl ?_
  refine zW_iconst dX12_manyOf_5 ?_
  refine zF_icmp_ge 23 dX12_manyOf_6 rfl rfl (w32_lit _ rfl) hf (fun c hf => ?_) (fun c hf => ?_)
  · refine zW_sub [1] rfl ?_
    exact hx _ (Option.some.inj hf).symm
  · refine zW_iload_n 1 dX12_manyOf_9 rfl ?_
    refine zW_iload_n 0 dX12_manyOf_10 rfl ?_
    refine zW_iload_n 2 dX12_manyOf_11 rfl ?_
    refine zW_ishr dX12_manyOf_12 ?_
    refine zW_iconst dX12_manyOf_13 ?_
    refine zW_iand_1 dX12_manyOf_14 ?_
    refine zW_iadd dX12_manyOf_15 ?_
    refine zF_istore_n (lv' := fun a1 => [(1, vi a1), (0, vi v0), (2, vi s.2)]) dX12_manyOf_16 hf (fun _ => rfl) rfl (fun a1 hf => ?_)
    refine zW_iinc 2 (lv' := [(2, vi (s.2 + 1)), (1, vi a1), (0, vi v0)]) dX12_manyOf_17 rfl rfl rfl ?_
    refine zW_goto 4 dX12_manyOf_20 rfl ?_
    refine zW_sub [2, 1, 0] rfl ?_
    exact hk _ (Option.some.inj hf).symm
theorem tX12_manyOf_l4 {X : zX} {e : Nat → Prop} (hw : zWf X e) {T : zT} {I : zMem} {v0 : Int}  {s0 : (Int × Int)} {α : Type} {F : (Int × Int) → Option α} {u : α} (hf : zb (zlp (fX12_manyOf_l4 v0) 5000 s0) F = some u) (kx : ∀ x, F x = some u → zW X T mX12_manyOf 23 [(1, vi x.1)] [] I) : zW X T mX12_manyOf 4 [(0, vi v0), (1, vi s0.1), (2, vi s0.2)] [] I := by
  obtain ⟨x, h, hf⟩ := zb_inv hf
  exact zlp_W (P := fun s => zW X T mX12_manyOf 4 [(0, vi v0), (1, vi s.1), (2, vi s.2)] [] I) (E := fun x => zW X T mX12_manyOf 23 [(1, vi x.1)] [] I) (fun s u h hk hx => tX12_manyOf_l4_y hw  s h hk hx) _ s0 x h (kx x hf)
set_option maxRecDepth 100000 in
theorem tX12_manyOf_0 {X : zX} {e : Nat → Prop} (hw : zWf X e) {v0 : Int}  {I : zMem} {u : Int} (hf : fX12_manyOf v0 = some u) : zW X (some (vi u), I) mX12_manyOf 0 [(0, vi v0)] [] I := by
  unfold fX12_manyOf at hf
  refine zW_iconst dX12_manyOf_0 ?_
  refine zW_istore_n (lv' := [(1, vi 0), (0, vi v0)]) dX12_manyOf_1 rfl rfl ?_
  refine zW_iconst dX12_manyOf_2 ?_
  refine zW_istore_n (lv' := [(2, vi 0), (1, vi 0), (0, vi v0)]) dX12_manyOf_3 rfl rfl ?_
  refine zW_sub [2, 1, 0] rfl ?_
  refine tX12_manyOf_l4 hw  (s0 := (0, 0)) hf (fun x2 hf => ?_)
  refine zW_iload_n 0 dX12_manyOf_23 rfl ?_
  exact zS_i hw rfl dX12_manyOf_24 hf
theorem kX12_manyOf {X : zX} {e : Nat → Prop} (hw : zWf X e) {v0 : Int}  {I : zMem} {u : Int} (hf : fX12_manyOf v0 = some u) : zCn X mX12_manyOf yX12_manyOf [vi v0] I (some (vi u), I) := zCn_of (by decide +kernel) rfl rfl ⟨rfl, rfl⟩ (tX12_manyOf_0 hw.N  hf)
set_option maxRecDepth 100000 in
theorem tX12_versions_b32_82 {X : zX} {e : Nat → Prop} (hw : zWf X e) {T : zT} {v1 : Int} {v2 : Int} {w3 : Int} {w4 : Int} {I : zMem} (o : zOk e (50, 0, 0)) {u : ((Int × Int × zMem) ⊕ (Int × Int × zMem))} (hf : fX12_versions_b32_82 v1 v2 w3 w4 I = some u) (hk : ∀ s', u = .inl s' → zW X T mX12_versions 32 [(0, .ref (zad X (50, 0, 0))), (1, vi v1), (2, vi v2), (3, vi s'.1), (4, vi s'.2.1)] [] s'.2.2) (hx : ∀ x, u = .inr x → zW X T mX12_versions 88 [(3, vi x.1)] [] x.2.2) : zW X T mX12_versions 82 [(0, .ref (zad X (50, 0, 0))), (1, vi v1), (2, vi v2), (3, vi w3), (4, vi w4)] [] I := by
  unfold fX12_versions_b32_82 at hf
  refine zW_iinc 4 (lv' := [(4, vi (w4 + 1)), (0, .ref (zad X (50, 0, 0))), (1, vi v1), (2, vi v2), (3, vi w3)]) dX12_versions_82 rfl rfl rfl ?_
  refine zW_goto 32 dX12_versions_85 rfl ?_
  refine zW_sub [1, 2, 3, 4, 0] rfl ?_
  exact hk _ (Option.some.inj hf).symm
set_option maxRecDepth 100000 in
theorem tX12_versions_b32_81 {X : zX} {e : Nat → Prop} (hw : zWf X e) {T : zT} {v1 : Int} {v2 : Int} {w4 : Int} {k0 : Int} {I : zMem} (o : zOk e (50, 0, 0)) {u : ((Int × Int × zMem) ⊕ (Int × Int × zMem))} (hf : fX12_versions_b32_81 v1 v2 w4 k0 I = some u) (hk : ∀ s', u = .inl s' → zW X T mX12_versions 32 [(0, .ref (zad X (50, 0, 0))), (1, vi v1), (2, vi v2), (3, vi s'.1), (4, vi s'.2.1)] [] s'.2.2) (hx : ∀ x, u = .inr x → zW X T mX12_versions 88 [(3, vi x.1)] [] x.2.2) : zW X T mX12_versions 81 [(0, .ref (zad X (50, 0, 0))), (1, vi v1), (2, vi v2), (4, vi w4)] [vi k0] I := by
  unfold fX12_versions_b32_81 at hf
  refine zW_istore_n (lv' := [(3, vi k0), (0, .ref (zad X (50, 0, 0))), (1, vi v1), (2, vi v2), (4, vi w4)]) dX12_versions_81 rfl rfl ?_
  refine zW_sub [1, 2, 3, 0, 4] rfl ?_
  exact tX12_versions_b32_82 hw o hf hk hx
set_option maxRecDepth 100000 in
theorem tX12_versions_b32_59 {X : zX} {e : Nat → Prop} (hw : zWf X e) {T : zT} {v1 : Int} {v2 : Int} {w3 : Int} {w4 : Int} {I : zMem} (o : zOk e (50, 0, 0)) {u : ((Int × Int × zMem) ⊕ (Int × Int × zMem))} (hf : fX12_versions_b32_59 v1 v2 w3 w4 I = some u) (hk : ∀ s', u = .inl s' → zW X T mX12_versions 32 [(0, .ref (zad X (50, 0, 0))), (1, vi v1), (2, vi v2), (3, vi s'.1), (4, vi s'.2.1)] [] s'.2.2) (hx : ∀ x, u = .inr x → zW X T mX12_versions 88 [(3, vi x.1)] [] x.2.2) : zW X T mX12_versions 59 [(0, .ref (zad X (50, 0, 0))), (1, vi v1), (2, vi v2), (3, vi w3), (4, vi w4)] [] I := by
  unfold fX12_versions_b32_59 at hf
  refine zW_aload_n 0 dX12_versions_59 rfl ?_
  refine zW_iload 4 dX12_versions_60 rfl ?_
  refine zW_iload_n 1 dX12_versions_62 rfl ?_
  refine zC_Vwv (As := [vi w4, vi v1]) (fun x hx => kX12_laysOften hw (v1 := w4) (v2 := v1) o hx) mv_RX12_140 (hw.1 _ o) rfl rfl rfl rfl rfl dX12_versions_63 hf (fun r4 hf => ?_)
  refine zW_aload_n 0 dX12_versions_66 rfl ?_
  refine zW_iconst dX12_versions_67 ?_
  refine zC_Vri (As := [vi 1]) (fun x hx => kX12_leastApart hw (v1 := 1) o hx) mv_RX12_143 (hw.1 _ o) rfl rfl rfl rfl rfl dX12_versions_68 hf (fun r5 hf => ?_)
  refine zW_iload_n 2 dX12_versions_71 rfl ?_
  refine zF_icmp_lt 80 dX12_versions_72 rfl rfl rfl hf (fun c hf => ?_) (fun c hf => ?_)
  · refine zW_iload_n 3 dX12_versions_80 rfl ?_
    refine zW_sub [0, 1, 2, 4] rfl ?_
    exact tX12_versions_b32_81 hw o hf hk hx
  · refine zW_iload 4 dX12_versions_75 rfl ?_
    refine zW_goto 81 dX12_versions_77 rfl ?_
    refine zW_sub [0, 1, 2, 4] rfl ?_
    exact tX12_versions_b32_81 hw o hf hk hx
set_option maxRecDepth 100000 in
theorem tX12_versions_l32_y {X : zX} {e : Nat → Prop} (hw : zWf X e) {T : zT} {v1 : Int} {v2 : Int} (o : zOk e (50, 0, 0)) (s : (Int × Int × zMem)) {u : ((Int × Int × zMem) ⊕ (Int × Int × zMem))} (hf : fX12_versions_l32 v1 v2 s = some u) (hk : ∀ s', u = .inl s' → zW X T mX12_versions 32 [(0, .ref (zad X (50, 0, 0))), (1, vi v1), (2, vi v2), (3, vi s'.1), (4, vi s'.2.1)] [] s'.2.2) (hx : ∀ x, u = .inr x → zW X T mX12_versions 88 [(3, vi x.1)] [] x.2.2) : zW X T mX12_versions 32 [(0, .ref (zad X (50, 0, 0))), (1, vi v1), (2, vi v2), (3, vi s.1), (4, vi s.2.1)] [] s.2.2 := by
  unfold fX12_versions_l32 at hf
  refine zW_iload 4 dX12_versions_32 rfl ?_
  refine zW_bipush dX12_versions_34 rfl ?_
  refine zF_icmp_ge 88 dX12_versions_36 rfl rfl (w32_lit _ rfl) hf (fun c hf => ?_) (fun c hf => ?_)
  · refine zW_sub [3] rfl ?_
    exact hx _ (Option.some.inj hf).symm
  · refine zW_iload_n 3 dX12_versions_39 rfl ?_
    refine zW_iconst dX12_versions_40 ?_
    refine zF_icmp_eq 59 dX12_versions_41 rfl rfl (w32_lit _ rfl) hf (fun c hf => ?_) (fun c hf => ?_)
    · refine zW_sub [0, 1, 2, 3, 4] rfl ?_
      exact tX12_versions_b32_59 hw o hf hk hx
    · refine zW_iload 4 dX12_versions_44 rfl ?_
      refine zC_Sri (As := [vi s.2.1]) (fun x hx => kX12_manyOf hw (v0 := s.2.1)  hx) ms_RX12_151 rfl rfl rfl rfl dX12_versions_46 hf (fun r6 hf => ?_)
      refine zW_iload_n 3 dX12_versions_49 rfl ?_
      refine zC_Sri (As := [vi s.1]) (fun x hx => kX12_manyOf hw (v0 := s.1)  hx) ms_RX12_151 rfl rfl rfl rfl dX12_versions_50 hf (fun r7 hf => ?_)
      refine zF_icmp_lt 59 dX12_versions_53 rfl rfl rfl hf (fun c hf => ?_) (fun c hf => ?_)
      · refine zW_sub [0, 1, 2, 3, 4] rfl ?_
        exact tX12_versions_b32_59 hw o hf hk hx
      · refine zW_goto 82 dX12_versions_56 rfl ?_
        refine zW_sub [0, 1, 2, 3, 4] rfl ?_
        exact tX12_versions_b32_82 hw o hf hk hx
theorem tX12_versions_l32 {X : zX} {e : Nat → Prop} (hw : zWf X e) {T : zT} {v1 : Int} {v2 : Int} (o : zOk e (50, 0, 0)) {s0 : (Int × Int × zMem)} {α : Type} {F : (Int × Int × zMem) → Option α} {u : α} (hf : zb (zlp (fX12_versions_l32 v1 v2) 5000 s0) F = some u) (kx : ∀ x, F x = some u → zW X T mX12_versions 88 [(3, vi x.1)] [] x.2.2) : zW X T mX12_versions 32 [(0, .ref (zad X (50, 0, 0))), (1, vi v1), (2, vi v2), (3, vi s0.1), (4, vi s0.2.1)] [] s0.2.2 := by
  obtain ⟨x, h, hf⟩ := zb_inv hf
  exact zlp_W (P := fun s => zW X T mX12_versions 32 [(0, .ref (zad X (50, 0, 0))), (1, vi v1), (2, vi v2), (3, vi s.1), (4, vi s.2.1)] [] s.2.2) (E := fun x => zW X T mX12_versions 88 [(3, vi x.1)] [] x.2.2) (fun s u h hk hx => tX12_versions_l32_y hw o s h hk hx) _ s0 x h (kx x hf)
set_option maxRecDepth 100000 in
theorem tX12_versions_0 {X : zX} {e : Nat → Prop} (hw : zWf X e) {v1 : Int} {v2 : Int} (o : zOk e (50, 0, 0)) {I : zMem} {u : (Int × zMem)} (hf : fX12_versions v1 v2 I = some u) : zW X (some (vi u.1), u.2) mX12_versions 0 [(0, .ref (zad X (50, 0, 0))), (1, vi v1), (2, vi v2)] [] I := by
  unfold fX12_versions at hf
  refine zW_aload_n 0 dX12_versions_0 rfl ?_
  refine zW_iconst dX12_versions_1 ?_
  refine zF_put lk_RX12_1 (hw.1 _ o) rfl rfl (zn_int _) dX12_versions_2 hf (fun I1 hf => ?_)
  refine zW_iload_n 1 dX12_versions_5 rfl ?_
  refine zC_Sri (As := [vi v1]) (fun x hx => kX12_isLength hw (v0 := v1)  hx) ms_RX12_134 rfl rfl rfl rfl dX12_versions_6 hf (fun r2 hf => ?_)
  refine zF_if_eq 24 dX12_versions_9 rfl rfl hf (fun c hf => ?_) (fun c hf => ?_)
  · refine zW_bipush dX12_versions_24 rfl ?_
    exact zR_i hw rfl dX12_versions_26 hf
  · refine zW_iload_n 2 dX12_versions_12 rfl ?_
    refine zW_i2l dX12_versions_13 ?_
    refine zW_lconst1 dX12_versions_14 ?_
    refine zW_ldc2 dX12_versions_15 wc_RX12_98 ?_
    refine zC_Sri (As := [vl (w32 v2), vl 1, vl 60]) (fun x hx => kX12_within hw (v0 := w32 v2) (v2 := 1) (v4 := 60)  hx) ms_RX12_94 rfl rfl rfl rfl dX12_versions_18 hf (fun r3 hf => ?_)
    refine zF_if_ne 27 dX12_versions_21 rfl rfl hf (fun c hf => ?_) (fun c hf => ?_)
    · refine zW_bipush dX12_versions_24 rfl ?_
      exact zR_i hw rfl dX12_versions_26 hf
    · refine zW_iconst dX12_versions_27 ?_
      refine zW_istore_n (lv' := [(3, vi (-1)), (0, .ref (zad X (50, 0, 0))), (1, vi v1), (2, vi v2)]) dX12_versions_28 rfl rfl ?_
      refine zW_iconst dX12_versions_29 ?_
      refine zW_istore (lv' := [(4, vi 1), (3, vi (-1)), (0, .ref (zad X (50, 0, 0))), (1, vi v1), (2, vi v2)]) dX12_versions_30 rfl rfl ?_
      refine zW_sub [2, 3, 4, 1, 0] rfl ?_
      refine tX12_versions_l32 hw o (s0 := ((-1), 1, I1)) hf (fun x8 hf => ?_)
      refine zW_iload_n 0 dX12_versions_88 rfl ?_
      exact zR_i hw rfl dX12_versions_89 hf
theorem kX12_versions {X : zX} {e : Nat → Prop} (hw : zWf X e) {v1 : Int} {v2 : Int} (o : zOk e (50, 0, 0)) {I : zMem} {u : (Int × zMem)} (hf : fX12_versions v1 v2 I = some u) : zCn X mX12_versions yX12_versions [.ref (zad X (50, 0, 0)), vi v1, vi v2] I (some (vi u.1), u.2) := zCn_of (by decide +kernel) rfl rfl ⟨rfl, rfl⟩ (tX12_versions_0 hw.N o hf)
set_option maxRecDepth 100000 in
theorem tX12_signed_0 {X : zX} {e : Nat → Prop} (hw : zWf X e) {v0 : Int} {v1 : Int}  {I : zMem} {u : Int} (hf : fX12_signed v0 v1 = some u) : zW X (some (vi u), I) mX12_signed 0 [(0, vi v0), (1, vi v1)] [] I := by
  unfold fX12_signed at hf
  refine zW_iload_n 0 dX12_signed_0 rfl ?_
  refine zW_iconst dX12_signed_1 ?_
  refine zF_icmp_ne 9 dX12_signed_2 rfl rfl (w32_lit _ rfl) hf (fun c hf => ?_) (fun c hf => ?_)
  · refine zW_iload_n 1 dX12_signed_5 rfl ?_
    refine zW_goto 11 dX12_signed_6 rfl ?_
    exact zS_i hw rfl dX12_signed_11 hf
  · refine zW_iload_n 1 dX12_signed_9 rfl ?_
    refine zW_ineg dX12_signed_10 ?_
    exact zS_i hw rfl dX12_signed_11 hf
theorem kX12_signed {X : zX} {e : Nat → Prop} (hw : zWf X e) {v0 : Int} {v1 : Int}  {I : zMem} {u : Int} (hf : fX12_signed v0 v1 = some u) : zCn X mX12_signed yX12_signed [vi v0, vi v1] I (some (vi u), I) := zCn_of (by decide +kernel) rfl rfl ⟨rfl, rfl⟩ (tX12_signed_0 hw.N  hf)
set_option maxRecDepth 100000 in
theorem tX12_stepsBit_b138 {X : zX} {e : Nat → Prop} (hw : zWf X e) {v1 : Int} {v2 : Int} {v3 : Int} {w6 : Int} {w7 : Int} {w8 : Int} {I : zMem} (o : zOk e (50, 0, 0)) {u : zMem} (hf : fX12_stepsBit_b138 v1 v2 v3 w6 w7 w8 I = some u) : zW X (none, u) mX12_stepsBit 138 [(0, .ref (zad X (50, 0, 0))), (6, vi w6), (7, vi w7), (8, vi w8)] [] I := by
  unfold fX12_stepsBit_b138 at hf
  refine zW_aload_n 0 dX12_stepsBit_138 rfl ?_
  refine zW_getR (q' := (61, 0, 0)) lk_RX12_46 (hw.1 _ o) rfl rfl (hw.2.1 _ _ _ o rfl) dX12_stepsBit_139 ?_
  refine zW_iload 3 dX12_stepsBit_142 rfl ?_
  refine zW_iload 1 dX12_stepsBit_144 rfl ?_
  obtain ⟨c13, hf⟩ := zgd hf
  refine zF_iast (hw.1 _ (zokM (r' := 61) o rfl rfl)) rfl c13 rfl dX12_stepsBit_146 hf (fun I14 hf => ?_)
  refine zW_aload_n 0 dX12_stepsBit_147 rfl ?_
  refine zW_getR (q' := (62, 0, 0)) lk_RX12_49 (hw.1 _ o) rfl rfl (hw.2.1 _ _ _ o rfl) dX12_stepsBit_148 ?_
  refine zW_iload 3 dX12_stepsBit_151 rfl ?_
  refine zW_iload 2 dX12_stepsBit_153 rfl ?_
  refine zF_iast (hw.1 _ (zokM (r' := 62) o rfl rfl)) rfl c13 rfl dX12_stepsBit_155 hf (fun I15 hf => ?_)
  exact zR_v hw rfl dX12_stepsBit_156 hf
set_option maxRecDepth 100000 in
theorem tX12_stepsBit_b91 {X : zX} {e : Nat → Prop} (hw : zWf X e) {v1 : Int} {v2 : Int} {v3 : Int} {w4 : Int} {w6 : Int} {k0 : Int} {I : zMem} (o : zOk e (50, 0, 0)) {u : zMem} (hf : fX12_stepsBit_b91 v1 v2 v3 w4 w6 k0 I = some u) : zW X (none, u) mX12_stepsBit 91 [(0, .ref (zad X (50, 0, 0))), (3, vi v3), (4, vi w4), (6, vi w6)] [vi k0] I := by
  unfold fX12_stepsBit_b91 at hf
  refine zW_istore (lv' := [(7, vi k0), (0, .ref (zad X (50, 0, 0))), (3, vi v3), (4, vi w4), (6, vi w6)]) dX12_stepsBit_91 rfl rfl ?_
  refine zW_iconst dX12_stepsBit_93 ?_
  refine zW_iload_n 2 dX12_stepsBit_94 rfl ?_
  refine zW_imul dX12_stepsBit_95 ?_
  refine zW_iload 3 dX12_stepsBit_96 rfl ?_
  refine zW_iadd dX12_stepsBit_98 ?_
  refine zF_istore (lv' := fun a11 => [(8, vi a11), (7, vi k0), (0, .ref (zad X (50, 0, 0))), (3, vi v3), (4, vi w4), (6, vi w6)]) dX12_stepsBit_99 hf (fun _ => rfl) rfl (fun a11 hf => ?_)
  refine zW_iload 5 dX12_stepsBit_101 rfl ?_
  refine zW_aload_n 2 dX12_stepsBit_103 rfl ?_
  refine zW_getR (q' := (61, 0, 0)) lk_RX12_46 (hw.1 _ o) rfl rfl (hw.2.1 _ _ _ o rfl) dX12_stepsBit_104 ?_
  refine zW_iload 0 dX12_stepsBit_107 rfl ?_
  obtain ⟨c12, hf⟩ := zgd hf
  refine zF_iald (hw.1 _ (zokM (r' := 61) o rfl rfl)) rfl c12 rfl dX12_stepsBit_109 ?_
  refine zF_icmp_lt 137 dX12_stepsBit_110 rfl rfl rfl hf (fun c hf => ?_) (fun c hf => ?_)
  · exact zR_v hw rfl dX12_stepsBit_137 hf
  · refine zW_iload 5 dX12_stepsBit_113 rfl ?_
    refine zW_aload_n 2 dX12_stepsBit_115 rfl ?_
    refine zW_getR (q' := (61, 0, 0)) lk_RX12_46 (hw.1 _ o) rfl rfl (hw.2.1 _ _ _ o rfl) dX12_stepsBit_116 ?_
    refine zW_iload 0 dX12_stepsBit_119 rfl ?_
    refine zF_iald (hw.1 _ (zokM (r' := 61) o rfl rfl)) rfl c12 rfl dX12_stepsBit_121 ?_
    refine zF_icmp_ne 138 dX12_stepsBit_122 rfl rfl rfl hf (fun c hf => ?_) (fun c hf => ?_)
    · refine zW_iload 1 dX12_stepsBit_125 rfl ?_
      refine zW_aload_n 2 dX12_stepsBit_127 rfl ?_
      refine zW_getR (q' := (62, 0, 0)) lk_RX12_49 (hw.1 _ o) rfl rfl (hw.2.1 _ _ _ o rfl) dX12_stepsBit_128 ?_
      refine zW_iload 0 dX12_stepsBit_131 rfl ?_
      refine zF_iald (hw.1 _ (zokM (r' := 62) o rfl rfl)) rfl c12 rfl dX12_stepsBit_133 ?_
      refine zF_icmp_lt 138 dX12_stepsBit_134 rfl rfl rfl hf (fun c hf => ?_) (fun c hf => ?_)
      · refine zW_sub [2, 5, 1, 0] rfl ?_
        exact tX12_stepsBit_b138 hw o hf
      · exact zR_v hw rfl dX12_stepsBit_137 hf
    · refine zW_sub [2, 5, 1, 0] rfl ?_
      exact tX12_stepsBit_b138 hw o hf
set_option maxRecDepth 100000 in
theorem tX12_stepsBit_0 {X : zX} {e : Nat → Prop} (hw : zWf X e) {v1 : Int} {v2 : Int} {v3 : Int} (o : zOk e (50, 0, 0)) {I : zMem} {u : zMem} (hf : fX12_stepsBit v1 v2 v3 I = some u) : zW X (none, u) mX12_stepsBit 0 [(0, .ref (zad X (50, 0, 0))), (1, vi v1), (2, vi v2), (3, vi v3)] [] I := by
  unfold fX12_stepsBit at hf
  refine zW_iload_n 2 dX12_stepsBit_0 rfl ?_
  refine zW_iconst dX12_stepsBit_1 ?_
  refine zW_idiv dX12_stepsBit_2 (w32_ne0 _ rfl) ?_
  refine zF_istore (lv' := fun a1 => [(4, vi a1), (0, .ref (zad X (50, 0, 0))), (1, vi v1), (2, vi v2), (3, vi v3)]) dX12_stepsBit_3 hf (fun _ => rfl) rfl (fun a1 hf => ?_)
  refine zW_iload_n 3 dX12_stepsBit_5 rfl ?_
  refine zW_iconst dX12_stepsBit_6 ?_
  refine zW_irem dX12_stepsBit_7 (w32_ne0 _ rfl) ?_
  refine zF_istore (lv' := fun a2 => [(5, vi a2), (4, vi a1), (0, .ref (zad X (50, 0, 0))), (1, vi v1), (2, vi v2), (3, vi v3)]) dX12_stepsBit_8 hf (fun _ => rfl) rfl (fun a2 hf => ?_)
  refine zW_aload_n 2 dX12_stepsBit_10 rfl ?_
  refine zW_getR (q' := (59, 0, 0)) lk_RX12_40 (hw.1 _ o) rfl rfl (hw.2.1 _ _ _ o rfl) dX12_stepsBit_11 ?_
  refine zW_iload_n 4 dX12_stepsBit_14 rfl ?_
  obtain ⟨c3, hf⟩ := zgd hf
  refine zF_iald (hw.1 _ (zokM (r' := 59) o rfl rfl)) rfl c3 rfl dX12_stepsBit_15 ?_
  refine zW_iload_n 5 dX12_stepsBit_16 rfl ?_
  refine zW_aload_n 2 dX12_stepsBit_17 rfl ?_
  refine zW_getR (q' := (58, 0, 0)) lk_RX12_37 (hw.1 _ o) rfl rfl (hw.2.1 _ _ _ o rfl) dX12_stepsBit_18 ?_
  refine zW_iload_n 3 dX12_stepsBit_21 rfl ?_
  obtain ⟨c4, hf⟩ := zgd hf
  refine zF_iald (hw.1 _ (zokM (r' := 58) o rfl rfl)) rfl c4 rfl dX12_stepsBit_22 ?_
  refine zC_Sri (As := [vi v3, vi (I (58, 0, 0) (ix v1))]) (fun x hx => kX12_signed hw (v0 := v3) (v1 := I (58, 0, 0) (ix v1))  hx) ms_RX12_154 rfl rfl rfl rfl dX12_stepsBit_23 hf (fun r5 hf => ?_)
  refine zW_iadd dX12_stepsBit_26 ?_
  refine zW_iload_n 5 dX12_stepsBit_27 rfl ?_
  refine zW_iload 1 dX12_stepsBit_28 rfl ?_
  refine zW_ixor dX12_stepsBit_30 ?_
  refine zW_iload 0 dX12_stepsBit_31 rfl ?_
  refine zW_ixor dX12_stepsBit_33 ?_
  refine zW_aload_n 2 dX12_stepsBit_34 rfl ?_
  refine zW_getR (q' := (58, 0, 0)) lk_RX12_37 (hw.1 _ o) rfl rfl (hw.2.1 _ _ _ o rfl) dX12_stepsBit_35 ?_
  refine zW_bipush dX12_stepsBit_38 rfl ?_
  refine zW_iload_n 3 dX12_stepsBit_40 rfl ?_
  refine zW_iadd dX12_stepsBit_41 ?_
  obtain ⟨c6, hf⟩ := zgd hf
  refine zF_iald (hw.1 _ (zokM (r' := 58) o rfl rfl)) rfl c6 rfl dX12_stepsBit_42 ?_
  refine zC_Sri (As := [vi (ixor (ixor v3 a1) a2), vi (I (58, 0, 0) (ix (13 + v1)))]) (fun x hx => kX12_signed hw (v0 := ixor (ixor v3 a1) a2) (v1 := I (58, 0, 0) (ix (13 + v1)))  hx) ms_RX12_154 rfl rfl rfl rfl dX12_stepsBit_43 hf (fun r7 hf => ?_)
  refine zW_iadd dX12_stepsBit_46 ?_
  refine zW_iload_n 5 dX12_stepsBit_47 rfl ?_
  refine zW_iload 0 dX12_stepsBit_48 rfl ?_
  refine zW_ixor dX12_stepsBit_50 ?_
  refine zW_aload_n 2 dX12_stepsBit_51 rfl ?_
  refine zW_getR (q' := (58, 0, 0)) lk_RX12_37 (hw.1 _ o) rfl rfl (hw.2.1 _ _ _ o rfl) dX12_stepsBit_52 ?_
  refine zW_bipush dX12_stepsBit_55 rfl ?_
  refine zW_iload_n 3 dX12_stepsBit_57 rfl ?_
  refine zW_iadd dX12_stepsBit_58 ?_
  obtain ⟨c8, hf⟩ := zgd hf
  refine zF_iald (hw.1 _ (zokM (r' := 58) o rfl rfl)) rfl c8 rfl dX12_stepsBit_59 ?_
  refine zC_Sri (As := [vi (ixor v3 a2), vi (I (58, 0, 0) (ix (26 + v1)))]) (fun x hx => kX12_signed hw (v0 := ixor v3 a2) (v1 := I (58, 0, 0) (ix (26 + v1)))  hx) ms_RX12_154 rfl rfl rfl rfl dX12_stepsBit_60 hf (fun r9 hf => ?_)
  refine zW_iadd dX12_stepsBit_63 ?_
  refine zF_istore (lv' := fun a10 => [(6, vi a10), (5, vi a2), (4, vi a1), (0, .ref (zad X (50, 0, 0))), (1, vi v1), (2, vi v2), (3, vi v3)]) dX12_stepsBit_64 hf (fun _ => rfl) rfl (fun a10 hf => ?_)
  refine zW_iload_n 4 dX12_stepsBit_66 rfl ?_
  refine zW_bipush dX12_stepsBit_67 rfl ?_
  refine zF_icmp_ge 85 dX12_stepsBit_69 rfl rfl (w32_lit _ rfl) hf (fun c hf => ?_) (fun c hf => ?_)
  · refine zW_aload_n 3 dX12_stepsBit_85 rfl ?_
    refine zW_getR (q' := (60, 0, 0)) lk_RX12_43 (hw.1 _ o) rfl rfl (hw.2.1 _ _ _ o rfl) dX12_stepsBit_86 ?_
    refine zW_iload_n 5 dX12_stepsBit_89 rfl ?_
    refine zF_iald (hw.1 _ (zokM (r' := 60) o rfl rfl)) rfl c3 rfl dX12_stepsBit_90 ?_
    refine zW_sub [3, 6, 2, 0] rfl ?_
    exact tX12_stepsBit_b91 hw o hf
  · refine zW_iconst dX12_stepsBit_72 ?_
    refine zW_aload_n 3 dX12_stepsBit_73 rfl ?_
    refine zW_getR (q' := (60, 0, 0)) lk_RX12_43 (hw.1 _ o) rfl rfl (hw.2.1 _ _ _ o rfl) dX12_stepsBit_74 ?_
    refine zW_iload_n 5 dX12_stepsBit_77 rfl ?_
    refine zF_iald (hw.1 _ (zokM (r' := 60) o rfl rfl)) rfl c3 rfl dX12_stepsBit_78 ?_
    refine zW_imul dX12_stepsBit_79 ?_
    refine zW_iload_n 6 dX12_stepsBit_80 rfl ?_
    refine zW_iadd dX12_stepsBit_81 ?_
    refine zW_goto 91 dX12_stepsBit_82 rfl ?_
    refine zW_sub [3, 6, 2, 0] rfl ?_
    exact tX12_stepsBit_b91 hw o hf
theorem kX12_stepsBit {X : zX} {e : Nat → Prop} (hw : zWf X e) {v1 : Int} {v2 : Int} {v3 : Int} (o : zOk e (50, 0, 0)) {I : zMem} {u : zMem} (hf : fX12_stepsBit v1 v2 v3 I = some u) : zCn X mX12_stepsBit yX12_stepsBit [.ref (zad X (50, 0, 0)), vi v1, vi v2, vi v3] I (none, u) := zCn_of (by decide +kernel) rfl rfl ⟨rfl, rfl⟩ (tX12_stepsBit_0 hw.N o hf)
set_option maxRecDepth 100000 in
theorem tX12_bestNow_b2_22 {X : zX} {e : Nat → Prop} (hw : zWf X e) {T : zT} {w1 : Int} {k0 : Int} {k1 : Int} {I : zMem} (o : zOk e (50, 0, 0)) (ko2 : zOk e (59, 0, 0)) {u : ((Int × zMem) ⊕ (Int × zMem))} (hf : fX12_bestNow_b2_22 w1 k0 k1 I = some u) (hk : ∀ s', u = .inl s' → zW X T mX12_bestNow 2 [(0, .ref (zad X (50, 0, 0))), (1, vi s'.1)] [] s'.2) (hx : ∀ x, u = .inr x → zW X T mX12_bestNow 36 [(0, .ref (zad X (50, 0, 0)))] [] x.2) : zW X T mX12_bestNow 22 [(0, .ref (zad X (50, 0, 0))), (1, vi w1)] [vi k0, vi k1, .ref (zad X (59, 0, 0))] I := by
  unfold fX12_bestNow_b2_22 at hf
  obtain ⟨c1, hf⟩ := zgd hf
  refine zF_iast (hw.1 _ ko2) rfl c1 rfl dX12_bestNow_22 hf (fun I2 hf => ?_)
  refine zW_aload_n 0 dX12_bestNow_23 rfl ?_
  refine zW_getR (q' := (60, 0, 0)) lk_RX12_43 (hw.1 _ o) rfl rfl (hw.2.1 _ _ _ o rfl) dX12_bestNow_24 ?_
  refine zW_iload_n 1 dX12_bestNow_27 rfl ?_
  refine zW_iconst dX12_bestNow_28 ?_
  obtain ⟨c3, hf⟩ := zgd hf
  refine zF_iast (hw.1 _ (zokM (r' := 60) o rfl rfl)) rfl c3 rfl dX12_bestNow_29 hf (fun I4 hf => ?_)
  refine zW_iinc 1 (lv' := [(1, vi (w1 + 1)), (0, .ref (zad X (50, 0, 0)))]) dX12_bestNow_30 rfl rfl rfl ?_
  refine zW_goto 2 dX12_bestNow_33 rfl ?_
  refine zW_sub [1, 0] rfl ?_
  exact hk _ (Option.some.inj hf).symm
set_option maxRecDepth 100000 in
theorem tX12_bestNow_l2_y {X : zX} {e : Nat → Prop} (hw : zWf X e) {T : zT}  (o : zOk e (50, 0, 0)) (s : (Int × zMem)) {u : ((Int × zMem) ⊕ (Int × zMem))} (hf : fX12_bestNow_l2  s = some u) (hk : ∀ s', u = .inl s' → zW X T mX12_bestNow 2 [(0, .ref (zad X (50, 0, 0))), (1, vi s'.1)] [] s'.2) (hx : ∀ x, u = .inr x → zW X T mX12_bestNow 36 [(0, .ref (zad X (50, 0, 0)))] [] x.2) : zW X T mX12_bestNow 2 [(0, .ref (zad X (50, 0, 0))), (1, vi s.1)] [] s.2 := by
  unfold fX12_bestNow_l2 at hf
  refine zW_iload_n 1 dX12_bestNow_2 rfl ?_
  refine zW_iconst dX12_bestNow_3 ?_
  refine zF_icmp_ge 36 dX12_bestNow_4 rfl rfl (w32_lit _ rfl) hf (fun c hf => ?_) (fun c hf => ?_)
  · refine zW_sub [0] rfl ?_
    exact hx _ (Option.some.inj hf).symm
  · refine zW_aload_n 0 dX12_bestNow_7 rfl ?_
    refine zW_getR (q' := (59, 0, 0)) lk_RX12_40 (hw.1 _ o) rfl rfl (hw.2.1 _ _ _ o rfl) dX12_bestNow_8 ?_
    refine zW_iload_n 1 dX12_bestNow_11 rfl ?_
    refine zW_iload_n 1 dX12_bestNow_12 rfl ?_
    refine zF_if_ne 20 dX12_bestNow_13 rfl rfl hf (fun c hf => ?_) (fun c hf => ?_)
    · refine zW_iconst dX12_bestNow_16 ?_
      refine zW_goto 22 dX12_bestNow_17 rfl ?_
      refine zW_sub [0, 1] rfl ?_
      exact tX12_bestNow_b2_22 hw o (zokM (r' := 59) o rfl rfl) hf hk hx
    · refine zW_ldc dX12_bestNow_20 wc_RX12_157 ?_
      refine zW_sub [0, 1] rfl ?_
      exact tX12_bestNow_b2_22 hw o (zokM (r' := 59) o rfl rfl) hf hk hx
theorem tX12_bestNow_l2 {X : zX} {e : Nat → Prop} (hw : zWf X e) {T : zT}  (o : zOk e (50, 0, 0)) {s0 : (Int × zMem)} {α : Type} {F : (Int × zMem) → Option α} {u : α} (hf : zb (zlp (fX12_bestNow_l2 ) 5000 s0) F = some u) (kx : ∀ x, F x = some u → zW X T mX12_bestNow 36 [(0, .ref (zad X (50, 0, 0)))] [] x.2) : zW X T mX12_bestNow 2 [(0, .ref (zad X (50, 0, 0))), (1, vi s0.1)] [] s0.2 := by
  obtain ⟨x, h, hf⟩ := zb_inv hf
  exact zlp_W (P := fun s => zW X T mX12_bestNow 2 [(0, .ref (zad X (50, 0, 0))), (1, vi s.1)] [] s.2) (E := fun x => zW X T mX12_bestNow 36 [(0, .ref (zad X (50, 0, 0)))] [] x.2) (fun s u h hk hx => tX12_bestNow_l2_y hw o s h hk hx) _ s0 x h (kx x hf)
set_option maxRecDepth 100000 in
theorem tX12_bestNow_l46_y {X : zX} {e : Nat → Prop} (hw : zWf X e) {T : zT} {w1 : Int} (o : zOk e (50, 0, 0)) (s : (Int × zMem)) {u : ((Int × zMem) ⊕ (Int × zMem))} (hf : fX12_bestNow_l46 w1 s = some u) (hk : ∀ s', u = .inl s' → zW X T mX12_bestNow 46 [(0, .ref (zad X (50, 0, 0))), (1, vi w1), (2, vi s'.1)] [] s'.2) (hx : ∀ x, u = .inr x → zW X T mX12_bestNow 74 [(0, .ref (zad X (50, 0, 0))), (1, vi w1)] [] x.2) : zW X T mX12_bestNow 46 [(0, .ref (zad X (50, 0, 0))), (1, vi w1), (2, vi s.1)] [] s.2 := by
  unfold fX12_bestNow_l46 at hf
  refine zW_iload_n 2 dX12_bestNow_46 rfl ?_
  refine zW_iconst dX12_bestNow_47 ?_
  refine zF_icmp_ge 74 dX12_bestNow_48 rfl rfl (w32_lit _ rfl) hf (fun c hf => ?_) (fun c hf => ?_)
  · refine zW_sub [0, 1] rfl ?_
    exact hx _ (Option.some.inj hf).symm
  · refine zW_aload_n 0 dX12_bestNow_51 rfl ?_
    refine zW_getR (q' := (61, 0, 0)) lk_RX12_46 (hw.1 _ o) rfl rfl (hw.2.1 _ _ _ o rfl) dX12_bestNow_52 ?_
    refine zW_iload_n 2 dX12_bestNow_55 rfl ?_
    refine zW_ldc dX12_bestNow_56 wc_RX12_157 ?_
    obtain ⟨c6, hf⟩ := zgd hf
    refine zF_iast (hw.1 _ (zokM (r' := 61) o rfl rfl)) rfl c6 rfl dX12_bestNow_58 hf (fun I7 hf => ?_)
    refine zW_aload_n 0 dX12_bestNow_59 rfl ?_
    refine zW_getR (q' := (62, 0, 0)) lk_RX12_49 (hw.1 _ o) rfl rfl (hw.2.1 _ _ _ o rfl) dX12_bestNow_60 ?_
    refine zW_iload_n 2 dX12_bestNow_63 rfl ?_
    refine zW_sipush dX12_bestNow_64 rfl ?_
    refine zF_iast (hw.1 _ (zokM (r' := 62) o rfl rfl)) rfl c6 rfl dX12_bestNow_67 hf (fun I8 hf => ?_)
    refine zW_iinc 2 (lv' := [(2, vi (s.1 + 1)), (0, .ref (zad X (50, 0, 0))), (1, vi w1)]) dX12_bestNow_68 rfl rfl rfl ?_
    refine zW_goto 46 dX12_bestNow_71 rfl ?_
    refine zW_sub [1, 2, 0] rfl ?_
    exact hk _ (Option.some.inj hf).symm
theorem tX12_bestNow_l46 {X : zX} {e : Nat → Prop} (hw : zWf X e) {T : zT} {w1 : Int} (o : zOk e (50, 0, 0)) {s0 : (Int × zMem)} {α : Type} {F : (Int × zMem) → Option α} {u : α} (hf : zb (zlp (fX12_bestNow_l46 w1) 5000 s0) F = some u) (kx : ∀ x, F x = some u → zW X T mX12_bestNow 74 [(0, .ref (zad X (50, 0, 0))), (1, vi w1)] [] x.2) : zW X T mX12_bestNow 46 [(0, .ref (zad X (50, 0, 0))), (1, vi w1), (2, vi s0.1)] [] s0.2 := by
  obtain ⟨x, h, hf⟩ := zb_inv hf
  exact zlp_W (P := fun s => zW X T mX12_bestNow 46 [(0, .ref (zad X (50, 0, 0))), (1, vi w1), (2, vi s.1)] [] s.2) (E := fun x => zW X T mX12_bestNow 74 [(0, .ref (zad X (50, 0, 0))), (1, vi w1)] [] x.2) (fun s u h hk hx => tX12_bestNow_l46_y hw o s h hk hx) _ s0 x h (kx x hf)
set_option maxRecDepth 100000 in
theorem tX12_bestNow_b76_115 {X : zX} {e : Nat → Prop} (hw : zWf X e) {T : zT} {w1 : Int} {w2 : Int} {I : zMem} (o : zOk e (50, 0, 0)) {u : ((Int × zMem) ⊕ (Int × zMem))} (hf : fX12_bestNow_b76_115 w1 w2 I = some u) (hk : ∀ s', u = .inl s' → zW X T mX12_bestNow 76 [(0, .ref (zad X (50, 0, 0))), (1, vi w1), (2, vi s'.1)] [] s'.2) (hx : ∀ x, u = .inr x → zW X T mX12_bestNow 121 [(0, .ref (zad X (50, 0, 0))), (1, vi w1)] [] x.2) : zW X T mX12_bestNow 115 [(0, .ref (zad X (50, 0, 0))), (1, vi w1), (2, vi w2)] [] I := by
  unfold fX12_bestNow_b76_115 at hf
  refine zW_iinc 2 (lv' := [(2, vi (w2 + 1)), (0, .ref (zad X (50, 0, 0))), (1, vi w1)]) dX12_bestNow_115 rfl rfl rfl ?_
  refine zW_goto 76 dX12_bestNow_118 rfl ?_
  refine zW_sub [1, 2, 0] rfl ?_
  exact hk _ (Option.some.inj hf).symm
set_option maxRecDepth 100000 in
theorem tX12_bestNow_l76_y {X : zX} {e : Nat → Prop} (hw : zWf X e) {T : zT} {w1 : Int} (o : zOk e (50, 0, 0)) (s : (Int × zMem)) {u : ((Int × zMem) ⊕ (Int × zMem))} (hf : fX12_bestNow_l76 w1 s = some u) (hk : ∀ s', u = .inl s' → zW X T mX12_bestNow 76 [(0, .ref (zad X (50, 0, 0))), (1, vi w1), (2, vi s'.1)] [] s'.2) (hx : ∀ x, u = .inr x → zW X T mX12_bestNow 121 [(0, .ref (zad X (50, 0, 0))), (1, vi w1)] [] x.2) : zW X T mX12_bestNow 76 [(0, .ref (zad X (50, 0, 0))), (1, vi w1), (2, vi s.1)] [] s.2 := by
  unfold fX12_bestNow_l76 at hf
  refine zW_iload_n 2 dX12_bestNow_76 rfl ?_
  refine zW_iconst dX12_bestNow_77 ?_
  refine zF_icmp_ge 121 dX12_bestNow_78 rfl rfl (w32_lit _ rfl) hf (fun c hf => ?_) (fun c hf => ?_)
  · refine zW_sub [0, 1] rfl ?_
    exact hx _ (Option.some.inj hf).symm
  · refine zW_aload_n 0 dX12_bestNow_81 rfl ?_
    refine zW_getR (q' := (59, 0, 0)) lk_RX12_40 (hw.1 _ o) rfl rfl (hw.2.1 _ _ _ o rfl) dX12_bestNow_82 ?_
    refine zW_iload_n 2 dX12_bestNow_85 rfl ?_
    obtain ⟨c10, hf⟩ := zgd hf
    refine zF_iald (hw.1 _ (zokM (r' := 59) o rfl rfl)) rfl c10 rfl dX12_bestNow_86 ?_
    refine zW_ldc dX12_bestNow_87 wc_RX12_157 ?_
    refine zF_icmp_ne 95 dX12_bestNow_89 rfl rfl (w32_lit _ rfl) hf (fun c hf => ?_) (fun c hf => ?_)
    · refine zW_goto 115 dX12_bestNow_92 rfl ?_
      refine zW_sub [0, 1, 2] rfl ?_
      exact tX12_bestNow_b76_115 hw o hf hk hx
    · refine zW_aload_n 0 dX12_bestNow_95 rfl ?_
      refine zW_iload_n 1 dX12_bestNow_96 rfl ?_
      refine zW_iload_n 2 dX12_bestNow_97 rfl ?_
      refine zW_iconst dX12_bestNow_98 ?_
      refine zC_Vwv (As := [vi w1, vi s.1, vi 0]) (fun x hx => kX12_stepsBit hw (v1 := w1) (v2 := s.1) (v3 := 0) o hx) mv_RX12_158 (hw.1 _ o) rfl rfl rfl rfl rfl dX12_bestNow_99 hf (fun r11 hf => ?_)
      refine zW_iload_n 1 dX12_bestNow_102 rfl ?_
      refine zW_bipush dX12_bestNow_103 rfl ?_
      refine zF_icmp_ge 115 dX12_bestNow_105 rfl rfl (w32_lit _ rfl) hf (fun c hf => ?_) (fun c hf => ?_)
      · refine zW_sub [0, 1, 2] rfl ?_
        exact tX12_bestNow_b76_115 hw o hf hk hx
      · refine zW_aload_n 0 dX12_bestNow_108 rfl ?_
        refine zW_iload_n 1 dX12_bestNow_109 rfl ?_
        refine zW_iload_n 2 dX12_bestNow_110 rfl ?_
        refine zW_iconst dX12_bestNow_111 ?_
        refine zC_Vwv (As := [vi w1, vi s.1, vi 1]) (fun x hx => kX12_stepsBit hw (v1 := w1) (v2 := s.1) (v3 := 1) o hx) mv_RX12_158 (hw.1 _ o) rfl rfl rfl rfl rfl dX12_bestNow_112 hf (fun r12 hf => ?_)
        refine zW_sub [0, 1, 2] rfl ?_
        exact tX12_bestNow_b76_115 hw o hf hk hx
theorem tX12_bestNow_l76 {X : zX} {e : Nat → Prop} (hw : zWf X e) {T : zT} {w1 : Int} (o : zOk e (50, 0, 0)) {s0 : (Int × zMem)} {α : Type} {F : (Int × zMem) → Option α} {u : α} (hf : zb (zlp (fX12_bestNow_l76 w1) 5000 s0) F = some u) (kx : ∀ x, F x = some u → zW X T mX12_bestNow 121 [(0, .ref (zad X (50, 0, 0))), (1, vi w1)] [] x.2) : zW X T mX12_bestNow 76 [(0, .ref (zad X (50, 0, 0))), (1, vi w1), (2, vi s0.1)] [] s0.2 := by
  obtain ⟨x, h, hf⟩ := zb_inv hf
  exact zlp_W (P := fun s => zW X T mX12_bestNow 76 [(0, .ref (zad X (50, 0, 0))), (1, vi w1), (2, vi s.1)] [] s.2) (E := fun x => zW X T mX12_bestNow 121 [(0, .ref (zad X (50, 0, 0))), (1, vi w1)] [] x.2) (fun s u h hk hx => tX12_bestNow_l76_y hw o s h hk hx) _ s0 x h (kx x hf)
set_option maxRecDepth 100000 in
theorem tX12_bestNow_l123_y {X : zX} {e : Nat → Prop} (hw : zWf X e) {T : zT} {w1 : Int} (o : zOk e (50, 0, 0)) (s : (Int × zMem)) {u : ((Int × zMem) ⊕ (Int × zMem))} (hf : fX12_bestNow_l123 w1 s = some u) (hk : ∀ s', u = .inl s' → zW X T mX12_bestNow 123 [(0, .ref (zad X (50, 0, 0))), (1, vi w1), (2, vi s'.1)] [] s'.2) (hx : ∀ x, u = .inr x → zW X T mX12_bestNow 158 [(0, .ref (zad X (50, 0, 0))), (1, vi w1)] [] x.2) : zW X T mX12_bestNow 123 [(0, .ref (zad X (50, 0, 0))), (1, vi w1), (2, vi s.1)] [] s.2 := by
  unfold fX12_bestNow_l123 at hf
  refine zW_iload_n 2 dX12_bestNow_123 rfl ?_
  refine zW_iconst dX12_bestNow_124 ?_
  refine zF_icmp_ge 158 dX12_bestNow_125 rfl rfl (w32_lit _ rfl) hf (fun c hf => ?_) (fun c hf => ?_)
  · refine zW_sub [0, 1] rfl ?_
    exact hx _ (Option.some.inj hf).symm
  · refine zW_aload_n 0 dX12_bestNow_128 rfl ?_
    refine zW_getR (q' := (59, 0, 0)) lk_RX12_40 (hw.1 _ o) rfl rfl (hw.2.1 _ _ _ o rfl) dX12_bestNow_129 ?_
    refine zW_iload_n 2 dX12_bestNow_132 rfl ?_
    refine zW_aload_n 0 dX12_bestNow_133 rfl ?_
    refine zW_getR (q' := (61, 0, 0)) lk_RX12_46 (hw.1 _ o) rfl rfl (hw.2.1 _ _ _ o rfl) dX12_bestNow_134 ?_
    refine zW_iload_n 2 dX12_bestNow_137 rfl ?_
    obtain ⟨c14, hf⟩ := zgd hf
    refine zF_iald (hw.1 _ (zokM (r' := 61) o rfl rfl)) rfl c14 rfl dX12_bestNow_138 ?_
    refine zF_iast (hw.1 _ (zokM (r' := 59) o rfl rfl)) rfl c14 rfl dX12_bestNow_139 hf (fun I15 hf => ?_)
    refine zW_aload_n 0 dX12_bestNow_140 rfl ?_
    refine zW_getR (q' := (60, 0, 0)) lk_RX12_43 (hw.1 _ o) rfl rfl (hw.2.1 _ _ _ o rfl) dX12_bestNow_141 ?_
    refine zW_iload_n 2 dX12_bestNow_144 rfl ?_
    refine zW_aload_n 0 dX12_bestNow_145 rfl ?_
    refine zW_getR (q' := (62, 0, 0)) lk_RX12_49 (hw.1 _ o) rfl rfl (hw.2.1 _ _ _ o rfl) dX12_bestNow_146 ?_
    refine zW_iload_n 2 dX12_bestNow_149 rfl ?_
    refine zF_iald (hw.1 _ (zokM (r' := 62) o rfl rfl)) rfl c14 rfl dX12_bestNow_150 ?_
    refine zF_iast (hw.1 _ (zokM (r' := 60) o rfl rfl)) rfl c14 rfl dX12_bestNow_151 hf (fun I16 hf => ?_)
    refine zW_iinc 2 (lv' := [(2, vi (s.1 + 1)), (0, .ref (zad X (50, 0, 0))), (1, vi w1)]) dX12_bestNow_152 rfl rfl rfl ?_
    refine zW_goto 123 dX12_bestNow_155 rfl ?_
    refine zW_sub [1, 2, 0] rfl ?_
    exact hk _ (Option.some.inj hf).symm
theorem tX12_bestNow_l123 {X : zX} {e : Nat → Prop} (hw : zWf X e) {T : zT} {w1 : Int} (o : zOk e (50, 0, 0)) {s0 : (Int × zMem)} {α : Type} {F : (Int × zMem) → Option α} {u : α} (hf : zb (zlp (fX12_bestNow_l123 w1) 5000 s0) F = some u) (kx : ∀ x, F x = some u → zW X T mX12_bestNow 158 [(0, .ref (zad X (50, 0, 0))), (1, vi w1)] [] x.2) : zW X T mX12_bestNow 123 [(0, .ref (zad X (50, 0, 0))), (1, vi w1), (2, vi s0.1)] [] s0.2 := by
  obtain ⟨x, h, hf⟩ := zb_inv hf
  exact zlp_W (P := fun s => zW X T mX12_bestNow 123 [(0, .ref (zad X (50, 0, 0))), (1, vi w1), (2, vi s.1)] [] s.2) (E := fun x => zW X T mX12_bestNow 158 [(0, .ref (zad X (50, 0, 0))), (1, vi w1)] [] x.2) (fun s u h hk hx => tX12_bestNow_l123_y hw o s h hk hx) _ s0 x h (kx x hf)
set_option maxRecDepth 100000 in
theorem tX12_bestNow_l38_y {X : zX} {e : Nat → Prop} (hw : zWf X e) {T : zT}  (o : zOk e (50, 0, 0)) (s : (Int × zMem)) {u : ((Int × zMem) ⊕ (Int × zMem))} (hf : fX12_bestNow_l38  s = some u) (hk : ∀ s', u = .inl s' → zW X T mX12_bestNow 38 [(0, .ref (zad X (50, 0, 0))), (1, vi s'.1)] [] s'.2) (hx : ∀ x, u = .inr x → zW X T mX12_bestNow 164 [(0, .ref (zad X (50, 0, 0)))] [] x.2) : zW X T mX12_bestNow 38 [(0, .ref (zad X (50, 0, 0))), (1, vi s.1)] [] s.2 := by
  unfold fX12_bestNow_l38 at hf
  refine zW_iload_n 1 dX12_bestNow_38 rfl ?_
  refine zW_bipush dX12_bestNow_39 rfl ?_
  refine zF_icmp_ge 164 dX12_bestNow_41 rfl rfl (w32_lit _ rfl) hf (fun c hf => ?_) (fun c hf => ?_)
  · refine zW_sub [0] rfl ?_
    exact hx _ (Option.some.inj hf).symm
  · refine zW_iconst dX12_bestNow_44 ?_
    refine zW_istore_n (lv' := [(2, vi 0), (0, .ref (zad X (50, 0, 0))), (1, vi s.1)]) dX12_bestNow_45 rfl rfl ?_
    refine zW_sub [1, 2, 0] rfl ?_
    refine tX12_bestNow_l46 hw o (s0 := (0, s.2)) hf (fun x9 hf => ?_)
    refine zW_iconst dX12_bestNow_74 ?_
    refine zW_istore_n (lv' := [(2, vi 0), (0, .ref (zad X (50, 0, 0))), (1, vi s.1)]) dX12_bestNow_75 rfl rfl ?_
    refine zW_sub [1, 2, 0] rfl ?_
    refine tX12_bestNow_l76 hw o (s0 := (0, x9.2)) hf (fun x13 hf => ?_)
    refine zW_iconst dX12_bestNow_121 ?_
    refine zW_istore_n (lv' := [(2, vi 0), (0, .ref (zad X (50, 0, 0))), (1, vi s.1)]) dX12_bestNow_122 rfl rfl ?_
    refine zW_sub [1, 2, 0] rfl ?_
    refine tX12_bestNow_l123 hw o (s0 := (0, x13.2)) hf (fun x17 hf => ?_)
    refine zW_iinc 1 (lv' := [(1, vi (s.1 + 1)), (0, .ref (zad X (50, 0, 0)))]) dX12_bestNow_158 rfl rfl rfl ?_
    refine zW_goto 38 dX12_bestNow_161 rfl ?_
    refine zW_sub [1, 0] rfl ?_
    exact hk _ (Option.some.inj hf).symm
theorem tX12_bestNow_l38 {X : zX} {e : Nat → Prop} (hw : zWf X e) {T : zT}  (o : zOk e (50, 0, 0)) {s0 : (Int × zMem)} {α : Type} {F : (Int × zMem) → Option α} {u : α} (hf : zb (zlp (fX12_bestNow_l38 ) 5000 s0) F = some u) (kx : ∀ x, F x = some u → zW X T mX12_bestNow 164 [(0, .ref (zad X (50, 0, 0)))] [] x.2) : zW X T mX12_bestNow 38 [(0, .ref (zad X (50, 0, 0))), (1, vi s0.1)] [] s0.2 := by
  obtain ⟨x, h, hf⟩ := zb_inv hf
  exact zlp_W (P := fun s => zW X T mX12_bestNow 38 [(0, .ref (zad X (50, 0, 0))), (1, vi s.1)] [] s.2) (E := fun x => zW X T mX12_bestNow 164 [(0, .ref (zad X (50, 0, 0)))] [] x.2) (fun s u h hk hx => tX12_bestNow_l38_y hw o s h hk hx) _ s0 x h (kx x hf)
set_option maxRecDepth 100000 in
theorem tX12_bestNow_0 {X : zX} {e : Nat → Prop} (hw : zWf X e)  (o : zOk e (50, 0, 0)) {I : zMem} {u : (Int × zMem)} (hf : fX12_bestNow  I = some u) : zW X (some (vi u.1), u.2) mX12_bestNow 0 [(0, .ref (zad X (50, 0, 0)))] [] I := by
  unfold fX12_bestNow at hf
  refine zW_iconst dX12_bestNow_0 ?_
  refine zW_istore_n (lv' := [(1, vi 0), (0, .ref (zad X (50, 0, 0)))]) dX12_bestNow_1 rfl rfl ?_
  refine zW_sub [1, 0] rfl ?_
  refine tX12_bestNow_l2 hw o (s0 := (0, I)) hf (fun x5 hf => ?_)
  refine zW_iconst dX12_bestNow_36 ?_
  refine zW_istore_n (lv' := [(1, vi 0), (0, .ref (zad X (50, 0, 0)))]) dX12_bestNow_37 rfl rfl ?_
  refine zW_sub [1, 0] rfl ?_
  refine tX12_bestNow_l38 hw o (s0 := (0, x5.2)) hf (fun x18 hf => ?_)
  refine zW_aload_n 0 dX12_bestNow_164 rfl ?_
  refine zW_getR (q' := (60, 0, 0)) lk_RX12_43 (hw.1 _ o) rfl rfl (hw.2.1 _ _ _ o rfl) dX12_bestNow_165 ?_
  refine zW_iconst dX12_bestNow_168 ?_
  refine zF_iald (hw.1 _ (zokM (r' := 60) o rfl rfl)) rfl (zin_lit _ _ rfl) (ix_lit _ rfl) dX12_bestNow_169 ?_
  exact zR_i hw rfl dX12_bestNow_170 hf
theorem kX12_bestNow {X : zX} {e : Nat → Prop} (hw : zWf X e)  (o : zOk e (50, 0, 0)) {I : zMem} {u : (Int × zMem)} (hf : fX12_bestNow  I = some u) : zCn X mX12_bestNow yX12_bestNow [.ref (zad X (50, 0, 0))] I (some (vi u.1), u.2) := zCn_of (by decide +kernel) rfl rfl ⟨rfl, rfl⟩ (tX12_bestNow_0 hw.N o hf)
set_option maxRecDepth 100000 in
theorem tX12_weak_l46_y {X : zX} {e : Nat → Prop} (hw : zWf X e) {T : zT} {v1 : Int} {v2 : Int} {v3 : Int} (o : zOk e (50, 0, 0)) (s : (Int × zMem)) {u : ((Int × zMem) ⊕ (Int × zMem))} (hf : fX12_weak_l46 v1 v2 v3 s = some u) (hk : ∀ s', u = .inl s' → zW X T mX12_weak 46 [(0, .ref (zad X (50, 0, 0))), (1, vi v1), (3, vi v3), (4, vi s'.1)] [] s'.2) (hx : ∀ x, u = .inr x → zW X T mX12_weak 67 [(0, .ref (zad X (50, 0, 0))), (1, vi v1), (3, vi v3)] [] x.2) : zW X T mX12_weak 46 [(0, .ref (zad X (50, 0, 0))), (1, vi v1), (3, vi v3), (4, vi s.1)] [] s.2 := by
  unfold fX12_weak_l46 at hf
  refine zW_iload 3 dX12_weak_46 rfl ?_
  refine zW_bipush dX12_weak_48 rfl ?_
  refine zF_icmp_ge 67 dX12_weak_50 rfl rfl (w32_lit _ rfl) hf (fun c hf => ?_) (fun c hf => ?_)
  · refine zW_sub [0, 1, 2] rfl ?_
    exact hx _ (Option.some.inj hf).symm
  · refine zW_aload_n 0 dX12_weak_53 rfl ?_
    refine zW_getR (q' := (58, 0, 0)) lk_RX12_37 (hw.1 _ o) rfl rfl (hw.2.1 _ _ _ o rfl) dX12_weak_54 ?_
    refine zW_iload 3 dX12_weak_57 rfl ?_
    refine zW_iconst dX12_weak_59 ?_
    obtain ⟨c6, hf⟩ := zgd hf
    refine zF_iast (hw.1 _ (zokM (r' := 58) o rfl rfl)) rfl c6 rfl dX12_weak_60 hf (fun I7 hf => ?_)
    refine zW_iinc 3 (lv' := [(4, vi (s.1 + 1)), (0, .ref (zad X (50, 0, 0))), (1, vi v1), (3, vi v3)]) dX12_weak_61 rfl rfl rfl ?_
    refine zW_goto 46 dX12_weak_64 rfl ?_
    refine zW_sub [1, 2, 3, 0] rfl ?_
    exact hk _ (Option.some.inj hf).symm
theorem tX12_weak_l46 {X : zX} {e : Nat → Prop} (hw : zWf X e) {T : zT} {v1 : Int} {v2 : Int} {v3 : Int} (o : zOk e (50, 0, 0)) {s0 : (Int × zMem)} {α : Type} {F : (Int × zMem) → Option α} {u : α} (hf : zb (zlp (fX12_weak_l46 v1 v2 v3) 5000 s0) F = some u) (kx : ∀ x, F x = some u → zW X T mX12_weak 67 [(0, .ref (zad X (50, 0, 0))), (1, vi v1), (3, vi v3)] [] x.2) : zW X T mX12_weak 46 [(0, .ref (zad X (50, 0, 0))), (1, vi v1), (3, vi v3), (4, vi s0.1)] [] s0.2 := by
  obtain ⟨x, h, hf⟩ := zb_inv hf
  exact zlp_W (P := fun s => zW X T mX12_weak 46 [(0, .ref (zad X (50, 0, 0))), (1, vi v1), (3, vi v3), (4, vi s.1)] [] s.2) (E := fun x => zW X T mX12_weak 67 [(0, .ref (zad X (50, 0, 0))), (1, vi v1), (3, vi v3)] [] x.2) (fun s u h hk hx => tX12_weak_l46_y hw o s h hk hx) _ s0 x h (kx x hf)
set_option maxRecDepth 100000 in
theorem tX12_weak_l70_y {X : zX} {e : Nat → Prop} (hw : zWf X e) {T : zT} {v1 : Int} {v2 : Int} {v3 : Int} (o : zOk e (50, 0, 0)) (s : (Int × zMem)) {u : ((Int × zMem) ⊕ (Int × zMem))} (hf : fX12_weak_l70 v1 v2 v3 s = some u) (hk : ∀ s', u = .inl s' → zW X T mX12_weak 70 [(0, .ref (zad X (50, 0, 0))), (1, vi v1), (3, vi v3), (4, vi s'.1)] [] s'.2) (hx : ∀ x, u = .inr x → zW X T mX12_weak 112 [(0, .ref (zad X (50, 0, 0))), (1, vi v1), (3, vi v3)] [] x.2) : zW X T mX12_weak 70 [(0, .ref (zad X (50, 0, 0))), (1, vi v1), (3, vi v3), (4, vi s.1)] [] s.2 := by
  unfold fX12_weak_l70 at hf
  refine zW_iload 3 dX12_weak_70 rfl ?_
  refine zW_iload_n 2 dX12_weak_72 rfl ?_
  refine zF_icmp_ge 112 dX12_weak_73 rfl rfl rfl hf (fun c hf => ?_) (fun c hf => ?_)
  · refine zW_sub [0, 1, 2] rfl ?_
    exact hx _ (Option.some.inj hf).symm
  · refine zW_aload_n 0 dX12_weak_76 rfl ?_
    refine zW_getR (q' := (58, 0, 0)) lk_RX12_37 (hw.1 _ o) rfl rfl (hw.2.1 _ _ _ o rfl) dX12_weak_77 ?_
    refine zW_aload_n 0 dX12_weak_80 rfl ?_
    refine zW_getR (q' := (56, 0, 0)) lk_RX12_31 (hw.1 _ o) rfl rfl (hw.2.1 _ _ _ o rfl) dX12_weak_81 ?_
    refine zW_iload 3 dX12_weak_84 rfl ?_
    obtain ⟨c9, hf⟩ := zgd hf
    refine zF_iald (hw.1 _ (zokM (r' := 56) o rfl rfl)) rfl c9 rfl dX12_weak_86 ?_
    refine zW_dup2 dX12_weak_87 rfl rfl ?_
    obtain ⟨c10, hf⟩ := zgd hf
    refine zF_iald (hw.1 _ (zokM (r' := 58) o rfl rfl)) rfl c10 rfl dX12_weak_88 ?_
    refine zW_iload_n 1 dX12_weak_89 rfl ?_
    refine zW_aload_n 0 dX12_weak_90 rfl ?_
    refine zW_getR (q' := (56, 0, 0)) lk_RX12_31 (hw.1 _ o) rfl rfl (hw.2.1 _ _ _ o rfl) dX12_weak_91 ?_
    refine zW_iload 3 dX12_weak_94 rfl ?_
    refine zF_iald (hw.1 _ (zokM (r' := 56) o rfl rfl)) rfl c9 rfl dX12_weak_96 ?_
    refine zC_Sri (As := [vi v1, vi (s.2 (56, 0, 0) (ix s.1))]) (fun x hx => kX12_codeBit hw (v0 := v1) (v1 := s.2 (56, 0, 0) (ix s.1))  hx) ms_RX12_82 rfl rfl rfl rfl dX12_weak_97 hf (fun r11 hf => ?_)
    refine zW_iconst dX12_weak_100 ?_
    refine zC_Sri (As := [vi r11, vi 1]) (fun x hx => kX12_signed hw (v0 := r11) (v1 := 1)  hx) ms_RX12_154 rfl rfl rfl rfl dX12_weak_101 hf (fun r12 hf => ?_)
    refine zW_iadd dX12_weak_104 ?_
    refine zF_iast (hw.1 _ (zokM (r' := 58) o rfl rfl)) rfl c10 rfl dX12_weak_105 hf (fun I13 hf => ?_)
    refine zW_iinc 3 (lv' := [(4, vi (s.1 + 1)), (0, .ref (zad X (50, 0, 0))), (1, vi v1), (3, vi v3)]) dX12_weak_106 rfl rfl rfl ?_
    refine zW_goto 70 dX12_weak_109 rfl ?_
    refine zW_sub [1, 2, 3, 0] rfl ?_
    exact hk _ (Option.some.inj hf).symm
theorem tX12_weak_l70 {X : zX} {e : Nat → Prop} (hw : zWf X e) {T : zT} {v1 : Int} {v2 : Int} {v3 : Int} (o : zOk e (50, 0, 0)) {s0 : (Int × zMem)} {α : Type} {F : (Int × zMem) → Option α} {u : α} (hf : zb (zlp (fX12_weak_l70 v1 v2 v3) 5000 s0) F = some u) (kx : ∀ x, F x = some u → zW X T mX12_weak 112 [(0, .ref (zad X (50, 0, 0))), (1, vi v1), (3, vi v3)] [] x.2) : zW X T mX12_weak 70 [(0, .ref (zad X (50, 0, 0))), (1, vi v1), (3, vi v3), (4, vi s0.1)] [] s0.2 := by
  obtain ⟨x, h, hf⟩ := zb_inv hf
  exact zlp_W (P := fun s => zW X T mX12_weak 70 [(0, .ref (zad X (50, 0, 0))), (1, vi v1), (3, vi v3), (4, vi s.1)] [] s.2) (E := fun x => zW X T mX12_weak 112 [(0, .ref (zad X (50, 0, 0))), (1, vi v1), (3, vi v3)] [] x.2) (fun s u h hk hx => tX12_weak_l70_y hw o s h hk hx) _ s0 x h (kx x hf)
set_option maxRecDepth 100000 in
theorem tX12_weak_b118_175 {X : zX} {e : Nat → Prop} (hw : zWf X e) {T : zT} {v1 : Int} {v2 : Int} {v3 : Int} {w5 : Int} {w6 : Int} {k0 : Int} {k1 : Int} {I : zMem} (o : zOk e (50, 0, 0)) {u : ((Int × Int × zMem) ⊕ (Int × Int × zMem))} (hf : fX12_weak_b118_175 v1 v2 v3 w5 w6 k0 k1 I = some u) (hk : ∀ s', u = .inl s' → zW X T mX12_weak 118 [(0, .ref (zad X (50, 0, 0))), (1, vi v1), (3, vi v3), (4, vi s'.1), (5, vi s'.2.1)] [] s'.2.2) (hx : ∀ x, u = .inr x → zW X T mX12_weak 201 [(4, vi x.1)] [] x.2.2) : zW X T mX12_weak 175 [(0, .ref (zad X (50, 0, 0))), (1, vi v1), (3, vi v3), (5, vi w5), (6, vi w6)] [vi k0, vi k1] I := by
  unfold fX12_weak_b118_175 at hf
  refine zW_iadd dX12_weak_175 ?_
  refine zF_istore (lv' := fun a22 => [(4, vi a22), (0, .ref (zad X (50, 0, 0))), (1, vi v1), (3, vi v3), (5, vi w5), (6, vi w6)]) dX12_weak_176 hf (fun _ => rfl) rfl (fun a22 hf => ?_)
  refine zW_aload_n 1 dX12_weak_178 rfl ?_
  refine zW_getR (q' := (58, 0, 0)) lk_RX12_37 (hw.1 _ o) rfl rfl (hw.2.1 _ _ _ o rfl) dX12_weak_179 ?_
  refine zW_aload_n 1 dX12_weak_182 rfl ?_
  refine zW_getR (q' := (56, 0, 0)) lk_RX12_31 (hw.1 _ o) rfl rfl (hw.2.1 _ _ _ o rfl) dX12_weak_183 ?_
  refine zW_iload 4 dX12_weak_186 rfl ?_
  obtain ⟨c23, hf⟩ := zgd hf
  refine zF_iald (hw.1 _ (zokM (r' := 56) o rfl rfl)) rfl c23 rfl dX12_weak_188 ?_
  refine zW_dup2 dX12_weak_189 rfl rfl ?_
  obtain ⟨c24, hf⟩ := zgd hf
  refine zF_iald (hw.1 _ (zokM (r' := 58) o rfl rfl)) rfl c24 rfl dX12_weak_190 ?_
  refine zW_iload 5 dX12_weak_191 rfl ?_
  refine zW_iadd dX12_weak_193 ?_
  refine zF_iast (hw.1 _ (zokM (r' := 58) o rfl rfl)) rfl c24 rfl dX12_weak_194 hf (fun I25 hf => ?_)
  refine zW_iinc 4 (lv' := [(5, vi (w5 + 1)), (4, vi a22), (0, .ref (zad X (50, 0, 0))), (1, vi v1), (3, vi v3), (6, vi w6)]) dX12_weak_195 rfl rfl rfl ?_
  refine zW_goto 118 dX12_weak_198 rfl ?_
  refine zW_sub [2, 3, 4, 1, 0] rfl ?_
  exact hk _ (Option.some.inj hf).symm
set_option maxRecDepth 100000 in
theorem tX12_weak_l118_y {X : zX} {e : Nat → Prop} (hw : zWf X e) {T : zT} {v1 : Int} {v2 : Int} {v3 : Int} (o : zOk e (50, 0, 0)) (s : (Int × Int × zMem)) {u : ((Int × Int × zMem) ⊕ (Int × Int × zMem))} (hf : fX12_weak_l118 v1 v2 v3 s = some u) (hk : ∀ s', u = .inl s' → zW X T mX12_weak 118 [(0, .ref (zad X (50, 0, 0))), (1, vi v1), (3, vi v3), (4, vi s'.1), (5, vi s'.2.1)] [] s'.2.2) (hx : ∀ x, u = .inr x → zW X T mX12_weak 201 [(4, vi x.1)] [] x.2.2) : zW X T mX12_weak 118 [(0, .ref (zad X (50, 0, 0))), (1, vi v1), (3, vi v3), (4, vi s.1), (5, vi s.2.1)] [] s.2.2 := by
  unfold fX12_weak_l118 at hf
  refine zW_iload 4 dX12_weak_118 rfl ?_
  refine zW_iload_n 2 dX12_weak_120 rfl ?_
  refine zF_icmp_ge 201 dX12_weak_121 rfl rfl rfl hf (fun c hf => ?_) (fun c hf => ?_)
  · refine zW_sub [3] rfl ?_
    exact hx _ (Option.some.inj hf).symm
  · refine zW_iconst dX12_weak_124 ?_
    refine zW_iload_n 1 dX12_weak_125 rfl ?_
    refine zW_aload_n 0 dX12_weak_126 rfl ?_
    refine zW_getR (q' := (56, 0, 0)) lk_RX12_31 (hw.1 _ o) rfl rfl (hw.2.1 _ _ _ o rfl) dX12_weak_127 ?_
    refine zW_iload 4 dX12_weak_130 rfl ?_
    obtain ⟨c15, hf⟩ := zgd hf
    refine zF_iald (hw.1 _ (zokM (r' := 56) o rfl rfl)) rfl c15 rfl dX12_weak_132 ?_
    refine zC_Sri (As := [vi v1, vi (s.2.2 (56, 0, 0) (ix s.2.1))]) (fun x hx => kX12_codeBit hw (v0 := v1) (v1 := s.2.2 (56, 0, 0) (ix s.2.1))  hx) ms_RX12_82 rfl rfl rfl rfl dX12_weak_133 hf (fun r16 hf => ?_)
    refine zW_iconst dX12_weak_136 ?_
    refine zC_Sri (As := [vi r16, vi 1]) (fun x hx => kX12_signed hw (v0 := r16) (v1 := 1)  hx) ms_RX12_154 rfl rfl rfl rfl dX12_weak_137 hf (fun r17 hf => ?_)
    refine zW_imul dX12_weak_140 ?_
    refine zF_istore (lv' := fun a18 => [(6, vi a18), (0, .ref (zad X (50, 0, 0))), (1, vi v1), (3, vi v3), (4, vi s.1), (5, vi s.2.1)]) dX12_weak_141 hf (fun _ => rfl) rfl (fun a18 hf => ?_)
    refine zW_aload_n 1 dX12_weak_143 rfl ?_
    refine zW_getR (q' := (58, 0, 0)) lk_RX12_37 (hw.1 _ o) rfl rfl (hw.2.1 _ _ _ o rfl) dX12_weak_144 ?_
    refine zW_aload_n 1 dX12_weak_147 rfl ?_
    refine zW_getR (q' := (56, 0, 0)) lk_RX12_31 (hw.1 _ o) rfl rfl (hw.2.1 _ _ _ o rfl) dX12_weak_148 ?_
    refine zW_iload 5 dX12_weak_151 rfl ?_
    refine zF_iald (hw.1 _ (zokM (r' := 56) o rfl rfl)) rfl c15 rfl dX12_weak_153 ?_
    refine zW_dup2 dX12_weak_154 rfl rfl ?_
    obtain ⟨c19, hf⟩ := zgd hf
    refine zF_iald (hw.1 _ (zokM (r' := 58) o rfl rfl)) rfl c19 rfl dX12_weak_155 ?_
    refine zW_iload 0 dX12_weak_156 rfl ?_
    refine zW_isub dX12_weak_158 ?_
    refine zF_iast (hw.1 _ (zokM (r' := 58) o rfl rfl)) rfl c19 rfl dX12_weak_159 hf (fun I20 hf => ?_)
    refine zW_iload 4 dX12_weak_160 rfl ?_
    refine zW_aload_n 1 dX12_weak_162 rfl ?_
    refine zC_Vwi (As := []) (fun x hx => kX12_bestNow hw o hx) mv_RX12_162 (hw.1 _ o) rfl rfl rfl rfl rfl dX12_weak_163 hf (fun r21 hf => ?_)
    refine zW_iload_n 2 dX12_weak_166 rfl ?_
    refine zF_icmp_ne 174 dX12_weak_167 rfl rfl rfl hf (fun c hf => ?_) (fun c hf => ?_)
    · refine zW_iconst dX12_weak_170 ?_
      refine zW_goto 175 dX12_weak_171 rfl ?_
      refine zW_sub [1, 2, 3, 5, 0] rfl ?_
      exact tX12_weak_b118_175 hw o hf hk hx
    · refine zW_iconst dX12_weak_174 ?_
      refine zW_sub [1, 2, 3, 5, 0] rfl ?_
      exact tX12_weak_b118_175 hw o hf hk hx
theorem tX12_weak_l118 {X : zX} {e : Nat → Prop} (hw : zWf X e) {T : zT} {v1 : Int} {v2 : Int} {v3 : Int} (o : zOk e (50, 0, 0)) {s0 : (Int × Int × zMem)} {α : Type} {F : (Int × Int × zMem) → Option α} {u : α} (hf : zb (zlp (fX12_weak_l118 v1 v2 v3) 5000 s0) F = some u) (kx : ∀ x, F x = some u → zW X T mX12_weak 201 [(4, vi x.1)] [] x.2.2) : zW X T mX12_weak 118 [(0, .ref (zad X (50, 0, 0))), (1, vi v1), (3, vi v3), (4, vi s0.1), (5, vi s0.2.1)] [] s0.2.2 := by
  obtain ⟨x, h, hf⟩ := zb_inv hf
  exact zlp_W (P := fun s => zW X T mX12_weak 118 [(0, .ref (zad X (50, 0, 0))), (1, vi v1), (3, vi v3), (4, vi s.1), (5, vi s.2.1)] [] s.2.2) (E := fun x => zW X T mX12_weak 201 [(4, vi x.1)] [] x.2.2) (fun s u h hk hx => tX12_weak_l118_y hw o s h hk hx) _ s0 x h (kx x hf)
set_option maxRecDepth 100000 in
theorem tX12_weak_0 {X : zX} {e : Nat → Prop} (hw : zWf X e) {v1 : Int} {v2 : Int} {v3 : Int} (o : zOk e (50, 0, 0)) {I : zMem} {u : (Int × zMem)} (hf : fX12_weak v1 v2 v3 I = some u) : zW X (some (vi u.1), u.2) mX12_weak 0 [(0, .ref (zad X (50, 0, 0))), (1, vi v1), (2, vi v2), (3, vi v3)] [] I := by
  unfold fX12_weak at hf
  refine zW_aload_n 0 dX12_weak_0 rfl ?_
  refine zW_iconst dX12_weak_1 ?_
  refine zF_put lk_RX12_1 (hw.1 _ o) rfl rfl (zn_int _) dX12_weak_2 hf (fun I1 hf => ?_)
  refine zW_iload_n 2 dX12_weak_5 rfl ?_
  refine zW_i2l dX12_weak_6 ?_
  refine zW_lconst0 dX12_weak_7 ?_
  refine zW_ldc2 dX12_weak_8 wc_RX12_132 ?_
  refine zC_Sri (As := [vl (w32 v2), vl 0, vl 3]) (fun x hx => kX12_within hw (v0 := w32 v2) (v2 := 0) (v4 := 3)  hx) ms_RX12_94 rfl rfl rfl rfl dX12_weak_11 hf (fun r2 hf => ?_)
  refine zF_if_ne 20 dX12_weak_14 rfl rfl hf (fun c hf => ?_) (fun c hf => ?_)
  · refine zW_bipush dX12_weak_17 rfl ?_
    exact zR_i hw rfl dX12_weak_19 hf
  · refine zW_iload_n 1 dX12_weak_20 rfl ?_
    refine zC_Sri (As := [vi v1]) (fun x hx => kX12_isWord hw (v0 := v1)  hx) ms_RX12_127 rfl rfl rfl rfl dX12_weak_21 hf (fun r3 hf => ?_)
    refine zF_if_eq 34 dX12_weak_24 rfl rfl hf (fun c hf => ?_) (fun c hf => ?_)
    · refine zW_bipush dX12_weak_34 rfl ?_
      exact zR_i hw rfl dX12_weak_36 hf
    · refine zW_iload_n 3 dX12_weak_27 rfl ?_
      refine zC_Sri (As := [vi v3]) (fun x hx => kX12_isLength hw (v0 := v3)  hx) ms_RX12_134 rfl rfl rfl rfl dX12_weak_28 hf (fun r4 hf => ?_)
      refine zF_if_ne 37 dX12_weak_31 rfl rfl hf (fun c hf => ?_) (fun c hf => ?_)
      · refine zW_bipush dX12_weak_34 rfl ?_
        exact zR_i hw rfl dX12_weak_36 hf
      · refine zW_aload_n 0 dX12_weak_37 rfl ?_
        refine zW_iload_n 2 dX12_weak_38 rfl ?_
        refine zW_iload_n 3 dX12_weak_39 rfl ?_
        refine zC_Vwv (As := [vi v2, vi v3]) (fun x hx => kX12_laysSending hw (v1 := v2) (v2 := v3) o hx) mv_RX12_102 (hw.1 _ o) rfl rfl rfl rfl rfl dX12_weak_40 hf (fun r5 hf => ?_)
        refine zW_iconst dX12_weak_43 ?_
        refine zW_istore (lv' := [(4, vi 0), (0, .ref (zad X (50, 0, 0))), (1, vi v1), (2, vi v2), (3, vi v3)]) dX12_weak_44 rfl rfl ?_
        refine zW_sub [1, 2, 4, 0] rfl ?_
        refine tX12_weak_l46 hw o (s0 := (0, r5)) hf (fun x8 hf => ?_)
        refine zW_iconst dX12_weak_67 ?_
        refine zW_istore (lv' := [(4, vi 0), (0, .ref (zad X (50, 0, 0))), (1, vi v1), (3, vi v3)]) dX12_weak_68 rfl rfl ?_
        refine zW_sub [1, 2, 3, 0] rfl ?_
        refine tX12_weak_l70 hw o (s0 := (0, x8.2)) hf (fun x14 hf => ?_)
        refine zW_iconst dX12_weak_112 ?_
        refine zW_istore (lv' := [(4, vi 0), (0, .ref (zad X (50, 0, 0))), (1, vi v1), (3, vi v3)]) dX12_weak_113 rfl rfl ?_
        refine zW_iconst dX12_weak_115 ?_
        refine zW_istore (lv' := [(5, vi 0), (4, vi 0), (0, .ref (zad X (50, 0, 0))), (1, vi v1), (3, vi v3)]) dX12_weak_116 rfl rfl ?_
        refine zW_sub [2, 3, 4, 1, 0] rfl ?_
        refine tX12_weak_l118 hw o (s0 := (0, 0, x14.2)) hf (fun x26 hf => ?_)
        refine zW_iload 0 dX12_weak_201 rfl ?_
        exact zR_i hw rfl dX12_weak_203 hf
theorem kX12_weak {X : zX} {e : Nat → Prop} (hw : zWf X e) {v1 : Int} {v2 : Int} {v3 : Int} (o : zOk e (50, 0, 0)) {I : zMem} {u : (Int × zMem)} (hf : fX12_weak v1 v2 v3 I = some u) : zCn X mX12_weak yX12_weak [.ref (zad X (50, 0, 0)), vi v1, vi v2, vi v3] I (some (vi u.1), u.2) := zCn_of (by decide +kernel) rfl rfl ⟨rfl, rfl⟩ (tX12_weak_0 hw.N o hf)
set_option maxRecDepth 100000 in
theorem tX12_past_0 {X : zX} {e : Nat → Prop} (hw : zWf X e) {v0 : Int} {v1 : Int}  {I : zMem} {u : Int} (hf : fX12_past v0 v1 = some u) : zW X (some (vi u), I) mX12_past 0 [(0, vi v0), (1, vi v1)] [] I := by
  unfold fX12_past at hf
  refine zW_iload_n 1 dX12_past_0 rfl ?_
  refine zW_iload_n 0 dX12_past_1 rfl ?_
  refine zW_isub dX12_past_2 ?_
  refine zW_bipush dX12_past_3 rfl ?_
  refine zW_iand_7 dX12_past_5 ?_
  exact zS_i hw rfl dX12_past_6 hf
theorem kX12_past {X : zX} {e : Nat → Prop} (hw : zWf X e) {v0 : Int} {v1 : Int}  {I : zMem} {u : Int} (hf : fX12_past v0 v1 = some u) : zCn X mX12_past yX12_past [vi v0, vi v1] I (some (vi u), I) := zCn_of (by decide +kernel) rfl rfl ⟨rfl, rfl⟩ (tX12_past_0 hw.N  hf)
set_option maxRecDepth 100000 in
theorem tX12_own_0 {X : zX} {e : Nat → Prop} (hw : zWf X e) {v1 : Int} (o : zOk e (50, 0, 0)) {I : zMem} {u : Int} (hf : fX12_own v1 = some u) : zW X (some (vi u), I) mX12_own 0 [(0, .ref (zad X (50, 0, 0))), (1, vi v1)] [] I := by
  unfold fX12_own at hf
  refine zW_sipush dX12_own_0 rfl ?_
  refine zW_bipush dX12_own_3 rfl ?_
  refine zW_iload_n 1 dX12_own_5 rfl ?_
  refine zW_imul dX12_own_6 ?_
  refine zW_iadd dX12_own_7 ?_
  exact zS_i hw rfl dX12_own_8 hf
theorem kX12_own {X : zX} {e : Nat → Prop} (hw : zWf X e) {v1 : Int} (o : zOk e (50, 0, 0)) {I : zMem} {u : Int} (hf : fX12_own v1 = some u) : zCn X mX12_own yX12_own [.ref (zad X (50, 0, 0)), vi v1] I (some (vi u), I) := zCn_of (by decide +kernel) rfl rfl ⟨rfl, rfl⟩ (tX12_own_0 hw.N o hf)
set_option maxRecDepth 100000 in
theorem tX12_isProcess_0 {X : zX} {e : Nat → Prop} (hw : zWf X e) {v1 : Int} (o : zOk e (50, 0, 0)) {I : zMem} {u : Int} (hf : fX12_isProcess v1 I = some u) : zW X (some (vi u), I) mX12_isProcess 0 [(0, .ref (zad X (50, 0, 0))), (1, vi v1)] [] I := by
  unfold fX12_isProcess at hf
  refine zW_iload_n 1 dX12_isProcess_0 rfl ?_
  refine zW_i2l dX12_isProcess_1 ?_
  refine zW_lconst0 dX12_isProcess_2 ?_
  refine zW_aload_n 0 dX12_isProcess_3 rfl ?_
  refine zW_getR (q' := (51, 0, 0)) lk_RX12_13 (hw.1 _ o) rfl rfl (hw.2.1 _ _ _ o rfl) dX12_isProcess_4 ?_
  refine zW_iconst dX12_isProcess_7 ?_
  refine zF_iald (hw.1 _ (zokM (r' := 51) o rfl rfl)) rfl (zin_lit _ _ rfl) (ix_lit _ rfl) dX12_isProcess_8 ?_
  refine zW_iconst dX12_isProcess_9 ?_
  refine zW_isub dX12_isProcess_10 ?_
  refine zW_i2l dX12_isProcess_11 ?_
  refine zC_Sri (As := [vl (w32 v1), vl 0, vl (w32 ((I (51, 0, 0) 0) - 1))]) (fun x hx => kX12_within hw (v0 := w32 v1) (v2 := 0) (v4 := w32 ((I (51, 0, 0) 0) - 1))  hx) ms_RX12_94 rfl rfl rfl rfl dX12_isProcess_12 hf (fun r1 hf => ?_)
  obtain ⟨c, hf⟩ := zgd hf
  exact zS_z hw rfl c dX12_isProcess_15 hf
theorem kX12_isProcess {X : zX} {e : Nat → Prop} (hw : zWf X e) {v1 : Int} (o : zOk e (50, 0, 0)) {I : zMem} {u : Int} (hf : fX12_isProcess v1 I = some u) : zCn X mX12_isProcess yX12_isProcess [.ref (zad X (50, 0, 0)), vi v1] I (some (vi u), I) := zCn_of (by decide +kernel) rfl rfl ⟨rfl, rfl⟩ (tX12_isProcess_0 hw.N o hf)
set_option maxRecDepth 100000 in
theorem tX12_link_0 {X : zX} {e : Nat → Prop} (hw : zWf X e) {v1 : Int} {v2 : Int} {v3 : Int} {v4 : Int} {v5 : Int} (o : zOk e (50, 0, 0)) {I : zMem} {u : (Int × zMem)} (hf : fX12_link v1 v2 v3 v4 v5 I = some u) : zW X (some (vi u.1), u.2) mX12_link 0 [(0, .ref (zad X (50, 0, 0))), (1, vi v1), (2, vi v2), (3, vi v3), (4, vi v4), (5, vi v5)] [] I := by
  unfold fX12_link at hf
  refine zW_aload_n 0 dX12_link_0 rfl ?_
  refine zW_iconst dX12_link_1 ?_
  refine zF_put lk_RX12_1 (hw.1 _ o) rfl rfl (zn_int _) dX12_link_2 hf (fun I1 hf => ?_)
  refine zW_iload_n 1 dX12_link_5 rfl ?_
  refine zW_i2l dX12_link_6 ?_
  refine zW_lconst1 dX12_link_7 ?_
  refine zW_ldc2 dX12_link_8 wc_RX12_166 ?_
  refine zC_Sri (As := [vl (w32 v1), vl 1, vl 8]) (fun x hx => kX12_within hw (v0 := w32 v1) (v2 := 1) (v4 := 8)  hx) ms_RX12_94 rfl rfl rfl rfl dX12_link_11 hf (fun r2 hf => ?_)
  refine zF_if_eq 69 dX12_link_14 rfl rfl hf (fun c hf => ?_) (fun c hf => ?_)
  · refine zW_bipush dX12_link_69 rfl ?_
    exact zR_i hw rfl dX12_link_71 hf
  · refine zW_iload_n 2 dX12_link_17 rfl ?_
    refine zW_i2l dX12_link_18 ?_
    refine zW_lconst1 dX12_link_19 ?_
    refine zW_ldc2 dX12_link_20 wc_RX12_168 ?_
    refine zC_Sri (As := [vl (w32 v2), vl 1, vl 4]) (fun x hx => kX12_within hw (v0 := w32 v2) (v2 := 1) (v4 := 4)  hx) ms_RX12_94 rfl rfl rfl rfl dX12_link_23 hf (fun r3 hf => ?_)
    refine zF_if_eq 69 dX12_link_26 rfl rfl hf (fun c hf => ?_) (fun c hf => ?_)
    · refine zW_bipush dX12_link_69 rfl ?_
      exact zR_i hw rfl dX12_link_71 hf
    · refine zW_iload_n 3 dX12_link_29 rfl ?_
      refine zW_i2l dX12_link_30 ?_
      refine zW_lconst1 dX12_link_31 ?_
      refine zW_ldc2 dX12_link_32 wc_RX12_98 ?_
      refine zC_Sri (As := [vl (w32 v3), vl 1, vl 60]) (fun x hx => kX12_within hw (v0 := w32 v3) (v2 := 1) (v4 := 60)  hx) ms_RX12_94 rfl rfl rfl rfl dX12_link_35 hf (fun r4 hf => ?_)
      refine zF_if_eq 69 dX12_link_38 rfl rfl hf (fun c hf => ?_) (fun c hf => ?_)
      · refine zW_bipush dX12_link_69 rfl ?_
        exact zR_i hw rfl dX12_link_71 hf
      · refine zW_iload 4 dX12_link_41 rfl ?_
        refine zW_i2l dX12_link_43 ?_
        refine zW_lconst1 dX12_link_44 ?_
        refine zW_ldc2 dX12_link_45 wc_RX12_166 ?_
        refine zC_Sri (As := [vl (w32 v4), vl 1, vl 8]) (fun x hx => kX12_within hw (v0 := w32 v4) (v2 := 1) (v4 := 8)  hx) ms_RX12_94 rfl rfl rfl rfl dX12_link_48 hf (fun r5 hf => ?_)
        refine zF_if_eq 69 dX12_link_51 rfl rfl hf (fun c hf => ?_) (fun c hf => ?_)
        · refine zW_bipush dX12_link_69 rfl ?_
          exact zR_i hw rfl dX12_link_71 hf
        · refine zW_iload 5 dX12_link_54 rfl ?_
          refine zW_i2l dX12_link_56 ?_
          refine zW_ldc2 dX12_link_57 wc_RX12_170 ?_
          refine zW_ldc2 dX12_link_60 wc_RX12_172 ?_
          refine zC_Sri (As := [vl (w32 v5), vl 16, vl 48]) (fun x hx => kX12_within hw (v0 := w32 v5) (v2 := 16) (v4 := 48)  hx) ms_RX12_94 rfl rfl rfl rfl dX12_link_63 hf (fun r6 hf => ?_)
          refine zF_if_ne 72 dX12_link_66 rfl rfl hf (fun c hf => ?_) (fun c hf => ?_)
          · refine zW_bipush dX12_link_69 rfl ?_
            exact zR_i hw rfl dX12_link_71 hf
          · refine zW_aload_n 0 dX12_link_72 rfl ?_
            refine zW_iload_n 1 dX12_link_73 rfl ?_
            refine zW_iload_n 2 dX12_link_74 rfl ?_
            refine zW_iload_n 3 dX12_link_75 rfl ?_
            refine zW_iload 4 dX12_link_76 rfl ?_
            refine zW_iload 5 dX12_link_78 rfl ?_
            refine zC_Vwv (As := [vi v1, vi v2, vi v3, vi v4, vi v5]) (fun x hx => kX12_begins hw (v1 := v1) (v2 := v2) (v3 := v3) (v4 := v4) (v5 := v5) o hx) mv_RX12_74 (hw.1 _ o) rfl rfl rfl rfl rfl dX12_link_80 hf (fun r7 hf => ?_)
            refine zW_iconst dX12_link_83 ?_
            exact zR_i hw rfl dX12_link_84 hf
theorem kX12_link {X : zX} {e : Nat → Prop} (hw : zWf X e) {v1 : Int} {v2 : Int} {v3 : Int} {v4 : Int} {v5 : Int} (o : zOk e (50, 0, 0)) {I : zMem} {u : (Int × zMem)} (hf : fX12_link v1 v2 v3 v4 v5 I = some u) : zCn X mX12_link yX12_link [.ref (zad X (50, 0, 0)), vi v1, vi v2, vi v3, vi v4, vi v5] I (some (vi u.1), u.2) := zCn_of (by decide +kernel) rfl rfl ⟨rfl, rfl⟩ (tX12_link_0 hw.N o hf)
set_option maxRecDepth 100000 in
theorem tX12_limit_0 {X : zX} {e : Nat → Prop} (hw : zWf X e) {v1 : Int} (o : zOk e (50, 0, 0)) {I : zMem} {u : (Int × zMem)} (hf : fX12_limit v1 I = some u) : zW X (some (vi u.1), u.2) mX12_limit 0 [(0, .ref (zad X (50, 0, 0))), (1, vi v1)] [] I := by
  unfold fX12_limit at hf
  refine zW_aload_n 0 dX12_limit_0 rfl ?_
  refine zW_iconst dX12_limit_1 ?_
  refine zF_put lk_RX12_1 (hw.1 _ o) rfl rfl (zn_int _) dX12_limit_2 hf (fun I1 hf => ?_)
  refine zW_iload_n 1 dX12_limit_5 rfl ?_
  refine zW_i2l dX12_limit_6 ?_
  refine zW_lconst1 dX12_limit_7 ?_
  refine zW_ldc2 dX12_limit_8 wc_RX12_174 ?_
  refine zC_Sri (As := [vl (w32 v1), vl 1, vl 9999]) (fun x hx => kX12_within hw (v0 := w32 v1) (v2 := 1) (v4 := 9999)  hx) ms_RX12_94 rfl rfl rfl rfl dX12_limit_11 hf (fun r2 hf => ?_)
  refine zF_if_ne 20 dX12_limit_14 rfl rfl hf (fun c hf => ?_) (fun c hf => ?_)
  · refine zW_bipush dX12_limit_17 rfl ?_
    exact zR_i hw rfl dX12_limit_19 hf
  · refine zW_aload_n 0 dX12_limit_20 rfl ?_
    refine zW_getR (q' := (51, 0, 0)) lk_RX12_13 (hw.1 _ o) rfl rfl (hw.2.1 _ _ _ o rfl) dX12_limit_21 ?_
    refine zW_iconst dX12_limit_24 ?_
    refine zF_iald (hw.1 _ (zokM (r' := 51) o rfl rfl)) rfl (zin_lit _ _ rfl) (ix_lit _ rfl) dX12_limit_25 ?_
    refine zF_istore_n (lv' := fun a3 => [(2, vi a3), (0, .ref (zad X (50, 0, 0))), (1, vi v1)]) dX12_limit_26 hf (fun _ => rfl) rfl (fun a3 hf => ?_)
    refine zW_aload_n 1 dX12_limit_27 rfl ?_
    refine zW_getR (q' := (51, 0, 0)) lk_RX12_13 (hw.1 _ o) rfl rfl (hw.2.1 _ _ _ o rfl) dX12_limit_28 ?_
    refine zW_iconst dX12_limit_31 ?_
    refine zW_iload_n 2 dX12_limit_32 rfl ?_
    refine zF_iast (hw.1 _ (zokM (r' := 51) o rfl rfl)) rfl (zin_lit _ _ rfl) (ix_lit _ rfl) dX12_limit_33 hf (fun I4 hf => ?_)
    refine zW_iload_n 0 dX12_limit_34 rfl ?_
    exact zR_i hw rfl dX12_limit_35 hf
theorem kX12_limit {X : zX} {e : Nat → Prop} (hw : zWf X e) {v1 : Int} (o : zOk e (50, 0, 0)) {I : zMem} {u : (Int × zMem)} (hf : fX12_limit v1 I = some u) : zCn X mX12_limit yX12_limit [.ref (zad X (50, 0, 0)), vi v1] I (some (vi u.1), u.2) := zCn_of (by decide +kernel) rfl rfl ⟨rfl, rfl⟩ (tX12_limit_0 hw.N o hf)
set_option maxRecDepth 100000 in
theorem tX12_fade_0 {X : zX} {e : Nat → Prop} (hw : zWf X e) {v1 : Int} (o : zOk e (50, 0, 0)) {I : zMem} {u : (Int × zMem)} (hf : fX12_fade v1 I = some u) : zW X (some (vi u.1), u.2) mX12_fade 0 [(0, .ref (zad X (50, 0, 0))), (1, vi v1)] [] I := by
  unfold fX12_fade at hf
  refine zW_aload_n 0 dX12_fade_0 rfl ?_
  refine zW_iconst dX12_fade_1 ?_
  refine zF_put lk_RX12_1 (hw.1 _ o) rfl rfl (zn_int _) dX12_fade_2 hf (fun I1 hf => ?_)
  refine zW_iload_n 1 dX12_fade_5 rfl ?_
  refine zW_i2l dX12_fade_6 ?_
  refine zW_lconst0 dX12_fade_7 ?_
  refine zW_ldc2 dX12_fade_8 wc_RX12_98 ?_
  refine zC_Sri (As := [vl (w32 v1), vl 0, vl 60]) (fun x hx => kX12_within hw (v0 := w32 v1) (v2 := 0) (v4 := 60)  hx) ms_RX12_94 rfl rfl rfl rfl dX12_fade_11 hf (fun r2 hf => ?_)
  refine zF_if_ne 20 dX12_fade_14 rfl rfl hf (fun c hf => ?_) (fun c hf => ?_)
  · refine zW_bipush dX12_fade_17 rfl ?_
    exact zR_i hw rfl dX12_fade_19 hf
  · refine zW_aload_n 0 dX12_fade_20 rfl ?_
    refine zW_getR (q' := (51, 0, 0)) lk_RX12_13 (hw.1 _ o) rfl rfl (hw.2.1 _ _ _ o rfl) dX12_fade_21 ?_
    refine zW_bipush dX12_fade_24 rfl ?_
    refine zF_iald (hw.1 _ (zokM (r' := 51) o rfl rfl)) rfl (zin_lit _ _ rfl) (ix_lit _ rfl) dX12_fade_26 ?_
    refine zF_istore_n (lv' := fun a3 => [(2, vi a3), (0, .ref (zad X (50, 0, 0))), (1, vi v1)]) dX12_fade_27 hf (fun _ => rfl) rfl (fun a3 hf => ?_)
    refine zW_aload_n 1 dX12_fade_28 rfl ?_
    refine zW_getR (q' := (51, 0, 0)) lk_RX12_13 (hw.1 _ o) rfl rfl (hw.2.1 _ _ _ o rfl) dX12_fade_29 ?_
    refine zW_bipush dX12_fade_32 rfl ?_
    refine zW_iload_n 2 dX12_fade_34 rfl ?_
    refine zF_iast (hw.1 _ (zokM (r' := 51) o rfl rfl)) rfl (zin_lit _ _ rfl) (ix_lit _ rfl) dX12_fade_35 hf (fun I4 hf => ?_)
    refine zW_iload_n 0 dX12_fade_36 rfl ?_
    exact zR_i hw rfl dX12_fade_37 hf
theorem kX12_fade {X : zX} {e : Nat → Prop} (hw : zWf X e) {v1 : Int} (o : zOk e (50, 0, 0)) {I : zMem} {u : (Int × zMem)} (hf : fX12_fade v1 I = some u) : zCn X mX12_fade yX12_fade [.ref (zad X (50, 0, 0)), vi v1] I (some (vi u.1), u.2) := zCn_of (by decide +kernel) rfl rfl ⟨rfl, rfl⟩ (tX12_fade_0 hw.N o hf)
set_option maxRecDepth 100000 in
theorem tX12_offer_0 {X : zX} {e : Nat → Prop} (hw : zWf X e) {v1 : Int} (o : zOk e (50, 0, 0)) {I : zMem} {u : (Int × zMem)} (hf : fX12_offer v1 I = some u) : zW X (some (vi u.1), u.2) mX12_offer 0 [(0, .ref (zad X (50, 0, 0))), (1, vi v1)] [] I := by
  unfold fX12_offer at hf
  refine zW_aload_n 0 dX12_offer_0 rfl ?_
  refine zW_iconst dX12_offer_1 ?_
  refine zF_put lk_RX12_1 (hw.1 _ o) rfl rfl (zn_int _) dX12_offer_2 hf (fun I1 hf => ?_)
  refine zW_iload_n 1 dX12_offer_5 rfl ?_
  refine zW_i2l dX12_offer_6 ?_
  refine zW_lconst0 dX12_offer_7 ?_
  refine zW_ldc2 dX12_offer_8 wc_RX12_125 ?_
  refine zC_Sri (As := [vl (w32 v1), vl 0, vl 31]) (fun x hx => kX12_within hw (v0 := w32 v1) (v2 := 0) (v4 := 31)  hx) ms_RX12_94 rfl rfl rfl rfl dX12_offer_11 hf (fun r2 hf => ?_)
  refine zF_if_ne 20 dX12_offer_14 rfl rfl hf (fun c hf => ?_) (fun c hf => ?_)
  · refine zW_bipush dX12_offer_17 rfl ?_
    exact zR_i hw rfl dX12_offer_19 hf
  · refine zW_aload_n 0 dX12_offer_20 rfl ?_
    refine zW_getR (q' := (51, 0, 0)) lk_RX12_13 (hw.1 _ o) rfl rfl (hw.2.1 _ _ _ o rfl) dX12_offer_21 ?_
    refine zW_bipush dX12_offer_24 rfl ?_
    refine zF_iald (hw.1 _ (zokM (r' := 51) o rfl rfl)) rfl (zin_lit _ _ rfl) (ix_lit _ rfl) dX12_offer_26 ?_
    refine zW_bipush dX12_offer_27 rfl ?_
    refine zF_icmp_ne 35 dX12_offer_29 rfl rfl (w32_lit _ rfl) hf (fun c hf => ?_) (fun c hf => ?_)
    · refine zW_bipush dX12_offer_32 rfl ?_
      exact zR_i hw rfl dX12_offer_34 hf
    · refine zW_aload_n 0 dX12_offer_35 rfl ?_
      refine zW_getR (q' := (51, 0, 0)) lk_RX12_13 (hw.1 _ o) rfl rfl (hw.2.1 _ _ _ o rfl) dX12_offer_36 ?_
      refine zW_bipush dX12_offer_39 rfl ?_
      refine zW_aload_n 0 dX12_offer_41 rfl ?_
      refine zW_getR (q' := (51, 0, 0)) lk_RX12_13 (hw.1 _ o) rfl rfl (hw.2.1 _ _ _ o rfl) dX12_offer_42 ?_
      refine zW_bipush dX12_offer_45 rfl ?_
      refine zF_iald (hw.1 _ (zokM (r' := 51) o rfl rfl)) rfl (zin_lit _ _ rfl) (ix_lit _ rfl) dX12_offer_47 ?_
      refine zW_iadd dX12_offer_48 ?_
      refine zW_iload_n 1 dX12_offer_49 rfl ?_
      obtain ⟨c3, hf⟩ := zgd hf
      refine zF_iast (hw.1 _ (zokM (r' := 51) o rfl rfl)) rfl c3 rfl dX12_offer_50 hf (fun I4 hf => ?_)
      refine zW_aload_n 0 dX12_offer_51 rfl ?_
      refine zW_getR (q' := (51, 0, 0)) lk_RX12_13 (hw.1 _ o) rfl rfl (hw.2.1 _ _ _ o rfl) dX12_offer_52 ?_
      refine zW_bipush dX12_offer_55 rfl ?_
      refine zW_dup2 dX12_offer_57 rfl rfl ?_
      refine zF_iald (hw.1 _ (zokM (r' := 51) o rfl rfl)) rfl (zin_lit _ _ rfl) (ix_lit _ rfl) dX12_offer_58 ?_
      refine zW_iconst dX12_offer_59 ?_
      refine zW_iadd dX12_offer_60 ?_
      refine zF_iast (hw.1 _ (zokM (r' := 51) o rfl rfl)) rfl (zin_lit _ _ rfl) (ix_lit _ rfl) dX12_offer_61 hf (fun I5 hf => ?_)
      refine zW_aload_n 0 dX12_offer_62 rfl ?_
      refine zW_getR (q' := (51, 0, 0)) lk_RX12_13 (hw.1 _ o) rfl rfl (hw.2.1 _ _ _ o rfl) dX12_offer_63 ?_
      refine zW_bipush dX12_offer_66 rfl ?_
      refine zF_iald (hw.1 _ (zokM (r' := 51) o rfl rfl)) rfl (zin_lit _ _ rfl) (ix_lit _ rfl) dX12_offer_68 ?_
      exact zR_i hw rfl dX12_offer_69 hf
theorem kX12_offer {X : zX} {e : Nat → Prop} (hw : zWf X e) {v1 : Int} (o : zOk e (50, 0, 0)) {I : zMem} {u : (Int × zMem)} (hf : fX12_offer v1 I = some u) : zCn X mX12_offer yX12_offer [.ref (zad X (50, 0, 0)), vi v1] I (some (vi u.1), u.2) := zCn_of (by decide +kernel) rfl rfl ⟨rfl, rfl⟩ (tX12_offer_0 hw.N o hf)
set_option maxRecDepth 100000 in
theorem tX12_goesOn_0 {X : zX} {e : Nat → Prop} (hw : zWf X e)  (o : zOk e (50, 0, 0)) {I : zMem} {u : zMem} (hf : fX12_goesOn  I = some u) : zW X (none, u) mX12_goesOn 0 [(0, .ref (zad X (50, 0, 0)))] [] I := by
  unfold fX12_goesOn at hf
  refine zW_aload_n 0 dX12_goesOn_0 rfl ?_
  refine zW_getR (q' := (51, 0, 0)) lk_RX12_13 (hw.1 _ o) rfl rfl (hw.2.1 _ _ _ o rfl) dX12_goesOn_1 ?_
  refine zW_bipush dX12_goesOn_4 rfl ?_
  refine zW_aload_n 0 dX12_goesOn_6 rfl ?_
  refine zW_getR (q' := (51, 0, 0)) lk_RX12_13 (hw.1 _ o) rfl rfl (hw.2.1 _ _ _ o rfl) dX12_goesOn_7 ?_
  refine zW_bipush dX12_goesOn_10 rfl ?_
  refine zF_iald (hw.1 _ (zokM (r' := 51) o rfl rfl)) rfl (zin_lit _ _ rfl) (ix_lit _ rfl) dX12_goesOn_12 ?_
  refine zW_iconst dX12_goesOn_13 ?_
  refine zW_iadd dX12_goesOn_14 ?_
  refine zW_bipush dX12_goesOn_15 rfl ?_
  refine zW_iand_7 dX12_goesOn_17 ?_
  refine zF_iast (hw.1 _ (zokM (r' := 51) o rfl rfl)) rfl (zin_lit _ _ rfl) (ix_lit _ rfl) dX12_goesOn_18 hf (fun I1 hf => ?_)
  refine zW_aload_n 0 dX12_goesOn_19 rfl ?_
  refine zW_getR (q' := (51, 0, 0)) lk_RX12_13 (hw.1 _ o) rfl rfl (hw.2.1 _ _ _ o rfl) dX12_goesOn_20 ?_
  refine zW_bipush dX12_goesOn_23 rfl ?_
  refine zF_iald (hw.1 _ (zokM (r' := 51) o rfl rfl)) rfl (zin_lit _ _ rfl) (ix_lit _ rfl) dX12_goesOn_25 ?_
  refine zW_iconst dX12_goesOn_26 ?_
  refine zF_icmp_eq 47 dX12_goesOn_27 rfl rfl (w32_lit _ rfl) hf (fun c hf => ?_) (fun c hf => ?_)
  · exact zR_v hw rfl dX12_goesOn_47 hf
  · refine zW_aload_n 0 dX12_goesOn_30 rfl ?_
    refine zW_getR (q' := (51, 0, 0)) lk_RX12_13 (hw.1 _ o) rfl rfl (hw.2.1 _ _ _ o rfl) dX12_goesOn_31 ?_
    refine zW_bipush dX12_goesOn_34 rfl ?_
    refine zF_iald (hw.1 _ (zokM (r' := 51) o rfl rfl)) rfl (zin_lit _ _ rfl) (ix_lit _ rfl) dX12_goesOn_36 ?_
    refine zW_aload_n 0 dX12_goesOn_37 rfl ?_
    refine zW_getR (q' := (51, 0, 0)) lk_RX12_13 (hw.1 _ o) rfl rfl (hw.2.1 _ _ _ o rfl) dX12_goesOn_38 ?_
    refine zW_bipush dX12_goesOn_41 rfl ?_
    refine zF_iald (hw.1 _ (zokM (r' := 51) o rfl rfl)) rfl (zin_lit _ _ rfl) (ix_lit _ rfl) dX12_goesOn_43 ?_
    refine zF_icmp_eq 48 dX12_goesOn_44 rfl rfl rfl hf (fun c hf => ?_) (fun c hf => ?_)
    · refine zW_aload_n 0 dX12_goesOn_48 rfl ?_
      refine zW_getR (q' := (51, 0, 0)) lk_RX12_13 (hw.1 _ o) rfl rfl (hw.2.1 _ _ _ o rfl) dX12_goesOn_49 ?_
      refine zW_bipush dX12_goesOn_52 rfl ?_
      refine zW_iconst dX12_goesOn_54 ?_
      refine zF_iast (hw.1 _ (zokM (r' := 51) o rfl rfl)) rfl (zin_lit _ _ rfl) (ix_lit _ rfl) dX12_goesOn_55 hf (fun I2 hf => ?_)
      refine zW_aload_n 0 dX12_goesOn_56 rfl ?_
      refine zW_getR (q' := (51, 0, 0)) lk_RX12_13 (hw.1 _ o) rfl rfl (hw.2.1 _ _ _ o rfl) dX12_goesOn_57 ?_
      refine zW_bipush dX12_goesOn_60 rfl ?_
      refine zW_iconst dX12_goesOn_62 ?_
      refine zF_iast (hw.1 _ (zokM (r' := 51) o rfl rfl)) rfl (zin_lit _ _ rfl) (ix_lit _ rfl) dX12_goesOn_63 hf (fun I3 hf => ?_)
      exact zR_v hw rfl dX12_goesOn_64 hf
    · exact zR_v hw rfl dX12_goesOn_47 hf
theorem kX12_goesOn {X : zX} {e : Nat → Prop} (hw : zWf X e)  (o : zOk e (50, 0, 0)) {I : zMem} {u : zMem} (hf : fX12_goesOn  I = some u) : zCn X mX12_goesOn yX12_goesOn [.ref (zad X (50, 0, 0))] I (none, u) := zCn_of (by decide +kernel) rfl rfl ⟨rfl, rfl⟩ (tX12_goesOn_0 hw.N o hf)
set_option maxRecDepth 100000 in
theorem tX12_passes_b78 {X : zX} {e : Nat → Prop} (hw : zWf X e) {I : zMem} (o : zOk e (50, 0, 0)) {u : zMem} (hf : fX12_passes_b78 I = some u) : zW X (none, u) mX12_passes 78 [(0, .ref (zad X (50, 0, 0)))] [] I := by
  unfold fX12_passes_b78 at hf
  refine zW_aload_n 0 dX12_passes_78 rfl ?_
  refine zC_Vwv (As := []) (fun x hx => kX12_goesOn hw o hx) mv_RX12_176 (hw.1 _ o) rfl rfl rfl rfl rfl dX12_passes_79 hf (fun r6 hf => ?_)
  exact zR_v hw rfl dX12_passes_82 hf
set_option maxRecDepth 100000 in
theorem tX12_passes_0 {X : zX} {e : Nat → Prop} (hw : zWf X e)  (o : zOk e (50, 0, 0)) {I : zMem} {u : zMem} (hf : fX12_passes  I = some u) : zW X (none, u) mX12_passes 0 [(0, .ref (zad X (50, 0, 0)))] [] I := by
  unfold fX12_passes at hf
  refine zW_aload_n 0 dX12_passes_0 rfl ?_
  refine zW_getR (q' := (51, 0, 0)) lk_RX12_13 (hw.1 _ o) rfl rfl (hw.2.1 _ _ _ o rfl) dX12_passes_1 ?_
  refine zW_bipush dX12_passes_4 rfl ?_
  refine zF_iald (hw.1 _ (zokM (r' := 51) o rfl rfl)) rfl (zin_lit _ _ rfl) (ix_lit _ rfl) dX12_passes_6 ?_
  refine zF_istore_n (lv' := fun a1 => [(1, vi a1), (0, .ref (zad X (50, 0, 0)))]) dX12_passes_7 hf (fun _ => rfl) rfl (fun a1 hf => ?_)
  refine zW_aload_n 1 dX12_passes_8 rfl ?_
  refine zW_getR (q' := (51, 0, 0)) lk_RX12_13 (hw.1 _ o) rfl rfl (hw.2.1 _ _ _ o rfl) dX12_passes_9 ?_
  refine zW_bipush dX12_passes_12 rfl ?_
  refine zW_iload_n 0 dX12_passes_14 rfl ?_
  refine zW_iadd dX12_passes_15 ?_
  obtain ⟨c2, hf⟩ := zgd hf
  refine zF_iald (hw.1 _ (zokM (r' := 51) o rfl rfl)) rfl c2 rfl dX12_passes_16 ?_
  refine zF_istore_n (lv' := fun a3 => [(2, vi a3), (1, vi a1), (0, .ref (zad X (50, 0, 0)))]) dX12_passes_17 hf (fun _ => rfl) rfl (fun a3 hf => ?_)
  refine zW_aload_n 2 dX12_passes_18 rfl ?_
  refine zW_getR (q' := (51, 0, 0)) lk_RX12_13 (hw.1 _ o) rfl rfl (hw.2.1 _ _ _ o rfl) dX12_passes_19 ?_
  refine zW_bipush dX12_passes_22 rfl ?_
  refine zW_iload_n 1 dX12_passes_24 rfl ?_
  refine zW_iadd dX12_passes_25 ?_
  refine zW_iconst dX12_passes_26 ?_
  refine zF_iast (hw.1 _ (zokM (r' := 51) o rfl rfl)) rfl c2 rfl dX12_passes_27 hf (fun I4 hf => ?_)
  refine zW_iload_n 0 dX12_passes_28 rfl ?_
  refine zW_iconst dX12_passes_29 ?_
  refine zF_icmp_ne 47 dX12_passes_30 rfl rfl (w32_lit _ rfl) hf (fun c hf => ?_) (fun c hf => ?_)
  · refine zW_aload_n 2 dX12_passes_33 rfl ?_
    refine zW_getR (q' := (51, 0, 0)) lk_RX12_13 (hw.1 _ o) rfl rfl (hw.2.1 _ _ _ o rfl) dX12_passes_34 ?_
    refine zW_bipush dX12_passes_37 rfl ?_
    refine zW_dup2 dX12_passes_39 rfl rfl ?_
    refine zF_iald (hw.1 _ (zokM (r' := 51) o rfl rfl)) rfl (zin_lit _ _ rfl) (ix_lit _ rfl) dX12_passes_40 ?_
    refine zW_iconst dX12_passes_41 ?_
    refine zW_iadd dX12_passes_42 ?_
    refine zF_iast (hw.1 _ (zokM (r' := 51) o rfl rfl)) rfl (zin_lit _ _ rfl) (ix_lit _ rfl) dX12_passes_43 hf (fun I5 hf => ?_)
    refine zW_goto 78 dX12_passes_44 rfl ?_
    refine zW_sub [2] rfl ?_
    exact tX12_passes_b78 hw o hf
  · refine zW_aload_n 2 dX12_passes_47 rfl ?_
    refine zW_getR (q' := (51, 0, 0)) lk_RX12_13 (hw.1 _ o) rfl rfl (hw.2.1 _ _ _ o rfl) dX12_passes_48 ?_
    refine zW_bipush dX12_passes_51 rfl ?_
    refine zW_aload_n 2 dX12_passes_53 rfl ?_
    refine zW_getR (q' := (51, 0, 0)) lk_RX12_13 (hw.1 _ o) rfl rfl (hw.2.1 _ _ _ o rfl) dX12_passes_54 ?_
    refine zW_bipush dX12_passes_57 rfl ?_
    refine zF_iald (hw.1 _ (zokM (r' := 51) o rfl rfl)) rfl (zin_lit _ _ rfl) (ix_lit _ rfl) dX12_passes_59 ?_
    refine zW_sipush dX12_passes_60 rfl ?_
    refine zW_irem dX12_passes_63 (w32_ne0 _ rfl) ?_
    refine zW_iadd dX12_passes_64 ?_
    refine zW_iload_n 0 dX12_passes_65 rfl ?_
    obtain ⟨c7, hf⟩ := zgd hf
    refine zF_iast (hw.1 _ (zokM (r' := 51) o rfl rfl)) rfl c7 rfl dX12_passes_66 hf (fun I8 hf => ?_)
    refine zW_aload_n 2 dX12_passes_67 rfl ?_
    refine zW_getR (q' := (51, 0, 0)) lk_RX12_13 (hw.1 _ o) rfl rfl (hw.2.1 _ _ _ o rfl) dX12_passes_68 ?_
    refine zW_bipush dX12_passes_71 rfl ?_
    refine zW_dup2 dX12_passes_73 rfl rfl ?_
    refine zF_iald (hw.1 _ (zokM (r' := 51) o rfl rfl)) rfl (zin_lit _ _ rfl) (ix_lit _ rfl) dX12_passes_74 ?_
    refine zW_iconst dX12_passes_75 ?_
    refine zW_iadd dX12_passes_76 ?_
    refine zF_iast (hw.1 _ (zokM (r' := 51) o rfl rfl)) rfl (zin_lit _ _ rfl) (ix_lit _ rfl) dX12_passes_77 hf (fun I9 hf => ?_)
    refine zW_sub [2] rfl ?_
    exact tX12_passes_b78 hw o hf
theorem kX12_passes {X : zX} {e : Nat → Prop} (hw : zWf X e)  (o : zOk e (50, 0, 0)) {I : zMem} {u : zMem} (hf : fX12_passes  I = some u) : zCn X mX12_passes yX12_passes [.ref (zad X (50, 0, 0))] I (none, u) := zCn_of (by decide +kernel) rfl rfl ⟨rfl, rfl⟩ (tX12_passes_0 hw.N o hf)
set_option maxRecDepth 100000 in
theorem tX12_givesAll_l41_y {X : zX} {e : Nat → Prop} (hw : zWf X e) {T : zT}  (o : zOk e (50, 0, 0)) (s : (Int × zMem)) {u : ((Int × zMem) ⊕ ((Int × zMem) ⊕ zMem))} (hf : fX12_givesAll_l41  s = some u) (hk : ∀ s', u = .inl s' → zW X T mX12_givesAll 41 [(0, .ref (zad X (50, 0, 0))), (1, vi s'.1)] [] s'.2) (hx : ∀ x, u = .inr (.inl x) → zW X T mX12_givesAll 113 [] [] x.2) (hr : ∀ z : zMem, u = .inr (.inr z) → T = (none, z)) : zW X T mX12_givesAll 41 [(0, .ref (zad X (50, 0, 0))), (1, vi s.1)] [] s.2 := by
  unfold fX12_givesAll_l41 at hf
  refine zW_iload_n 1 dX12_givesAll_41 rfl ?_
  refine zF_if_le 113 dX12_givesAll_42 rfl rfl hf (fun c hf => ?_) (fun c hf => ?_)
  · refine zW_sub [] rfl ?_
    exact hx _ (Option.some.inj hf).symm
  · refine zW_aload_n 0 dX12_givesAll_45 rfl ?_
    refine zW_getR (q' := (51, 0, 0)) lk_RX12_13 (hw.1 _ o) rfl rfl (hw.2.1 _ _ _ o rfl) dX12_givesAll_46 ?_
    refine zW_bipush dX12_givesAll_49 rfl ?_
    refine zW_aload_n 0 dX12_givesAll_51 rfl ?_
    refine zW_getR (q' := (51, 0, 0)) lk_RX12_13 (hw.1 _ o) rfl rfl (hw.2.1 _ _ _ o rfl) dX12_givesAll_52 ?_
    refine zW_bipush dX12_givesAll_55 rfl ?_
    refine zF_iald (hw.1 _ (zokM (r' := 51) o rfl rfl)) rfl (zin_lit _ _ rfl) (ix_lit _ rfl) dX12_givesAll_57 ?_
    refine zW_iload_n 1 dX12_givesAll_58 rfl ?_
    refine zW_iadd dX12_givesAll_59 ?_
    refine zW_bipush dX12_givesAll_60 rfl ?_
    refine zW_iand_7 dX12_givesAll_62 ?_
    refine zW_iadd dX12_givesAll_63 ?_
    obtain ⟨c2, hf⟩ := zgd hf
    refine zF_iald (hw.1 _ (zokM (r' := 51) o rfl rfl)) rfl c2 rfl dX12_givesAll_64 ?_
    refine zW_iconst dX12_givesAll_65 ?_
    refine zF_icmp_ne 72 dX12_givesAll_66 rfl rfl (w32_lit _ rfl) hf (fun c hf => ?_) (fun c hf => ?_)
    · refine zW_goto 107 dX12_givesAll_69 rfl ?_
      refine zW_iinc 1 (lv' := [(1, vi (s.1 + (-1))), (0, .ref (zad X (50, 0, 0)))]) dX12_givesAll_107 rfl rfl rfl ?_
      refine zW_goto 41 dX12_givesAll_110 rfl ?_
      refine zW_sub [1, 0] rfl ?_
      exact hk _ (Option.some.inj hf).symm
    · refine zW_aload_n 0 dX12_givesAll_72 rfl ?_
      refine zW_getR (q' := (51, 0, 0)) lk_RX12_13 (hw.1 _ o) rfl rfl (hw.2.1 _ _ _ o rfl) dX12_givesAll_73 ?_
      refine zW_bipush dX12_givesAll_76 rfl ?_
      refine zW_aload_n 0 dX12_givesAll_78 rfl ?_
      refine zW_getR (q' := (51, 0, 0)) lk_RX12_13 (hw.1 _ o) rfl rfl (hw.2.1 _ _ _ o rfl) dX12_givesAll_79 ?_
      refine zW_iconst dX12_givesAll_82 ?_
      refine zF_iald (hw.1 _ (zokM (r' := 51) o rfl rfl)) rfl (zin_lit _ _ rfl) (ix_lit _ rfl) dX12_givesAll_83 ?_
      refine zF_iast (hw.1 _ (zokM (r' := 51) o rfl rfl)) rfl (zin_lit _ _ rfl) (ix_lit _ rfl) dX12_givesAll_84 hf (fun I3 hf => ?_)
      refine zW_aload_n 0 dX12_givesAll_85 rfl ?_
      refine zW_getR (q' := (51, 0, 0)) lk_RX12_13 (hw.1 _ o) rfl rfl (hw.2.1 _ _ _ o rfl) dX12_givesAll_86 ?_
      refine zW_bipush dX12_givesAll_89 rfl ?_
      refine zW_aload_n 0 dX12_givesAll_91 rfl ?_
      refine zW_getR (q' := (51, 0, 0)) lk_RX12_13 (hw.1 _ o) rfl rfl (hw.2.1 _ _ _ o rfl) dX12_givesAll_92 ?_
      refine zW_bipush dX12_givesAll_95 rfl ?_
      refine zF_iald (hw.1 _ (zokM (r' := 51) o rfl rfl)) rfl (zin_lit _ _ rfl) (ix_lit _ rfl) dX12_givesAll_97 ?_
      refine zW_iload_n 1 dX12_givesAll_98 rfl ?_
      refine zW_iadd dX12_givesAll_99 ?_
      refine zW_iconst dX12_givesAll_100 ?_
      refine zW_iadd dX12_givesAll_101 ?_
      refine zW_bipush dX12_givesAll_102 rfl ?_
      refine zW_iand_7 dX12_givesAll_104 ?_
      refine zF_iast (hw.1 _ (zokM (r' := 51) o rfl rfl)) rfl (zin_lit _ _ rfl) (ix_lit _ rfl) dX12_givesAll_105 hf (fun I4 hf => ?_)
      exact zQ_v hw rfl dX12_givesAll_106 (hr _ (Option.some.inj hf).symm)
theorem tX12_givesAll_l41 {X : zX} {e : Nat → Prop} (hw : zWf X e) {T : zT}  (o : zOk e (50, 0, 0)) {s0 : (Int × zMem)} {α : Type} {F : (Int × zMem) → Option α} {Gr : zMem → α} {u : α} (hf : zbr (zlp (fX12_givesAll_l41 ) 5000 s0) F Gr = some u) (kx : ∀ x, F x = some u → zW X T mX12_givesAll 113 [] [] x.2) (kr : ∀ z, Gr z = u → T = (none, z)) : zW X T mX12_givesAll 41 [(0, .ref (zad X (50, 0, 0))), (1, vi s0.1)] [] s0.2 := by
  have hb := zlp_W (body := fX12_givesAll_l41 ) (P := fun s => zW X T mX12_givesAll 41 [(0, .ref (zad X (50, 0, 0))), (1, vi s.1)] [] s.2) (E := fun x => (∀ a, x = .inl a → zW X T mX12_givesAll 113 [] [] a.2) ∧ ∀ z, x = .inr z → T = (none, z)) (fun s u h hk hx => tX12_givesAll_l41_y hw o s h hk (fun x hu => (hx _ hu).1 x rfl) (fun z hu => (hx _ hu).2 z rfl))
  rcases zbr_inv hf with ⟨x, h, hf⟩ | ⟨z, h, hz⟩
  · exact hb _ s0 _ h ⟨fun a ea => (by cases ea; exact kx _ hf), fun z ez => (by cases ez)⟩
  · exact hb _ s0 _ h ⟨fun a ea => (by cases ea), fun z ez => (by cases ez; exact kr _ hz)⟩
set_option maxRecDepth 100000 in
theorem tX12_givesAll_l0_y {X : zX} {e : Nat → Prop} (hw : zWf X e) {T : zT}  (o : zOk e (50, 0, 0)) (s : zMem) {u : (zMem ⊕ zMem)} (hf : fX12_givesAll_l0  s = some u) (hk : ∀ s', u = .inl s' → zW X T mX12_givesAll 0 [(0, .ref (zad X (50, 0, 0)))] [] s') (hx : ∀ x, u = .inr x → zW X T mX12_givesAll 26 [(0, .ref (zad X (50, 0, 0)))] [] x) : zW X T mX12_givesAll 0 [(0, .ref (zad X (50, 0, 0)))] [] s := by
  unfold fX12_givesAll_l0 at hf
  refine zW_aload_n 0 dX12_givesAll_0 rfl ?_
  refine zW_getR (q' := (51, 0, 0)) lk_RX12_13 (hw.1 _ o) rfl rfl (hw.2.1 _ _ _ o rfl) dX12_givesAll_1 ?_
  refine zW_bipush dX12_givesAll_4 rfl ?_
  refine zW_aload_n 0 dX12_givesAll_6 rfl ?_
  refine zW_getR (q' := (51, 0, 0)) lk_RX12_13 (hw.1 _ o) rfl rfl (hw.2.1 _ _ _ o rfl) dX12_givesAll_7 ?_
  refine zW_bipush dX12_givesAll_10 rfl ?_
  refine zF_iald (hw.1 _ (zokM (r' := 51) o rfl rfl)) rfl (zin_lit _ _ rfl) (ix_lit _ rfl) dX12_givesAll_12 ?_
  refine zW_iadd dX12_givesAll_13 ?_
  obtain ⟨c7, hf⟩ := zgd hf
  refine zF_iald (hw.1 _ (zokM (r' := 51) o rfl rfl)) rfl c7 rfl dX12_givesAll_14 ?_
  refine zW_iconst dX12_givesAll_15 ?_
  refine zF_icmp_eq 26 dX12_givesAll_16 rfl rfl (w32_lit _ rfl) hf (fun c hf => ?_) (fun c hf => ?_)
  · refine zW_sub [0] rfl ?_
    exact hx _ (Option.some.inj hf).symm
  · refine zW_aload_n 0 dX12_givesAll_19 rfl ?_
    refine zC_Vwv (As := []) (fun x hx => kX12_passes hw o hx) mv_RX12_179 (hw.1 _ o) rfl rfl rfl rfl rfl dX12_givesAll_20 hf (fun r8 hf => ?_)
    refine zW_goto 0 dX12_givesAll_23 rfl ?_
    refine zW_sub [0] rfl ?_
    exact hk _ (Option.some.inj hf).symm
theorem tX12_givesAll_l0 {X : zX} {e : Nat → Prop} (hw : zWf X e) {T : zT}  (o : zOk e (50, 0, 0)) {s0 : zMem} {α : Type} {F : zMem → Option α} {u : α} (hf : zb (zlp (fX12_givesAll_l0 ) 5000 s0) F = some u) (kx : ∀ x, F x = some u → zW X T mX12_givesAll 26 [(0, .ref (zad X (50, 0, 0)))] [] x) : zW X T mX12_givesAll 0 [(0, .ref (zad X (50, 0, 0)))] [] s0 := by
  obtain ⟨x, h, hf⟩ := zb_inv hf
  exact zlp_W (P := fun s => zW X T mX12_givesAll 0 [(0, .ref (zad X (50, 0, 0)))] [] s) (E := fun x => zW X T mX12_givesAll 26 [(0, .ref (zad X (50, 0, 0)))] [] x) (fun s u h hk hx => tX12_givesAll_l0_y hw o s h hk hx) _ s0 x h (kx x hf)
set_option maxRecDepth 100000 in
theorem tX12_givesAll_0 {X : zX} {e : Nat → Prop} (hw : zWf X e)  (o : zOk e (50, 0, 0)) {I : zMem} {u : zMem} (hf : fX12_givesAll  I = some u) : zW X (none, u) mX12_givesAll 0 [(0, .ref (zad X (50, 0, 0)))] [] I := by
  unfold fX12_givesAll at hf
  refine zW_aload_n 0 dX12_givesAll_0 rfl ?_
  refine zW_getR (q' := (51, 0, 0)) lk_RX12_13 (hw.1 _ o) rfl rfl (hw.2.1 _ _ _ o rfl) dX12_givesAll_1 ?_
  refine zW_bipush dX12_givesAll_4 rfl ?_
  refine zW_aload_n 0 dX12_givesAll_6 rfl ?_
  refine zW_getR (q' := (51, 0, 0)) lk_RX12_13 (hw.1 _ o) rfl rfl (hw.2.1 _ _ _ o rfl) dX12_givesAll_7 ?_
  refine zW_bipush dX12_givesAll_10 rfl ?_
  refine zF_iald (hw.1 _ (zokM (r' := 51) o rfl rfl)) rfl (zin_lit _ _ rfl) (ix_lit _ rfl) dX12_givesAll_12 ?_
  refine zW_iadd dX12_givesAll_13 ?_
  obtain ⟨c1, hf⟩ := zgd hf
  refine zF_iald (hw.1 _ (zokM (r' := 51) o rfl rfl)) rfl c1 rfl dX12_givesAll_14 ?_
  refine zW_iconst dX12_givesAll_15 ?_
  refine zF_icmp_eq 26 dX12_givesAll_16 rfl rfl (w32_lit _ rfl) hf (fun c hf => ?_) (fun c hf => ?_)
  · refine zW_aload_n 0 dX12_givesAll_26 rfl ?_
    refine zW_getR (q' := (51, 0, 0)) lk_RX12_13 (hw.1 _ o) rfl rfl (hw.2.1 _ _ _ o rfl) dX12_givesAll_27 ?_
    refine zW_bipush dX12_givesAll_30 rfl ?_
    refine zF_iald (hw.1 _ (zokM (r' := 51) o rfl rfl)) rfl (zin_lit _ _ rfl) (ix_lit _ rfl) dX12_givesAll_32 ?_
    refine zW_iconst dX12_givesAll_33 ?_
    refine zF_icmp_eq 38 dX12_givesAll_34 rfl rfl (w32_lit _ rfl) hf (fun c hf => ?_) (fun c hf => ?_)
    · refine zW_bipush dX12_givesAll_38 rfl ?_
      refine zW_istore_n (lv' := [(1, vi 7), (0, .ref (zad X (50, 0, 0)))]) dX12_givesAll_40 rfl rfl ?_
      refine zW_sub [1, 0] rfl ?_
      refine tX12_givesAll_l41 hw o (s0 := (7, I)) hf (fun x5 hf => ?_) (fun z hz => by cases hz; rfl)
      exact zR_v hw rfl dX12_givesAll_113 hf
    · exact zR_v hw rfl dX12_givesAll_37 hf
  · refine zW_aload_n 0 dX12_givesAll_19 rfl ?_
    refine zC_Vwv (As := []) (fun x hx => kX12_passes hw o hx) mv_RX12_179 (hw.1 _ o) rfl rfl rfl rfl rfl dX12_givesAll_20 hf (fun r6 hf => ?_)
    refine zW_goto 0 dX12_givesAll_23 rfl ?_
    refine zW_sub [0] rfl ?_
    refine tX12_givesAll_l0 hw o (s0 := r6) hf (fun x9 hf => ?_)
    refine zW_aload_n 0 dX12_givesAll_26 rfl ?_
    refine zW_getR (q' := (51, 0, 0)) lk_RX12_13 (hw.1 _ o) rfl rfl (hw.2.1 _ _ _ o rfl) dX12_givesAll_27 ?_
    refine zW_bipush dX12_givesAll_30 rfl ?_
    refine zF_iald (hw.1 _ (zokM (r' := 51) o rfl rfl)) rfl (zin_lit _ _ rfl) (ix_lit _ rfl) dX12_givesAll_32 ?_
    refine zW_iconst dX12_givesAll_33 ?_
    refine zF_icmp_eq 38 dX12_givesAll_34 rfl rfl (w32_lit _ rfl) hf (fun c hf => ?_) (fun c hf => ?_)
    · refine zW_bipush dX12_givesAll_38 rfl ?_
      refine zW_istore_n (lv' := [(1, vi 7), (0, .ref (zad X (50, 0, 0)))]) dX12_givesAll_40 rfl rfl ?_
      refine zW_sub [1, 0] rfl ?_
      refine tX12_givesAll_l41 hw o (s0 := (7, x9)) hf (fun x10 hf => ?_) (fun z hz => by cases hz; rfl)
      exact zR_v hw rfl dX12_givesAll_113 hf
    · exact zR_v hw rfl dX12_givesAll_37 hf
theorem kX12_givesAll {X : zX} {e : Nat → Prop} (hw : zWf X e)  (o : zOk e (50, 0, 0)) {I : zMem} {u : zMem} (hf : fX12_givesAll  I = some u) : zCn X mX12_givesAll yX12_givesAll [.ref (zad X (50, 0, 0))] I (none, u) := zCn_of (by decide +kernel) rfl rfl ⟨rfl, rfl⟩ (tX12_givesAll_0 hw.N o hf)
set_option maxRecDepth 100000 in
theorem tX12_comes_b71 {X : zX} {e : Nat → Prop} (hw : zWf X e) {v1 : Int} {v2 : Int} {I : zMem} (o : zOk e (50, 0, 0)) {u : zMem} (hf : fX12_comes_b71 v1 v2 I = some u) : zW X (none, u) mX12_comes 71 [(0, .ref (zad X (50, 0, 0)))] [] I := by
  unfold fX12_comes_b71 at hf
  refine zW_aload_n 0 dX12_comes_71 rfl ?_
  refine zC_Vwv (As := []) (fun x hx => kX12_givesAll hw o hx) mv_RX12_185 (hw.1 _ o) rfl rfl rfl rfl rfl dX12_comes_72 hf (fun r4 hf => ?_)
  exact zR_v hw rfl dX12_comes_75 hf
set_option maxRecDepth 100000 in
theorem tX12_comes_0 {X : zX} {e : Nat → Prop} (hw : zWf X e) {v1 : Int} {v2 : Int} (o : zOk e (50, 0, 0)) {I : zMem} {u : zMem} (hf : fX12_comes v1 v2 I = some u) : zW X (none, u) mX12_comes 0 [(0, .ref (zad X (50, 0, 0))), (1, vi v1), (2, vi v2)] [] I := by
  unfold fX12_comes at hf
  refine zW_aload_n 0 dX12_comes_0 rfl ?_
  refine zW_getR (q' := (51, 0, 0)) lk_RX12_13 (hw.1 _ o) rfl rfl (hw.2.1 _ _ _ o rfl) dX12_comes_1 ?_
  refine zW_bipush dX12_comes_4 rfl ?_
  refine zF_iald (hw.1 _ (zokM (r' := 51) o rfl rfl)) rfl (zin_lit _ _ rfl) (ix_lit _ rfl) dX12_comes_6 ?_
  refine zW_iload_n 1 dX12_comes_7 rfl ?_
  refine zC_Sri (As := [vi (I (51, 0, 0) 55), vi v1]) (fun x hx => kX12_past hw (v0 := I (51, 0, 0) 55) (v1 := v1)  hx) ms_RX12_182 rfl rfl rfl rfl dX12_comes_8 hf (fun r1 hf => ?_)
  refine zW_aload_n 0 dX12_comes_11 rfl ?_
  refine zW_getR (q' := (51, 0, 0)) lk_RX12_13 (hw.1 _ o) rfl rfl (hw.2.1 _ _ _ o rfl) dX12_comes_12 ?_
  refine zW_iconst dX12_comes_15 ?_
  refine zF_iald (hw.1 _ (zokM (r' := 51) o rfl rfl)) rfl (zin_lit _ _ rfl) (ix_lit _ rfl) dX12_comes_16 ?_
  refine zF_icmp_lt 34 dX12_comes_17 rfl rfl rfl hf (fun c hf => ?_) (fun c hf => ?_)
  · refine zW_aload_n 0 dX12_comes_34 rfl ?_
    refine zW_getR (q' := (51, 0, 0)) lk_RX12_13 (hw.1 _ o) rfl rfl (hw.2.1 _ _ _ o rfl) dX12_comes_35 ?_
    refine zW_bipush dX12_comes_38 rfl ?_
    refine zW_iload_n 1 dX12_comes_40 rfl ?_
    refine zW_iadd dX12_comes_41 ?_
    obtain ⟨c2, hf⟩ := zgd hf
    refine zF_iald (hw.1 _ (zokM (r' := 51) o rfl rfl)) rfl c2 rfl dX12_comes_42 ?_
    refine zW_iconst dX12_comes_43 ?_
    refine zF_icmp_eq 61 dX12_comes_44 rfl rfl (w32_lit _ rfl) hf (fun c hf => ?_) (fun c hf => ?_)
    · refine zW_aload_n 0 dX12_comes_61 rfl ?_
      refine zW_getR (q' := (51, 0, 0)) lk_RX12_13 (hw.1 _ o) rfl rfl (hw.2.1 _ _ _ o rfl) dX12_comes_62 ?_
      refine zW_bipush dX12_comes_65 rfl ?_
      refine zW_iload_n 1 dX12_comes_67 rfl ?_
      refine zW_iadd dX12_comes_68 ?_
      refine zW_iload_n 2 dX12_comes_69 rfl ?_
      refine zF_iast (hw.1 _ (zokM (r' := 51) o rfl rfl)) rfl c2 rfl dX12_comes_70 hf (fun I3 hf => ?_)
      refine zW_sub [0] rfl ?_
      exact tX12_comes_b71 hw o hf
    · refine zW_aload_n 0 dX12_comes_47 rfl ?_
      refine zW_getR (q' := (51, 0, 0)) lk_RX12_13 (hw.1 _ o) rfl rfl (hw.2.1 _ _ _ o rfl) dX12_comes_48 ?_
      refine zW_bipush dX12_comes_51 rfl ?_
      refine zW_dup2 dX12_comes_53 rfl rfl ?_
      refine zF_iald (hw.1 _ (zokM (r' := 51) o rfl rfl)) rfl (zin_lit _ _ rfl) (ix_lit _ rfl) dX12_comes_54 ?_
      refine zW_iconst dX12_comes_55 ?_
      refine zW_iadd dX12_comes_56 ?_
      refine zF_iast (hw.1 _ (zokM (r' := 51) o rfl rfl)) rfl (zin_lit _ _ rfl) (ix_lit _ rfl) dX12_comes_57 hf (fun I5 hf => ?_)
      refine zW_goto 71 dX12_comes_58 rfl ?_
      refine zW_sub [0] rfl ?_
      exact tX12_comes_b71 hw o hf
  · refine zW_aload_n 0 dX12_comes_20 rfl ?_
    refine zW_getR (q' := (51, 0, 0)) lk_RX12_13 (hw.1 _ o) rfl rfl (hw.2.1 _ _ _ o rfl) dX12_comes_21 ?_
    refine zW_bipush dX12_comes_24 rfl ?_
    refine zW_dup2 dX12_comes_26 rfl rfl ?_
    refine zF_iald (hw.1 _ (zokM (r' := 51) o rfl rfl)) rfl (zin_lit _ _ rfl) (ix_lit _ rfl) dX12_comes_27 ?_
    refine zW_iconst dX12_comes_28 ?_
    refine zW_iadd dX12_comes_29 ?_
    refine zF_iast (hw.1 _ (zokM (r' := 51) o rfl rfl)) rfl (zin_lit _ _ rfl) (ix_lit _ rfl) dX12_comes_30 hf (fun I6 hf => ?_)
    refine zW_goto 71 dX12_comes_31 rfl ?_
    refine zW_sub [0] rfl ?_
    exact tX12_comes_b71 hw o hf
theorem kX12_comes {X : zX} {e : Nat → Prop} (hw : zWf X e) {v1 : Int} {v2 : Int} (o : zOk e (50, 0, 0)) {I : zMem} {u : zMem} (hf : fX12_comes v1 v2 I = some u) : zCn X mX12_comes yX12_comes [.ref (zad X (50, 0, 0)), vi v1, vi v2] I (none, u) := zCn_of (by decide +kernel) rfl rfl ⟨rfl, rfl⟩ (tX12_comes_0 hw.N o hf)
set_option maxRecDepth 100000 in
theorem tX12_ticks_l34_y {X : zX} {e : Nat → Prop} (hw : zWf X e) {T : zT}  (o : zOk e (50, 0, 0)) (s : zMem) {u : (zMem ⊕ zMem)} (hf : fX12_ticks_l34  s = some u) (hk : ∀ s', u = .inl s' → zW X T mX12_ticks 34 [(0, .ref (zad X (50, 0, 0)))] [] s') (hx : ∀ x, u = .inr x → zW X T mX12_ticks 52 [(0, .ref (zad X (50, 0, 0)))] [] x) : zW X T mX12_ticks 34 [(0, .ref (zad X (50, 0, 0)))] [] s := by
  unfold fX12_ticks_l34 at hf
  refine zW_aload_n 0 dX12_ticks_34 rfl ?_
  refine zW_getR (q' := (51, 0, 0)) lk_RX12_13 (hw.1 _ o) rfl rfl (hw.2.1 _ _ _ o rfl) dX12_ticks_35 ?_
  refine zW_bipush dX12_ticks_38 rfl ?_
  refine zF_iald (hw.1 _ (zokM (r' := 51) o rfl rfl)) rfl (zin_lit _ _ rfl) (ix_lit _ rfl) dX12_ticks_40 ?_
  refine zW_iconst dX12_ticks_41 ?_
  refine zF_icmp_eq 52 dX12_ticks_42 rfl rfl (w32_lit _ rfl) hf (fun c hf => ?_) (fun c hf => ?_)
  · refine zW_sub [0] rfl ?_
    exact hx _ (Option.some.inj hf).symm
  · refine zW_aload_n 0 dX12_ticks_45 rfl ?_
    refine zC_Vwv (As := []) (fun x hx => kX12_passes hw o hx) mv_RX12_179 (hw.1 _ o) rfl rfl rfl rfl rfl dX12_ticks_46 hf (fun r2 hf => ?_)
    refine zW_goto 34 dX12_ticks_49 rfl ?_
    refine zW_sub [0] rfl ?_
    exact hk _ (Option.some.inj hf).symm
theorem tX12_ticks_l34 {X : zX} {e : Nat → Prop} (hw : zWf X e) {T : zT}  (o : zOk e (50, 0, 0)) {s0 : zMem} {α : Type} {F : zMem → Option α} {u : α} (hf : zb (zlp (fX12_ticks_l34 ) 5000 s0) F = some u) (kx : ∀ x, F x = some u → zW X T mX12_ticks 52 [(0, .ref (zad X (50, 0, 0)))] [] x) : zW X T mX12_ticks 34 [(0, .ref (zad X (50, 0, 0)))] [] s0 := by
  obtain ⟨x, h, hf⟩ := zb_inv hf
  exact zlp_W (P := fun s => zW X T mX12_ticks 34 [(0, .ref (zad X (50, 0, 0)))] [] s) (E := fun x => zW X T mX12_ticks 52 [(0, .ref (zad X (50, 0, 0)))] [] x) (fun s u h hk hx => tX12_ticks_l34_y hw o s h hk hx) _ s0 x h (kx x hf)
set_option maxRecDepth 100000 in
theorem tX12_ticks_0 {X : zX} {e : Nat → Prop} (hw : zWf X e)  (o : zOk e (50, 0, 0)) {I : zMem} {u : zMem} (hf : fX12_ticks  I = some u) : zW X (none, u) mX12_ticks 0 [(0, .ref (zad X (50, 0, 0)))] [] I := by
  unfold fX12_ticks at hf
  refine zW_aload_n 0 dX12_ticks_0 rfl ?_
  refine zW_getR (q' := (51, 0, 0)) lk_RX12_13 (hw.1 _ o) rfl rfl (hw.2.1 _ _ _ o rfl) dX12_ticks_1 ?_
  refine zW_bipush dX12_ticks_4 rfl ?_
  refine zF_iald (hw.1 _ (zokM (r' := 51) o rfl rfl)) rfl (zin_lit _ _ rfl) (ix_lit _ rfl) dX12_ticks_6 ?_
  refine zW_iconst dX12_ticks_7 ?_
  refine zF_icmp_ne 12 dX12_ticks_8 rfl rfl (w32_lit _ rfl) hf (fun c hf => ?_) (fun c hf => ?_)
  · exact zR_v hw rfl dX12_ticks_11 hf
  · refine zW_aload_n 0 dX12_ticks_12 rfl ?_
    refine zW_getR (q' := (51, 0, 0)) lk_RX12_13 (hw.1 _ o) rfl rfl (hw.2.1 _ _ _ o rfl) dX12_ticks_13 ?_
    refine zW_bipush dX12_ticks_16 rfl ?_
    refine zW_dup2 dX12_ticks_18 rfl rfl ?_
    refine zF_iald (hw.1 _ (zokM (r' := 51) o rfl rfl)) rfl (zin_lit _ _ rfl) (ix_lit _ rfl) dX12_ticks_19 ?_
    refine zW_iconst dX12_ticks_20 ?_
    refine zW_isub dX12_ticks_21 ?_
    refine zF_iast (hw.1 _ (zokM (r' := 51) o rfl rfl)) rfl (zin_lit _ _ rfl) (ix_lit _ rfl) dX12_ticks_22 hf (fun I1 hf => ?_)
    refine zW_aload_n 0 dX12_ticks_23 rfl ?_
    refine zW_getR (q' := (51, 0, 0)) lk_RX12_13 (hw.1 _ o) rfl rfl (hw.2.1 _ _ _ o rfl) dX12_ticks_24 ?_
    refine zW_bipush dX12_ticks_27 rfl ?_
    refine zF_iald (hw.1 _ (zokM (r' := 51) o rfl rfl)) rfl (zin_lit _ _ rfl) (ix_lit _ rfl) dX12_ticks_29 ?_
    refine zF_if_le 34 dX12_ticks_30 rfl rfl hf (fun c hf => ?_) (fun c hf => ?_)
    · refine zW_sub [0] rfl ?_
      refine tX12_ticks_l34 hw o (s0 := I1) hf (fun x3 hf => ?_)
      refine zW_aload_n 0 dX12_ticks_52 rfl ?_
      refine zC_Vwv (As := []) (fun x hx => kX12_givesAll hw o hx) mv_RX12_185 (hw.1 _ o) rfl rfl rfl rfl rfl dX12_ticks_53 hf (fun r4 hf => ?_)
      exact zR_v hw rfl dX12_ticks_56 hf
    · exact zR_v hw rfl dX12_ticks_33 hf
theorem kX12_ticks {X : zX} {e : Nat → Prop} (hw : zWf X e)  (o : zOk e (50, 0, 0)) {I : zMem} {u : zMem} (hf : fX12_ticks  I = some u) : zCn X mX12_ticks yX12_ticks [.ref (zad X (50, 0, 0))] I (none, u) := zCn_of (by decide +kernel) rfl rfl ⟨rfl, rfl⟩ (tX12_ticks_0 hw.N o hf)
set_option maxRecDepth 100000 in
theorem tX12_held_0 {X : zX} {e : Nat → Prop} (hw : zWf X e) {v0 : Int} {v1 : Int}  {I : zMem} {u : Int} (hf : fX12_held v0 v1 = some u) : zW X (some (vi u), I) mX12_held 0 [(0, vi v0), (1, vi v1)] [] I := by
  unfold fX12_held at hf
  refine zW_iload_n 0 dX12_held_0 rfl ?_
  refine zW_iload_n 1 dX12_held_1 rfl ?_
  refine zF_icmp_le 9 dX12_held_2 rfl rfl rfl hf (fun c hf => ?_) (fun c hf => ?_)
  · refine zW_iload_n 0 dX12_held_9 rfl ?_
    refine zW_iload_n 1 dX12_held_10 rfl ?_
    refine zW_ineg dX12_held_11 ?_
    refine zF_icmp_ge 20 dX12_held_12 rfl rfl rfl hf (fun c hf => ?_) (fun c hf => ?_)
    · refine zW_iload_n 0 dX12_held_20 rfl ?_
      exact zS_i hw rfl dX12_held_21 hf
    · refine zW_iload_n 1 dX12_held_15 rfl ?_
      refine zW_ineg dX12_held_16 ?_
      refine zW_goto 21 dX12_held_17 rfl ?_
      exact zS_i hw rfl dX12_held_21 hf
  · refine zW_iload_n 1 dX12_held_5 rfl ?_
    refine zW_goto 21 dX12_held_6 rfl ?_
    exact zS_i hw rfl dX12_held_21 hf
theorem kX12_held {X : zX} {e : Nat → Prop} (hw : zWf X e) {v0 : Int} {v1 : Int}  {I : zMem} {u : Int} (hf : fX12_held v0 v1 = some u) : zCn X mX12_held yX12_held [vi v0, vi v1] I (some (vi u), I) := zCn_of (by decide +kernel) rfl rfl ⟨rfl, rfl⟩ (tX12_held_0 hw.N  hf)
set_option maxRecDepth 100000 in
theorem tX12_laysSoft_l2_y {X : zX} {e : Nat → Prop} (hw : zWf X e) {T : zT} {v1 : Int} (o : zOk e (50, 0, 0)) (s : (Int × zMem)) {u : ((Int × zMem) ⊕ (Int × zMem))} (hf : fX12_laysSoft_l2 v1 s = some u) (hk : ∀ s', u = .inl s' → zW X T mX12_laysSoft 2 [(0, .ref (zad X (50, 0, 0))), (1, vi v1), (2, vi s'.1)] [] s'.2) (hx : ∀ x, u = .inr x → zW X T mX12_laysSoft 35 [] [] x.2) : zW X T mX12_laysSoft 2 [(0, .ref (zad X (50, 0, 0))), (1, vi v1), (2, vi s.1)] [] s.2 := by
  unfold fX12_laysSoft_l2 at hf
  refine zW_iload_n 2 dX12_laysSoft_2 rfl ?_
  refine zW_bipush dX12_laysSoft_3 rfl ?_
  refine zF_icmp_ge 35 dX12_laysSoft_5 rfl rfl (w32_lit _ rfl) hf (fun c hf => ?_) (fun c hf => ?_)
  · refine zW_sub [] rfl ?_
    exact hx _ (Option.some.inj hf).symm
  · refine zW_aload_n 0 dX12_laysSoft_8 rfl ?_
    refine zW_getR (q' := (58, 0, 0)) lk_RX12_37 (hw.1 _ o) rfl rfl (hw.2.1 _ _ _ o rfl) dX12_laysSoft_9 ?_
    refine zW_iload_n 2 dX12_laysSoft_12 rfl ?_
    refine zW_aload_n 0 dX12_laysSoft_13 rfl ?_
    refine zW_getR (q' := (51, 0, 0)) lk_RX12_13 (hw.1 _ o) rfl rfl (hw.2.1 _ _ _ o rfl) dX12_laysSoft_14 ?_
    refine zW_aload_n 0 dX12_laysSoft_17 rfl ?_
    refine zW_iload_n 1 dX12_laysSoft_18 rfl ?_
    refine zC_Vri (As := [vi v1]) (fun x hx => kX12_own hw (v1 := v1) o hx) mv_RX12_188 (hw.1 _ o) rfl rfl rfl rfl rfl dX12_laysSoft_19 hf (fun r1 hf => ?_)
    refine zW_bipush dX12_laysSoft_22 rfl ?_
    refine zW_iadd dX12_laysSoft_24 ?_
    refine zW_iload_n 2 dX12_laysSoft_25 rfl ?_
    refine zW_iadd dX12_laysSoft_26 ?_
    obtain ⟨c2, hf⟩ := zgd hf
    refine zF_iald (hw.1 _ (zokM (r' := 51) o rfl rfl)) rfl c2 rfl dX12_laysSoft_27 ?_
    obtain ⟨c3, hf⟩ := zgd hf
    refine zF_iast (hw.1 _ (zokM (r' := 58) o rfl rfl)) rfl c3 rfl dX12_laysSoft_28 hf (fun I4 hf => ?_)
    refine zW_iinc 2 (lv' := [(2, vi (s.1 + 1)), (0, .ref (zad X (50, 0, 0))), (1, vi v1)]) dX12_laysSoft_29 rfl rfl rfl ?_
    refine zW_goto 2 dX12_laysSoft_32 rfl ?_
    refine zW_sub [1, 2, 0] rfl ?_
    exact hk _ (Option.some.inj hf).symm
theorem tX12_laysSoft_l2 {X : zX} {e : Nat → Prop} (hw : zWf X e) {T : zT} {v1 : Int} (o : zOk e (50, 0, 0)) {s0 : (Int × zMem)} {α : Type} {F : (Int × zMem) → Option α} {u : α} (hf : zb (zlp (fX12_laysSoft_l2 v1) 5000 s0) F = some u) (kx : ∀ x, F x = some u → zW X T mX12_laysSoft 35 [] [] x.2) : zW X T mX12_laysSoft 2 [(0, .ref (zad X (50, 0, 0))), (1, vi v1), (2, vi s0.1)] [] s0.2 := by
  obtain ⟨x, h, hf⟩ := zb_inv hf
  exact zlp_W (P := fun s => zW X T mX12_laysSoft 2 [(0, .ref (zad X (50, 0, 0))), (1, vi v1), (2, vi s.1)] [] s.2) (E := fun x => zW X T mX12_laysSoft 35 [] [] x.2) (fun s u h hk hx => tX12_laysSoft_l2_y hw o s h hk hx) _ s0 x h (kx x hf)
set_option maxRecDepth 100000 in
theorem tX12_laysSoft_0 {X : zX} {e : Nat → Prop} (hw : zWf X e) {v1 : Int} (o : zOk e (50, 0, 0)) {I : zMem} {u : zMem} (hf : fX12_laysSoft v1 I = some u) : zW X (none, u) mX12_laysSoft 0 [(0, .ref (zad X (50, 0, 0))), (1, vi v1)] [] I := by
  unfold fX12_laysSoft at hf
  refine zW_iconst dX12_laysSoft_0 ?_
  refine zW_istore_n (lv' := [(2, vi 0), (0, .ref (zad X (50, 0, 0))), (1, vi v1)]) dX12_laysSoft_1 rfl rfl ?_
  refine zW_sub [1, 2, 0] rfl ?_
  refine tX12_laysSoft_l2 hw o (s0 := (0, I)) hf (fun x5 hf => ?_)
  exact zR_v hw rfl dX12_laysSoft_35 hf
theorem kX12_laysSoft {X : zX} {e : Nat → Prop} (hw : zWf X e) {v1 : Int} (o : zOk e (50, 0, 0)) {I : zMem} {u : zMem} (hf : fX12_laysSoft v1 I = some u) : zCn X mX12_laysSoft yX12_laysSoft [.ref (zad X (50, 0, 0)), vi v1] I (none, u) := zCn_of (by decide +kernel) rfl rfl ⟨rfl, rfl⟩ (tX12_laysSoft_0 hw.N o hf)
set_option maxRecDepth 100000 in
theorem tX12_hears_l138_y {X : zX} {e : Nat → Prop} (hw : zWf X e) {T : zT} {v1 : Int} {v2 : Int} {v3 : Int} {w4 : Int} (o : zOk e (50, 0, 0)) (s : (Int × zMem)) {u : ((Int × zMem) ⊕ (Int × zMem))} (hf : fX12_hears_l138 v1 v2 v3 w4 s = some u) (hk : ∀ s', u = .inl s' → zW X T mX12_hears 138 [(0, .ref (zad X (50, 0, 0))), (1, vi v1), (3, vi v3), (4, vi w4), (5, vi s'.1)] [] s'.2) (hx : ∀ x, u = .inr x → zW X T mX12_hears 196 [(0, .ref (zad X (50, 0, 0))), (1, vi v1), (4, vi w4)] [] x.2) : zW X T mX12_hears 138 [(0, .ref (zad X (50, 0, 0))), (1, vi v1), (3, vi v3), (4, vi w4), (5, vi s.1)] [] s.2 := by
  unfold fX12_hears_l138 at hf
  refine zW_iload 4 dX12_hears_138 rfl ?_
  refine zW_iload_n 2 dX12_hears_140 rfl ?_
  refine zF_icmp_ge 196 dX12_hears_141 rfl rfl rfl hf (fun c hf => ?_) (fun c hf => ?_)
  · refine zW_sub [0, 1, 3] rfl ?_
    exact hx _ (Option.some.inj hf).symm
  · refine zW_iload 3 dX12_hears_144 rfl ?_
    refine zW_bipush dX12_hears_146 rfl ?_
    refine zW_iadd dX12_hears_148 ?_
    refine zW_aload_n 0 dX12_hears_149 rfl ?_
    refine zW_getR (q' := (56, 0, 0)) lk_RX12_31 (hw.1 _ o) rfl rfl (hw.2.1 _ _ _ o rfl) dX12_hears_150 ?_
    refine zW_iload 4 dX12_hears_153 rfl ?_
    obtain ⟨c7, hf⟩ := zgd hf
    refine zF_iald (hw.1 _ (zokM (r' := 56) o rfl rfl)) rfl c7 rfl dX12_hears_155 ?_
    refine zW_iadd dX12_hears_156 ?_
    refine zF_istore (lv' := fun a8 => [(6, vi a8), (0, .ref (zad X (50, 0, 0))), (1, vi v1), (3, vi v3), (4, vi w4), (5, vi s.1)]) dX12_hears_157 hf (fun _ => rfl) rfl (fun a8 hf => ?_)
    refine zW_aload_n 1 dX12_hears_159 rfl ?_
    refine zW_getR (q' := (51, 0, 0)) lk_RX12_13 (hw.1 _ o) rfl rfl (hw.2.1 _ _ _ o rfl) dX12_hears_160 ?_
    refine zW_iload 0 dX12_hears_163 rfl ?_
    refine zW_aload_n 1 dX12_hears_165 rfl ?_
    refine zW_getR (q' := (51, 0, 0)) lk_RX12_13 (hw.1 _ o) rfl rfl (hw.2.1 _ _ _ o rfl) dX12_hears_166 ?_
    refine zW_iload 0 dX12_hears_169 rfl ?_
    obtain ⟨c9, hf⟩ := zgd hf
    refine zF_iald (hw.1 _ (zokM (r' := 51) o rfl rfl)) rfl c9 rfl dX12_hears_171 ?_
    refine zW_aload_n 1 dX12_hears_172 rfl ?_
    refine zW_getR (q' := (63, 0, 0)) lk_RX12_52 (hw.1 _ o) rfl rfl (hw.2.1 _ _ _ o rfl) dX12_hears_173 ?_
    refine zW_iload 5 dX12_hears_176 rfl ?_
    refine zF_iald (hw.1 _ (zokM (r' := 63) o rfl rfl)) rfl c7 rfl dX12_hears_178 ?_
    refine zW_iadd dX12_hears_179 ?_
    refine zW_aload_n 1 dX12_hears_180 rfl ?_
    refine zW_getR (q' := (51, 0, 0)) lk_RX12_13 (hw.1 _ o) rfl rfl (hw.2.1 _ _ _ o rfl) dX12_hears_181 ?_
    refine zW_iconst dX12_hears_184 ?_
    refine zF_iald (hw.1 _ (zokM (r' := 51) o rfl rfl)) rfl (zin_lit _ _ rfl) (ix_lit _ rfl) dX12_hears_185 ?_
    refine zC_Sri (As := [vi ((s.2 (51, 0, 0) (ix a8)) + (s.2 (63, 0, 0) (ix s.1))), vi (s.2 (51, 0, 0) 5)]) (fun x hx => kX12_held hw (v0 := (s.2 (51, 0, 0) (ix a8)) + (s.2 (63, 0, 0) (ix s.1))) (v1 := s.2 (51, 0, 0) 5)  hx) ms_RX12_191 rfl rfl rfl rfl dX12_hears_186 hf (fun r10 hf => ?_)
    refine zF_iast (hw.1 _ (zokM (r' := 51) o rfl rfl)) rfl c9 rfl dX12_hears_189 hf (fun I11 hf => ?_)
    refine zW_iinc 5 (lv' := [(5, vi (s.1 + 1)), (6, vi a8), (0, .ref (zad X (50, 0, 0))), (1, vi v1), (3, vi v3), (4, vi w4)]) dX12_hears_190 rfl rfl rfl ?_
    refine zW_goto 138 dX12_hears_193 rfl ?_
    refine zW_sub [2, 3, 4, 5, 0] rfl ?_
    exact hk _ (Option.some.inj hf).symm
theorem tX12_hears_l138 {X : zX} {e : Nat → Prop} (hw : zWf X e) {T : zT} {v1 : Int} {v2 : Int} {v3 : Int} {w4 : Int} (o : zOk e (50, 0, 0)) {s0 : (Int × zMem)} {α : Type} {F : (Int × zMem) → Option α} {u : α} (hf : zb (zlp (fX12_hears_l138 v1 v2 v3 w4) 5000 s0) F = some u) (kx : ∀ x, F x = some u → zW X T mX12_hears 196 [(0, .ref (zad X (50, 0, 0))), (1, vi v1), (4, vi w4)] [] x.2) : zW X T mX12_hears 138 [(0, .ref (zad X (50, 0, 0))), (1, vi v1), (3, vi v3), (4, vi w4), (5, vi s0.1)] [] s0.2 := by
  obtain ⟨x, h, hf⟩ := zb_inv hf
  exact zlp_W (P := fun s => zW X T mX12_hears 138 [(0, .ref (zad X (50, 0, 0))), (1, vi v1), (3, vi v3), (4, vi w4), (5, vi s.1)] [] s.2) (E := fun x => zW X T mX12_hears 196 [(0, .ref (zad X (50, 0, 0))), (1, vi v1), (4, vi w4)] [] x.2) (fun s u h hk hx => tX12_hears_l138_y hw o s h hk hx) _ s0 x h (kx x hf)
set_option maxRecDepth 100000 in
theorem tX12_hears_b95 {X : zX} {e : Nat → Prop} (hw : zWf X e) {v1 : Int} {v2 : Int} {v3 : Int} {w4 : Int} {I : zMem} (o : zOk e (50, 0, 0)) {u : zMem} (hf : fX12_hears_b95 v1 v2 v3 w4 I = some u) : zW X (none, u) mX12_hears 95 [(0, .ref (zad X (50, 0, 0))), (1, vi v1), (3, vi v3), (4, vi w4)] [] I := by
  unfold fX12_hears_b95 at hf
  refine zW_aload_n 0 dX12_hears_95 rfl ?_
  refine zW_getR (q' := (51, 0, 0)) lk_RX12_13 (hw.1 _ o) rfl rfl (hw.2.1 _ _ _ o rfl) dX12_hears_96 ?_
  refine zW_iload 3 dX12_hears_99 rfl ?_
  refine zW_bipush dX12_hears_101 rfl ?_
  refine zW_iadd dX12_hears_103 ?_
  obtain ⟨c3, hf⟩ := zgd hf
  refine zF_iald (hw.1 _ (zokM (r' := 51) o rfl rfl)) rfl c3 rfl dX12_hears_104 ?_
  refine zW_iconst dX12_hears_105 ?_
  refine zF_icmp_ne 121 dX12_hears_106 rfl rfl (w32_lit _ rfl) hf (fun c hf => ?_) (fun c hf => ?_)
  · refine zW_aload_n 0 dX12_hears_109 rfl ?_
    refine zW_getR (q' := (51, 0, 0)) lk_RX12_13 (hw.1 _ o) rfl rfl (hw.2.1 _ _ _ o rfl) dX12_hears_110 ?_
    refine zW_bipush dX12_hears_113 rfl ?_
    refine zW_dup2 dX12_hears_115 rfl rfl ?_
    refine zF_iald (hw.1 _ (zokM (r' := 51) o rfl rfl)) rfl (zin_lit _ _ rfl) (ix_lit _ rfl) dX12_hears_116 ?_
    refine zW_iconst dX12_hears_117 ?_
    refine zW_iadd dX12_hears_118 ?_
    refine zF_iast (hw.1 _ (zokM (r' := 51) o rfl rfl)) rfl (zin_lit _ _ rfl) (ix_lit _ rfl) dX12_hears_119 hf (fun I4 hf => ?_)
    exact zR_v hw rfl dX12_hears_120 hf
  · refine zW_aload_n 0 dX12_hears_121 rfl ?_
    refine zW_getR (q' := (51, 0, 0)) lk_RX12_13 (hw.1 _ o) rfl rfl (hw.2.1 _ _ _ o rfl) dX12_hears_122 ?_
    refine zW_iload 3 dX12_hears_125 rfl ?_
    refine zW_bipush dX12_hears_127 rfl ?_
    refine zW_iadd dX12_hears_129 ?_
    refine zW_dup2 dX12_hears_130 rfl rfl ?_
    obtain ⟨c5, hf⟩ := zgd hf
    refine zF_iald (hw.1 _ (zokM (r' := 51) o rfl rfl)) rfl c5 rfl dX12_hears_131 ?_
    refine zW_iconst dX12_hears_132 ?_
    refine zW_iadd dX12_hears_133 ?_
    refine zF_iast (hw.1 _ (zokM (r' := 51) o rfl rfl)) rfl c5 rfl dX12_hears_134 hf (fun I6 hf => ?_)
    refine zW_iconst dX12_hears_135 ?_
    refine zW_istore (lv' := [(5, vi 0), (0, .ref (zad X (50, 0, 0))), (1, vi v1), (3, vi v3), (4, vi w4)]) dX12_hears_136 rfl rfl ?_
    refine zW_sub [1, 2, 3, 4, 0] rfl ?_
    refine tX12_hears_l138 hw o (s0 := (0, I6)) hf (fun x12 hf => ?_)
    refine zW_aload_n 0 dX12_hears_196 rfl ?_
    refine zW_iload_n 1 dX12_hears_197 rfl ?_
    refine zC_Vwv (As := [vi v1]) (fun x hx => kX12_laysSoft hw (v1 := v1) o hx) mv_RX12_194 (hw.1 _ o) rfl rfl rfl rfl rfl dX12_hears_198 hf (fun r13 hf => ?_)
    refine zW_aload_n 0 dX12_hears_201 rfl ?_
    refine zC_Vwi (As := []) (fun x hx => kX12_bestNow hw o hx) mv_RX12_162 (hw.1 _ o) rfl rfl rfl rfl rfl dX12_hears_202 hf (fun r14 hf => ?_)
    refine zW_istore (lv' := [(5, vi r14.1), (0, .ref (zad X (50, 0, 0))), (1, vi v1), (4, vi w4)]) dX12_hears_205 rfl rfl ?_
    refine zW_iload 0 dX12_hears_207 rfl ?_
    refine zC_Sri (As := [vi r14.1]) (fun x hx => kX12_isWhole hw (v0 := r14.1)  hx) ms_RX12_116 rfl rfl rfl rfl dX12_hears_209 hf (fun r15 hf => ?_)
    refine zF_if_ne 216 dX12_hears_212 rfl rfl hf (fun c hf => ?_) (fun c hf => ?_)
    · exact zR_v hw rfl dX12_hears_215 hf
    · refine zW_aload_n 1 dX12_hears_216 rfl ?_
      refine zW_getR (q' := (51, 0, 0)) lk_RX12_13 (hw.1 _ o) rfl rfl (hw.2.1 _ _ _ o rfl) dX12_hears_217 ?_
      refine zW_iload 3 dX12_hears_220 rfl ?_
      refine zW_bipush dX12_hears_222 rfl ?_
      refine zW_iadd dX12_hears_224 ?_
      refine zW_iconst dX12_hears_225 ?_
      refine zF_iast (hw.1 _ (zokM (r' := 51) o rfl rfl)) rfl c3 rfl dX12_hears_226 hf (fun I16 hf => ?_)
      refine zW_aload_n 1 dX12_hears_227 rfl ?_
      refine zW_iload 0 dX12_hears_228 rfl ?_
      refine zW_bipush dX12_hears_230 rfl ?_
      refine zW_ishr dX12_hears_232 ?_
      refine zW_iload 0 dX12_hears_233 rfl ?_
      refine zW_iconst dX12_hears_235 ?_
      refine zW_ishr dX12_hears_236 ?_
      refine zW_bipush dX12_hears_237 rfl ?_
      refine zW_iand_31 dX12_hears_239 ?_
      refine zC_Vwv (As := [vi (ishr r14.1 8), vi ((ishr r14.1 3) % 32)]) (fun x hx => kX12_comes hw (v1 := ishr r14.1 8) (v2 := (ishr r14.1 3) % 32) o hx) mv_RX12_198 (hw.1 _ o) rfl rfl rfl rfl rfl dX12_hears_240 hf (fun r17 hf => ?_)
      exact zR_v hw rfl dX12_hears_243 hf
set_option maxRecDepth 100000 in
theorem tX12_hears_l24_y {X : zX} {e : Nat → Prop} (hw : zWf X e) {T : zT} {v1 : Int} {v2 : Int} {v3 : Int} {w4 : Int} (o : zOk e (50, 0, 0)) (s : (Int × zMem)) {u : ((Int × zMem) ⊕ (Int × zMem))} (hf : fX12_hears_l24 v1 v2 v3 w4 s = some u) (hk : ∀ s', u = .inl s' → zW X T mX12_hears 24 [(0, .ref (zad X (50, 0, 0))), (1, vi v1), (2, vi v2), (3, vi v3), (4, vi w4), (5, vi s'.1)] [] s'.2) (hx : ∀ x, u = .inr x → zW X T mX12_hears 51 [(0, .ref (zad X (50, 0, 0))), (1, vi v1), (2, vi v2), (3, vi v3), (4, vi w4)] [] x.2) : zW X T mX12_hears 24 [(0, .ref (zad X (50, 0, 0))), (1, vi v1), (2, vi v2), (3, vi v3), (4, vi w4), (5, vi s.1)] [] s.2 := by
  unfold fX12_hears_l24 at hf
  refine zW_iload 5 dX12_hears_24 rfl ?_
  refine zW_bipush dX12_hears_26 rfl ?_
  refine zF_icmp_ge 51 dX12_hears_28 rfl rfl (w32_lit _ rfl) hf (fun c hf => ?_) (fun c hf => ?_)
  · refine zW_sub [0, 1, 2, 3, 4] rfl ?_
    exact hx _ (Option.some.inj hf).symm
  · refine zW_aload_n 0 dX12_hears_31 rfl ?_
    refine zW_getR (q' := (51, 0, 0)) lk_RX12_13 (hw.1 _ o) rfl rfl (hw.2.1 _ _ _ o rfl) dX12_hears_32 ?_
    refine zW_iload 4 dX12_hears_35 rfl ?_
    refine zW_bipush dX12_hears_37 rfl ?_
    refine zW_iadd dX12_hears_39 ?_
    refine zW_iload 5 dX12_hears_40 rfl ?_
    refine zW_iadd dX12_hears_42 ?_
    refine zW_iconst dX12_hears_43 ?_
    obtain ⟨c18, hf⟩ := zgd hf
    refine zF_iast (hw.1 _ (zokM (r' := 51) o rfl rfl)) rfl c18 rfl dX12_hears_44 hf (fun I19 hf => ?_)
    refine zW_iinc 5 (lv' := [(5, vi (s.1 + 1)), (0, .ref (zad X (50, 0, 0))), (1, vi v1), (2, vi v2), (3, vi v3), (4, vi w4)]) dX12_hears_45 rfl rfl rfl ?_
    refine zW_goto 24 dX12_hears_48 rfl ?_
    refine zW_sub [1, 2, 3, 4, 5, 0] rfl ?_
    exact hk _ (Option.some.inj hf).symm
theorem tX12_hears_l24 {X : zX} {e : Nat → Prop} (hw : zWf X e) {T : zT} {v1 : Int} {v2 : Int} {v3 : Int} {w4 : Int} (o : zOk e (50, 0, 0)) {s0 : (Int × zMem)} {α : Type} {F : (Int × zMem) → Option α} {u : α} (hf : zb (zlp (fX12_hears_l24 v1 v2 v3 w4) 5000 s0) F = some u) (kx : ∀ x, F x = some u → zW X T mX12_hears 51 [(0, .ref (zad X (50, 0, 0))), (1, vi v1), (2, vi v2), (3, vi v3), (4, vi w4)] [] x.2) : zW X T mX12_hears 24 [(0, .ref (zad X (50, 0, 0))), (1, vi v1), (2, vi v2), (3, vi v3), (4, vi w4), (5, vi s0.1)] [] s0.2 := by
  obtain ⟨x, h, hf⟩ := zb_inv hf
  exact zlp_W (P := fun s => zW X T mX12_hears 24 [(0, .ref (zad X (50, 0, 0))), (1, vi v1), (2, vi v2), (3, vi v3), (4, vi w4), (5, vi s.1)] [] s.2) (E := fun x => zW X T mX12_hears 51 [(0, .ref (zad X (50, 0, 0))), (1, vi v1), (2, vi v2), (3, vi v3), (4, vi w4)] [] x.2) (fun s u h hk hx => tX12_hears_l24_y hw o s h hk hx) _ s0 x h (kx x hf)
set_option maxRecDepth 100000 in
theorem tX12_hears_0 {X : zX} {e : Nat → Prop} (hw : zWf X e) {v1 : Int} {v2 : Int} {v3 : Int} (o : zOk e (50, 0, 0)) {I : zMem} {u : zMem} (hf : fX12_hears v1 v2 v3 I = some u) : zW X (none, u) mX12_hears 0 [(0, .ref (zad X (50, 0, 0))), (1, vi v1), (2, vi v2), (3, vi v3)] [] I := by
  unfold fX12_hears at hf
  refine zW_aload_n 0 dX12_hears_0 rfl ?_
  refine zW_iload_n 1 dX12_hears_1 rfl ?_
  refine zC_Vri (As := [vi v1]) (fun x hx => kX12_own hw (v1 := v1) o hx) mv_RX12_188 (hw.1 _ o) rfl rfl rfl rfl rfl dX12_hears_2 hf (fun r1 hf => ?_)
  refine zW_istore (lv' := [(4, vi r1), (0, .ref (zad X (50, 0, 0))), (1, vi v1), (2, vi v2), (3, vi v3)]) dX12_hears_5 rfl rfl ?_
  refine zW_aload_n 1 dX12_hears_7 rfl ?_
  refine zW_getR (q' := (51, 0, 0)) lk_RX12_13 (hw.1 _ o) rfl rfl (hw.2.1 _ _ _ o rfl) dX12_hears_8 ?_
  refine zW_iload 0 dX12_hears_11 rfl ?_
  refine zW_bipush dX12_hears_13 rfl ?_
  refine zW_iadd dX12_hears_15 ?_
  obtain ⟨c2, hf⟩ := zgd hf
  refine zF_iald (hw.1 _ (zokM (r' := 51) o rfl rfl)) rfl c2 rfl dX12_hears_16 ?_
  refine zW_iload_n 3 dX12_hears_17 rfl ?_
  refine zF_icmp_eq 95 dX12_hears_18 rfl rfl rfl hf (fun c hf => ?_) (fun c hf => ?_)
  · refine zW_sub [1, 2, 4, 0] rfl ?_
    exact tX12_hears_b95 hw o hf
  · refine zW_iconst dX12_hears_21 ?_
    refine zW_istore (lv' := [(5, vi 0), (4, vi r1), (0, .ref (zad X (50, 0, 0))), (1, vi v1), (2, vi v2), (3, vi v3)]) dX12_hears_22 rfl rfl ?_
    refine zW_sub [2, 3, 4, 5, 1, 0] rfl ?_
    refine tX12_hears_l24 hw o (s0 := (0, I)) hf (fun x20 hf => ?_)
    refine zW_aload_n 0 dX12_hears_51 rfl ?_
    refine zW_getR (q' := (51, 0, 0)) lk_RX12_13 (hw.1 _ o) rfl rfl (hw.2.1 _ _ _ o rfl) dX12_hears_52 ?_
    refine zW_iload 4 dX12_hears_55 rfl ?_
    refine zW_bipush dX12_hears_57 rfl ?_
    refine zW_iadd dX12_hears_59 ?_
    refine zW_iconst dX12_hears_60 ?_
    obtain ⟨c21, hf⟩ := zgd hf
    refine zF_iast (hw.1 _ (zokM (r' := 51) o rfl rfl)) rfl c21 rfl dX12_hears_61 hf (fun I22 hf => ?_)
    refine zW_aload_n 0 dX12_hears_62 rfl ?_
    refine zW_getR (q' := (51, 0, 0)) lk_RX12_13 (hw.1 _ o) rfl rfl (hw.2.1 _ _ _ o rfl) dX12_hears_63 ?_
    refine zW_iload 4 dX12_hears_66 rfl ?_
    refine zW_bipush dX12_hears_68 rfl ?_
    refine zW_iadd dX12_hears_70 ?_
    refine zW_iconst dX12_hears_71 ?_
    obtain ⟨c23, hf⟩ := zgd hf
    refine zF_iast (hw.1 _ (zokM (r' := 51) o rfl rfl)) rfl c23 rfl dX12_hears_72 hf (fun I24 hf => ?_)
    refine zW_aload_n 0 dX12_hears_73 rfl ?_
    refine zW_getR (q' := (51, 0, 0)) lk_RX12_13 (hw.1 _ o) rfl rfl (hw.2.1 _ _ _ o rfl) dX12_hears_74 ?_
    refine zW_iload 4 dX12_hears_77 rfl ?_
    refine zW_bipush dX12_hears_79 rfl ?_
    refine zW_iadd dX12_hears_81 ?_
    refine zW_iconst dX12_hears_82 ?_
    obtain ⟨c25, hf⟩ := zgd hf
    refine zF_iast (hw.1 _ (zokM (r' := 51) o rfl rfl)) rfl c25 rfl dX12_hears_83 hf (fun I26 hf => ?_)
    refine zW_aload_n 0 dX12_hears_84 rfl ?_
    refine zW_getR (q' := (51, 0, 0)) lk_RX12_13 (hw.1 _ o) rfl rfl (hw.2.1 _ _ _ o rfl) dX12_hears_85 ?_
    refine zW_iload 4 dX12_hears_88 rfl ?_
    refine zW_bipush dX12_hears_90 rfl ?_
    refine zW_iadd dX12_hears_92 ?_
    refine zW_iload_n 2 dX12_hears_93 rfl ?_
    refine zF_iast (hw.1 _ (zokM (r' := 51) o rfl rfl)) rfl c2 rfl dX12_hears_94 hf (fun I27 hf => ?_)
    refine zW_sub [0, 1, 3, 4] rfl ?_
    exact tX12_hears_b95 hw o hf
theorem kX12_hears {X : zX} {e : Nat → Prop} (hw : zWf X e) {v1 : Int} {v2 : Int} {v3 : Int} (o : zOk e (50, 0, 0)) {I : zMem} {u : zMem} (hf : fX12_hears v1 v2 v3 I = some u) : zCn X mX12_hears yX12_hears [.ref (zad X (50, 0, 0)), vi v1, vi v2, vi v3] I (none, u) := zCn_of (by decide +kernel) rfl rfl ⟨rfl, rfl⟩ (tX12_hears_0 hw.N o hf)
