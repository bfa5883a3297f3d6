set_option maxRecDepth 100000 in
theorem tX5_firstStored_l2_y {X : zX} {e : Nat → Prop} (hw : zWf X e) {T : zT} {L : Nat} {I : zMem} (o : zOk e (9, L, 0)) (s : Int) {u : (Int ⊕ (Int ⊕ Int))} (hf : fX5_firstStored_l2 L I s = some u) (hk : ∀ s', u = .inl s' → zW X T mX5_firstStored 2 [(0, .ref (zad X (9, L, 0))), (1, vi s')] [] I) (hx : ∀ x, u = .inr (.inl x) → zW X T mX5_firstStored 36 [] [] I) (hr : ∀ z : Int, u = .inr (.inr z) → T = (some (vi z), I)) : zW X T mX5_firstStored 2 [(0, .ref (zad X (9, L, 0))), (1, vi s)] [] I := by
  unfold fX5_firstStored_l2 at hf
  refine zW_iload_n 1 dX5_firstStored_2 rfl ?_
  refine zW_bipush dX5_firstStored_3 rfl ?_
  refine zF_icmp_ge 36 dX5_firstStored_5 rfl rfl (w32_lit _ rfl) hf (fun c hf => ?_) (fun c hf => ?_)
  · refine zW_sub [] rfl ?_
    exact hx _ (Option.some.inj hf).symm
  · refine zW_aload_n 0 dX5_firstStored_8 rfl ?_
    refine zW_getI lk_RX5_35 (hw.1 _ o) rfl rfl dX5_firstStored_9 ?_
    refine zW_iload_n 1 dX5_firstStored_12 rfl ?_
    refine zW_iadd dX5_firstStored_13 ?_
    refine zW_bipush dX5_firstStored_14 rfl ?_
    refine zW_iand_7 dX5_firstStored_16 ?_
    refine zF_istore_n (lv' := fun a1 => [(2, vi a1), (0, .ref (zad X (9, L, 0))), (1, vi s)]) dX5_firstStored_17 hf (fun _ => rfl) rfl (fun a1 hf => ?_)
    refine zW_aload_n 1 dX5_firstStored_18 rfl ?_
    refine zW_getR (q' := (39, L, 0)) lk_RX5_17 (hw.1 _ o) rfl rfl (hw.2.1 _ _ _ o rfl) dX5_firstStored_19 ?_
    refine zW_iload_n 0 dX5_firstStored_22 rfl ?_
    obtain ⟨c2, hf⟩ := zgd hf
    refine zF_iald (hw.1 _ (zokB (r' := 39) o rfl rfl)) rfl c2 rfl dX5_firstStored_23 ?_
    refine zW_iconst dX5_firstStored_24 ?_
    refine zF_icmp_eq 30 dX5_firstStored_25 rfl rfl (w32_lit _ rfl) hf (fun c hf => ?_) (fun c hf => ?_)
    · refine zW_iinc 2 (lv' := [(1, vi (s + 1)), (2, vi a1), (0, .ref (zad X (9, L, 0)))]) dX5_firstStored_30 rfl rfl rfl ?_
      refine zW_goto 2 dX5_firstStored_33 rfl ?_
      refine zW_sub [2, 0] rfl ?_
      exact hk _ (Option.some.inj hf).symm
    · refine zW_iload_n 0 dX5_firstStored_28 rfl ?_
      exact zQ_i hw rfl dX5_firstStored_29 (hr _ (Option.some.inj hf).symm)
theorem tX5_firstStored_l2 {X : zX} {e : Nat → Prop} (hw : zWf X e) {T : zT} {L : Nat} {I : zMem} (o : zOk e (9, L, 0)) {s0 : Int} {α : Type} {F : Int → Option α} {Gr : Int → α} {u : α} (hf : zbr (zlp (fX5_firstStored_l2 L I) 5000 s0) F Gr = some u) (kx : ∀ x, F x = some u → zW X T mX5_firstStored 36 [] [] I) (kr : ∀ z, Gr z = u → T = (some (vi z), I)) : zW X T mX5_firstStored 2 [(0, .ref (zad X (9, L, 0))), (1, vi s0)] [] I := by
  have hb := zlp_W (body := fX5_firstStored_l2 L I) (P := fun s => zW X T mX5_firstStored 2 [(0, .ref (zad X (9, L, 0))), (1, vi s)] [] I) (E := fun x => (∀ a, x = .inl a → zW X T mX5_firstStored 36 [] [] I) ∧ ∀ z, x = .inr z → T = (some (vi z), I)) (fun s u h hk hx => tX5_firstStored_l2_y hw o s h hk (fun x hu => (hx _ hu).1 x rfl) (fun z hu => (hx _ hu).2 z rfl))
  rcases zbr_inv hf with ⟨x, h, hf⟩ | ⟨z, h, hz⟩
  · exact hb _ s0 _ h ⟨fun a ea => (by cases ea; exact kx _ hf), fun z ez => (by cases ez)⟩
  · exact hb _ s0 _ h ⟨fun a ea => (by cases ea), fun z ez => (by cases ez; exact kr _ hz)⟩
set_option maxRecDepth 100000 in
theorem tX5_firstStored_0 {X : zX} {e : Nat → Prop} (hw : zWf X e) {L : Nat} (o : zOk e (9, L, 0)) {I : zMem} {u : Int} (hf : fX5_firstStored L I = some u) : zW X (some (vi u), I) mX5_firstStored 0 [(0, .ref (zad X (9, L, 0)))] [] I := by
  unfold fX5_firstStored at hf
  refine zW_iconst dX5_firstStored_0 ?_
  refine zW_istore_n (lv' := [(1, vi 0), (0, .ref (zad X (9, L, 0)))]) dX5_firstStored_1 rfl rfl ?_
  refine zW_sub [1, 0] rfl ?_
  refine tX5_firstStored_l2 hw o (s0 := 0) hf (fun x3 hf => ?_) (fun z hz => by cases hz; rfl)
  refine zW_iconst dX5_firstStored_36 ?_
  exact zS_i hw rfl dX5_firstStored_37 hf
theorem kX5_firstStored {X : zX} {e : Nat → Prop} (hw : zWf X e) {L : Nat} (o : zOk e (9, L, 0)) {I : zMem} {u : Int} (hf : fX5_firstStored L I = some u) : zCn X mX5_firstStored yX5_firstStored [.ref (zad X (9, L, 0))] I (some (vi u), I) := zCn_of (by decide +kernel) rfl rfl ⟨rfl, rfl⟩ (tX5_firstStored_0 hw.N o hf)
set_option maxRecDepth 100000 in
theorem tX5_howManyStored_b4_23 {X : zX} {e : Nat → Prop} (hw : zWf X e) {T : zT} {L : Nat} {I : zMem} {w1 : Int} {w2 : Int} (o : zOk e (9, L, 0)) {u : ((Int × Int) ⊕ (Int × Int))} (hf : fX5_howManyStored_b4_23 L I w1 w2 = some u) (hk : ∀ s', u = .inl s' → zW X T mX5_howManyStored 4 [(0, .ref (zad X (9, L, 0))), (1, vi s'.1), (2, vi s'.2)] [] I) (hx : ∀ x, u = .inr x → zW X T mX5_howManyStored 29 [(1, vi x.1)] [] I) : zW X T mX5_howManyStored 23 [(0, .ref (zad X (9, L, 0))), (1, vi w1), (2, vi w2)] [] I := by
  unfold fX5_howManyStored_b4_23 at hf
  refine zW_iinc 2 (lv' := [(2, vi (w2 + 1)), (0, .ref (zad X (9, L, 0))), (1, vi w1)]) dX5_howManyStored_23 rfl rfl rfl ?_
  refine zW_goto 4 dX5_howManyStored_26 rfl ?_
  refine zW_sub [1, 2, 0] rfl ?_
  exact hk _ (Option.some.inj hf).symm
set_option maxRecDepth 100000 in
theorem tX5_howManyStored_l4_y {X : zX} {e : Nat → Prop} (hw : zWf X e) {T : zT} {L : Nat} {I : zMem} (o : zOk e (9, L, 0)) (s : (Int × Int)) {u : ((Int × Int) ⊕ (Int × Int))} (hf : fX5_howManyStored_l4 L I s = some u) (hk : ∀ s', u = .inl s' → zW X T mX5_howManyStored 4 [(0, .ref (zad X (9, L, 0))), (1, vi s'.1), (2, vi s'.2)] [] I) (hx : ∀ x, u = .inr x → zW X T mX5_howManyStored 29 [(1, vi x.1)] [] I) : zW X T mX5_howManyStored 4 [(0, .ref (zad X (9, L, 0))), (1, vi s.1), (2, vi s.2)] [] I := by
  unfold fX5_howManyStored_l4 at hf
  refine zW_iload_n 2 dX5_howManyStored_4 rfl ?_
  refine zW_bipush dX5_howManyStored_5 rfl ?_
  refine zF_icmp_ge 29 dX5_howManyStored_7 rfl rfl (w32_lit _ rfl) hf (fun c hf => ?_) (fun c hf => ?_)
  · refine zW_sub [1] rfl ?_
    exact hx _ (Option.some.inj hf).symm
  · refine zW_aload_n 0 dX5_howManyStored_10 rfl ?_
    refine zW_getR (q' := (39, L, 0)) lk_RX5_17 (hw.1 _ o) rfl rfl (hw.2.1 _ _ _ o rfl) dX5_howManyStored_11 ?_
    refine zW_iload_n 2 dX5_howManyStored_14 rfl ?_
    obtain ⟨c1, hf⟩ := zgd hf
    refine zF_iald (hw.1 _ (zokB (r' := 39) o rfl rfl)) rfl c1 rfl dX5_howManyStored_15 ?_
    refine zW_iconst dX5_howManyStored_16 ?_
    refine zF_icmp_eq 23 dX5_howManyStored_17 rfl rfl (w32_lit _ rfl) hf (fun c hf => ?_) (fun c hf => ?_)
    · refine zW_sub [0, 1, 2] rfl ?_
      exact tX5_howManyStored_b4_23 hw o hf hk hx
    · refine zW_iinc 1 (lv' := [(1, vi (s.1 + 1)), (0, .ref (zad X (9, L, 0))), (2, vi s.2)]) dX5_howManyStored_20 rfl rfl rfl ?_
      refine zW_sub [1, 0, 2] rfl ?_
      exact tX5_howManyStored_b4_23 hw o hf hk hx
theorem tX5_howManyStored_l4 {X : zX} {e : Nat → Prop} (hw : zWf X e) {T : zT} {L : Nat} {I : zMem} (o : zOk e (9, L, 0)) {s0 : (Int × Int)} {α : Type} {F : (Int × Int) → Option α} {u : α} (hf : zb (zlp (fX5_howManyStored_l4 L I) 5000 s0) F = some u) (kx : ∀ x, F x = some u → zW X T mX5_howManyStored 29 [(1, vi x.1)] [] I) : zW X T mX5_howManyStored 4 [(0, .ref (zad X (9, L, 0))), (1, vi s0.1), (2, vi s0.2)] [] I := by
  obtain ⟨x, h, hf⟩ := zb_inv hf
  exact zlp_W (P := fun s => zW X T mX5_howManyStored 4 [(0, .ref (zad X (9, L, 0))), (1, vi s.1), (2, vi s.2)] [] I) (E := fun x => zW X T mX5_howManyStored 29 [(1, vi x.1)] [] I) (fun s u h hk hx => tX5_howManyStored_l4_y hw o s h hk hx) _ s0 x h (kx x hf)
set_option maxRecDepth 100000 in
theorem tX5_howManyStored_0 {X : zX} {e : Nat → Prop} (hw : zWf X e) {L : Nat} (o : zOk e (9, L, 0)) {I : zMem} {u : Int} (hf : fX5_howManyStored L I = some u) : zW X (some (vi u), I) mX5_howManyStored 0 [(0, .ref (zad X (9, L, 0)))] [] I := by
  unfold fX5_howManyStored at hf
  refine zW_iconst dX5_howManyStored_0 ?_
  refine zW_istore_n (lv' := [(1, vi 0), (0, .ref (zad X (9, L, 0)))]) dX5_howManyStored_1 rfl rfl ?_
  refine zW_iconst dX5_howManyStored_2 ?_
  refine zW_istore_n (lv' := [(2, vi 0), (1, vi 0), (0, .ref (zad X (9, L, 0)))]) dX5_howManyStored_3 rfl rfl ?_
  refine zW_sub [2, 1, 0] rfl ?_
  refine tX5_howManyStored_l4 hw o (s0 := (0, 0)) hf (fun x2 hf => ?_)
  refine zW_iload_n 0 dX5_howManyStored_29 rfl ?_
  exact zS_i hw rfl dX5_howManyStored_30 hf
theorem kX5_howManyStored {X : zX} {e : Nat → Prop} (hw : zWf X e) {L : Nat} (o : zOk e (9, L, 0)) {I : zMem} {u : Int} (hf : fX5_howManyStored L I = some u) : zCn X mX5_howManyStored yX5_howManyStored [.ref (zad X (9, L, 0))] I (some (vi u), I) := zCn_of (by decide +kernel) rfl rfl ⟨rfl, rfl⟩ (tX5_howManyStored_0 hw.N o hf)
set_option maxRecDepth 100000 in
theorem tX5_readyBehindExpected_l2_y {X : zX} {e : Nat → Prop} (hw : zWf X e) {T : zT} {L : Nat} {I : zMem} (o : zOk e (9, L, 0)) (s : Int) {u : (Int ⊕ Int)} (hf : fX5_readyBehindExpected_l2 L I s = some u) (hk : ∀ s', u = .inl s' → zW X T mX5_readyBehindExpected 2 [(0, .ref (zad X (9, L, 0))), (1, vi s')] [] I) (hx : ∀ x, u = .inr x → zW X T mX5_readyBehindExpected 34 [(1, vi x)] [] I) : zW X T mX5_readyBehindExpected 2 [(0, .ref (zad X (9, L, 0))), (1, vi s)] [] I := by
  unfold fX5_readyBehindExpected_l2 at hf
  refine zW_iload_n 1 dX5_readyBehindExpected_2 rfl ?_
  refine zW_bipush dX5_readyBehindExpected_3 rfl ?_
  refine zF_icmp_ge 34 dX5_readyBehindExpected_5 rfl rfl (w32_lit _ rfl) hf (fun c hf => ?_) (fun c hf => ?_)
  · refine zW_sub [1] rfl ?_
    exact hx _ (Option.some.inj hf).symm
  · refine zW_aload_n 0 dX5_readyBehindExpected_8 rfl ?_
    refine zW_getR (q' := (39, L, 0)) lk_RX5_17 (hw.1 _ o) rfl rfl (hw.2.1 _ _ _ o rfl) dX5_readyBehindExpected_9 ?_
    refine zW_aload_n 0 dX5_readyBehindExpected_12 rfl ?_
    refine zW_getI lk_RX5_35 (hw.1 _ o) rfl rfl dX5_readyBehindExpected_13 ?_
    refine zW_iconst dX5_readyBehindExpected_16 ?_
    refine zW_iadd dX5_readyBehindExpected_17 ?_
    refine zW_iload_n 1 dX5_readyBehindExpected_18 rfl ?_
    refine zW_iadd dX5_readyBehindExpected_19 ?_
    refine zW_bipush dX5_readyBehindExpected_20 rfl ?_
    refine zW_iand_7 dX5_readyBehindExpected_22 ?_
    obtain ⟨c1, hf⟩ := zgd hf
    refine zF_iald (hw.1 _ (zokB (r' := 39) o rfl rfl)) rfl c1 rfl dX5_readyBehindExpected_23 ?_
    refine zW_iconst dX5_readyBehindExpected_24 ?_
    refine zF_icmp_eq 34 dX5_readyBehindExpected_25 rfl rfl (w32_lit _ rfl) hf (fun c hf => ?_) (fun c hf => ?_)
    · refine zW_sub [1] rfl ?_
      exact hx _ (Option.some.inj hf).symm
    · refine zW_iinc 1 (lv' := [(1, vi (s + 1)), (0, .ref (zad X (9, L, 0)))]) dX5_readyBehindExpected_28 rfl rfl rfl ?_
      refine zW_goto 2 dX5_readyBehindExpected_31 rfl ?_
      refine zW_sub [1, 0] rfl ?_
      exact hk _ (Option.some.inj hf).symm
theorem tX5_readyBehindExpected_l2 {X : zX} {e : Nat → Prop} (hw : zWf X e) {T : zT} {L : Nat} {I : zMem} (o : zOk e (9, L, 0)) {s0 : Int} {α : Type} {F : Int → Option α} {u : α} (hf : zb (zlp (fX5_readyBehindExpected_l2 L I) 5000 s0) F = some u) (kx : ∀ x, F x = some u → zW X T mX5_readyBehindExpected 34 [(1, vi x)] [] I) : zW X T mX5_readyBehindExpected 2 [(0, .ref (zad X (9, L, 0))), (1, vi s0)] [] I := by
  obtain ⟨x, h, hf⟩ := zb_inv hf
  exact zlp_W (P := fun s => zW X T mX5_readyBehindExpected 2 [(0, .ref (zad X (9, L, 0))), (1, vi s)] [] I) (E := fun x => zW X T mX5_readyBehindExpected 34 [(1, vi x)] [] I) (fun s u h hk hx => tX5_readyBehindExpected_l2_y hw o s h hk hx) _ s0 x h (kx x hf)
set_option maxRecDepth 100000 in
theorem tX5_readyBehindExpected_0 {X : zX} {e : Nat → Prop} (hw : zWf X e) {L : Nat} (o : zOk e (9, L, 0)) {I : zMem} {u : Int} (hf : fX5_readyBehindExpected L I = some u) : zW X (some (vi u), I) mX5_readyBehindExpected 0 [(0, .ref (zad X (9, L, 0)))] [] I := by
  unfold fX5_readyBehindExpected at hf
  refine zW_iconst dX5_readyBehindExpected_0 ?_
  refine zW_istore_n (lv' := [(1, vi 0), (0, .ref (zad X (9, L, 0)))]) dX5_readyBehindExpected_1 rfl rfl ?_
  refine zW_sub [1, 0] rfl ?_
  refine tX5_readyBehindExpected_l2 hw o (s0 := 0) hf (fun x2 hf => ?_)
  refine zW_iload_n 0 dX5_readyBehindExpected_34 rfl ?_
  exact zS_i hw rfl dX5_readyBehindExpected_35 hf
theorem kX5_readyBehindExpected {X : zX} {e : Nat → Prop} (hw : zWf X e) {L : Nat} (o : zOk e (9, L, 0)) {I : zMem} {u : Int} (hf : fX5_readyBehindExpected L I = some u) : zCn X mX5_readyBehindExpected yX5_readyBehindExpected [.ref (zad X (9, L, 0))] I (some (vi u), I) := zCn_of (by decide +kernel) rfl rfl ⟨rfl, rfl⟩ (tX5_readyBehindExpected_0 hw.N o hf)
set_option maxRecDepth 100000 in
theorem tX5_givenAgo_0 {X : zX} {e : Nat → Prop} (hw : zWf X e) {L : Nat} {v1 : Int} (o : zOk e (9, L, 0)) {I : zMem} {u : Int} (hf : fX5_givenAgo L v1 I = some u) : zW X (some (vi u), I) mX5_givenAgo 0 [(0, .ref (zad X (9, L, 0))), (1, vi v1)] [] I := by
  unfold fX5_givenAgo at hf
  refine zW_iload_n 1 dX5_givenAgo_0 rfl ?_
  refine zF_if_lt 19 dX5_givenAgo_1 rfl rfl hf (fun c hf => ?_) (fun c hf => ?_)
  · refine zW_iconst dX5_givenAgo_19 ?_
    exact zS_i hw rfl dX5_givenAgo_20 hf
  · refine zW_iload_n 1 dX5_givenAgo_4 rfl ?_
    refine zW_aload_n 0 dX5_givenAgo_5 rfl ?_
    refine zW_getI lk_RX5_45 (hw.1 _ o) rfl rfl dX5_givenAgo_6 ?_
    refine zF_icmp_ge 19 dX5_givenAgo_9 rfl rfl rfl hf (fun c hf => ?_) (fun c hf => ?_)
    · refine zW_iconst dX5_givenAgo_19 ?_
      exact zS_i hw rfl dX5_givenAgo_20 hf
    · refine zW_iload_n 1 dX5_givenAgo_12 rfl ?_
      refine zW_sipush dX5_givenAgo_13 rfl ?_
      refine zF_icmp_lt 21 dX5_givenAgo_16 rfl rfl (w32_lit _ rfl) hf (fun c hf => ?_) (fun c hf => ?_)
      · refine zW_aload_n 0 dX5_givenAgo_21 rfl ?_
        refine zW_getR (q' := (40, L, 0)) lk_RX5_21 (hw.1 _ o) rfl rfl (hw.2.1 _ _ _ o rfl) dX5_givenAgo_22 ?_
        refine zW_aload_n 0 dX5_givenAgo_25 rfl ?_
        refine zW_getI lk_RX5_45 (hw.1 _ o) rfl rfl dX5_givenAgo_26 ?_
        refine zW_iconst dX5_givenAgo_29 ?_
        refine zW_isub dX5_givenAgo_30 ?_
        refine zW_iload_n 1 dX5_givenAgo_31 rfl ?_
        refine zW_isub dX5_givenAgo_32 ?_
        refine zW_sipush dX5_givenAgo_33 rfl ?_
        refine zW_iand_255 dX5_givenAgo_36 ?_
        obtain ⟨c1, hf⟩ := zgd hf
        refine zF_iald (hw.1 _ (zokB (r' := 40) o rfl rfl)) rfl c1 rfl dX5_givenAgo_37 ?_
        exact zS_i hw rfl dX5_givenAgo_38 hf
      · refine zW_iconst dX5_givenAgo_19 ?_
        exact zS_i hw rfl dX5_givenAgo_20 hf
theorem kX5_givenAgo {X : zX} {e : Nat → Prop} (hw : zWf X e) {L : Nat} {v1 : Int} (o : zOk e (9, L, 0)) {I : zMem} {u : Int} (hf : fX5_givenAgo L v1 I = some u) : zCn X mX5_givenAgo yX5_givenAgo [.ref (zad X (9, L, 0)), vi v1] I (some (vi u), I) := zCn_of (by decide +kernel) rfl rfl ⟨rfl, rfl⟩ (tX5_givenAgo_0 hw.N o hf)
set_option maxRecDepth 100000 in
theorem tX5_tell_0 {X : zX} {e : Nat → Prop} (hw : zWf X e) {L : Nat} {v1 : Int} (o : zOk e (9, L, 0)) {I : zMem} {u : Int} (hf : fX5_tell L v1 I = some u) : zW X (some (vi u), I) mX5_tell 0 [(0, .ref (zad X (9, L, 0))), (1, vi v1)] [] I := by
  unfold fX5_tell at hf
  refine zW_iload_n 1 dX5_tell_0 rfl ?_
  rcases zif hf with ⟨ts0, hf⟩ | ⟨ts0, hf⟩
  · refine zW_tab 0 60 dX5_tell_1 (by rw [ts0]; rfl) rfl rfl rfl ?_
    refine zW_aload_n 0 dX5_tell_60 rfl ?_
    refine zW_getI lk_RX5_35 (hw.1 _ o) rfl rfl dX5_tell_61 ?_
    exact zS_i hw rfl dX5_tell_64 hf
  · rcases zif hf with ⟨ts1, hf⟩ | ⟨ts1, hf⟩
    · refine zW_tab 1 65 dX5_tell_1 (by rw [ts1]; rfl) rfl rfl rfl ?_
      refine zW_aload_n 0 dX5_tell_65 rfl ?_
      refine zC_Vri (As := []) (fun x hx => kX5_howManyStored hw (L := L) o hx) mv_RX5_84 (hw.1 _ o) rfl rfl rfl rfl rfl dX5_tell_66 hf (fun r1 hf => ?_)
      exact zS_i hw rfl dX5_tell_69 hf
    · rcases zif hf with ⟨ts2, hf⟩ | ⟨ts2, hf⟩
      · refine zW_tab 2 70 dX5_tell_1 (by rw [ts2]; rfl) rfl rfl rfl ?_
        refine zW_aload_n 0 dX5_tell_70 rfl ?_
        refine zW_getI lk_RX5_39 (hw.1 _ o) rfl rfl dX5_tell_71 ?_
        refine zF_if_le 84 dX5_tell_74 rfl rfl hf (fun c hf => ?_) (fun c hf => ?_)
        · refine zW_iconst dX5_tell_84 ?_
          exact zS_i hw rfl dX5_tell_85 hf
        · refine zW_aload_n 0 dX5_tell_77 rfl ?_
          refine zW_getI lk_RX5_39 (hw.1 _ o) rfl rfl dX5_tell_78 ?_
          refine zW_goto 85 dX5_tell_81 rfl ?_
          exact zS_i hw rfl dX5_tell_85 hf
      · rcases zif hf with ⟨ts3, hf⟩ | ⟨ts3, hf⟩
        · refine zW_tab 3 86 dX5_tell_1 (by rw [ts3]; rfl) rfl rfl rfl ?_
          refine zW_aload_n 0 dX5_tell_86 rfl ?_
          refine zW_getI lk_RX5_39 (hw.1 _ o) rfl rfl dX5_tell_87 ?_
          refine zF_if_le 108 dX5_tell_90 rfl rfl hf (fun c hf => ?_) (fun c hf => ?_)
          · refine zW_iconst dX5_tell_108 ?_
            exact zS_i hw rfl dX5_tell_109 hf
          · refine zW_aload_n 0 dX5_tell_93 rfl ?_
            refine zW_getI lk_RX5_35 (hw.1 _ o) rfl rfl dX5_tell_94 ?_
            refine zW_aload_n 0 dX5_tell_97 rfl ?_
            refine zW_getI lk_RX5_42 (hw.1 _ o) rfl rfl dX5_tell_98 ?_
            refine zW_iadd dX5_tell_101 ?_
            refine zW_bipush dX5_tell_102 rfl ?_
            refine zW_iand_7 dX5_tell_104 ?_
            refine zW_goto 109 dX5_tell_105 rfl ?_
            exact zS_i hw rfl dX5_tell_109 hf
        · rcases zif hf with ⟨ts4, hf⟩ | ⟨ts4, hf⟩
          · refine zW_tab 4 110 dX5_tell_1 (by rw [ts4]; rfl) rfl rfl rfl ?_
            refine zW_aload_n 0 dX5_tell_110 rfl ?_
            refine zW_getI lk_RX5_45 (hw.1 _ o) rfl rfl dX5_tell_111 ?_
            exact zS_i hw rfl dX5_tell_114 hf
          · rcases zif hf with ⟨ts5, hf⟩ | ⟨ts5, hf⟩
            · refine zW_tab 5 115 dX5_tell_1 (by rw [ts5]; rfl) rfl rfl rfl ?_
              refine zW_aload_n 0 dX5_tell_115 rfl ?_
              refine zW_getI lk_RX5_48 (hw.1 _ o) rfl rfl dX5_tell_116 ?_
              exact zS_i hw rfl dX5_tell_119 hf
            · rcases zif hf with ⟨ts6, hf⟩ | ⟨ts6, hf⟩
              · refine zW_tab 6 120 dX5_tell_1 (by rw [ts6]; rfl) rfl rfl rfl ?_
                refine zW_aload_n 0 dX5_tell_120 rfl ?_
                refine zW_getI lk_RX5_51 (hw.1 _ o) rfl rfl dX5_tell_121 ?_
                exact zS_i hw rfl dX5_tell_124 hf
              · rcases zif hf with ⟨ts7, hf⟩ | ⟨ts7, hf⟩
                · refine zW_tab 7 125 dX5_tell_1 (by rw [ts7]; rfl) rfl rfl rfl ?_
                  refine zW_aload_n 0 dX5_tell_125 rfl ?_
                  refine zW_getI lk_RX5_54 (hw.1 _ o) rfl rfl dX5_tell_126 ?_
                  exact zS_i hw rfl dX5_tell_129 hf
                · rcases zif hf with ⟨ts8, hf⟩ | ⟨ts8, hf⟩
                  · refine zW_tab 10 130 dX5_tell_1 (by rw [ts8]; rfl) rfl rfl rfl ?_
                    refine zW_aload_n 0 dX5_tell_130 rfl ?_
                    refine zW_getI lk_RX5_57 (hw.1 _ o) rfl rfl dX5_tell_131 ?_
                    exact zS_i hw rfl dX5_tell_134 hf
                  · by_cases g8 : w32 v1 = 12
                    · refine zW_tab 8 135 dX5_tell_1 (by rw [g8]; rfl) rfl rfl rfl ?_
                      refine zW_iconst dX5_tell_135 ?_
                      exact zS_i hw rfl dX5_tell_136 hf
                    by_cases g9 : w32 v1 = 13
                    · refine zW_tab 9 135 dX5_tell_1 (by rw [g9]; rfl) rfl rfl rfl ?_
                      refine zW_iconst dX5_tell_135 ?_
                      exact zS_i hw rfl dX5_tell_136 hf
                    refine zW_tabd 135 dX5_tell_1 (by omega) rfl ?_
                    refine zW_iconst dX5_tell_135 ?_
                    exact zS_i hw rfl dX5_tell_136 hf
theorem kX5_tell {X : zX} {e : Nat → Prop} (hw : zWf X e) {L : Nat} {v1 : Int} (o : zOk e (9, L, 0)) {I : zMem} {u : Int} (hf : fX5_tell L v1 I = some u) : zCn X mX5_tell yX5_tell [.ref (zad X (9, L, 0)), vi v1] I (some (vi u), I) := zCn_of (by decide +kernel) rfl rfl ⟨rfl, rfl⟩ (tX5_tell_0 hw.N o hf)
set_option maxRecDepth 100000 in
theorem tX6_bitAtPlace_b32 {X : zX} {e : Nat → Prop} (hw : zWf X e) {v0 : Int} {I : zMem} {w1 : Int} {k0 : Int}  {u : Int} (hf : fX6_bitAtPlace_b32 v0 I w1 k0 = some u) : zW X (some (vi u), I) mX6_bitAtPlace 32 [(1, vi w1)] [vi k0] I := by
  unfold fX6_bitAtPlace_b32 at hf
  refine zW_istore_n (lv' := [(2, vi k0), (1, vi w1)]) dX6_bitAtPlace_32 rfl rfl ?_
  refine zW_iconst dX6_bitAtPlace_33 ?_
  refine zW_iload_n 0 dX6_bitAtPlace_34 rfl ?_
  refine zW_iconst dX6_bitAtPlace_35 ?_
  refine zW_iand_3 dX6_bitAtPlace_36 ?_
  refine zW_imul dX6_bitAtPlace_37 ?_
  refine zW_getc rfl rfl dX6_bitAtPlace_38 ?_
  refine zW_iload_n 0 dX6_bitAtPlace_41 rfl ?_
  refine zW_iconst dX6_bitAtPlace_42 ?_
  refine zW_ishr dX6_bitAtPlace_43 ?_
  refine zW_iconst dX6_bitAtPlace_44 ?_
  refine zW_iand_3 dX6_bitAtPlace_45 ?_
  obtain ⟨c1, hf⟩ := zgd hf
  refine zW_cald c1 dX6_bitAtPlace_46 ?_
  refine zW_iadd dX6_bitAtPlace_47 ?_
  refine zF_istore_n (lv' := fun a2 => [(3, vi a2), (2, vi k0), (1, vi w1)]) dX6_bitAtPlace_48 hf (fun _ => rfl) rfl (fun a2 hf => ?_)
  refine zW_iload_n 0 dX6_bitAtPlace_49 rfl ?_
  refine zW_iconst dX6_bitAtPlace_50 ?_
  refine zF_icmp_ge 58 dX6_bitAtPlace_51 rfl rfl (w32_lit _ rfl) hf (fun c hf => ?_) (fun c hf => ?_)
  · refine zW_bipush dX6_bitAtPlace_58 rfl ?_
    refine zW_iload_n 2 dX6_bitAtPlace_60 rfl ?_
    refine zW_imul dX6_bitAtPlace_61 ?_
    refine zW_iload_n 0 dX6_bitAtPlace_62 rfl ?_
    refine zW_iadd dX6_bitAtPlace_63 ?_
    refine zW_iconst dX6_bitAtPlace_64 ?_
    refine zW_isub dX6_bitAtPlace_65 ?_
    exact zS_i hw rfl dX6_bitAtPlace_66 hf
  · refine zW_iconst dX6_bitAtPlace_54 ?_
    refine zW_goto 66 dX6_bitAtPlace_55 rfl ?_
    exact zS_i hw rfl dX6_bitAtPlace_66 hf
set_option maxRecDepth 100000 in
theorem tX6_bitAtPlace_b15 {X : zX} {e : Nat → Prop} (hw : zWf X e) {v0 : Int} {I : zMem} {k0 : Int}  {u : Int} (hf : fX6_bitAtPlace_b15 v0 I k0 = some u) : zW X (some (vi u), I) mX6_bitAtPlace 15 [(0, vi v0)] [vi k0] I := by
  unfold fX6_bitAtPlace_b15 at hf
  refine zW_istore_n (lv' := [(1, vi k0), (0, vi v0)]) dX6_bitAtPlace_15 rfl rfl ?_
  refine zW_iload_n 1 dX6_bitAtPlace_16 rfl ?_
  refine zW_bipush dX6_bitAtPlace_17 rfl ?_
  refine zF_icmp_ge 26 dX6_bitAtPlace_19 rfl rfl (w32_lit _ rfl) hf (fun c hf => ?_) (fun c hf => ?_)
  · refine zW_iload_n 1 dX6_bitAtPlace_26 rfl ?_
    refine zW_bipush dX6_bitAtPlace_27 rfl ?_
    refine zW_isub dX6_bitAtPlace_29 ?_
    refine zW_iconst dX6_bitAtPlace_30 ?_
    refine zW_ishr dX6_bitAtPlace_31 ?_
    refine zW_sub [0] rfl ?_
    exact tX6_bitAtPlace_b32 hw  hf
  · refine zW_iload_n 1 dX6_bitAtPlace_22 rfl ?_
    refine zW_goto 32 dX6_bitAtPlace_23 rfl ?_
    refine zW_sub [0] rfl ?_
    exact tX6_bitAtPlace_b32 hw  hf
set_option maxRecDepth 100000 in
theorem tX6_bitAtPlace_0 {X : zX} {e : Nat → Prop} (hw : zWf X e) {v0 : Int}  {I : zMem} {u : Int} (hf : fX6_bitAtPlace v0 I = some u) : zW X (some (vi u), I) mX6_bitAtPlace 0 [(0, vi v0)] [] I := by
  unfold fX6_bitAtPlace at hf
  refine zW_iload_n 0 dX6_bitAtPlace_0 rfl ?_
  refine zW_bipush dX6_bitAtPlace_1 rfl ?_
  refine zF_icmp_ge 10 dX6_bitAtPlace_3 rfl rfl (w32_lit _ rfl) hf (fun c hf => ?_) (fun c hf => ?_)
  · refine zW_iconst dX6_bitAtPlace_10 ?_
    refine zW_iload_n 0 dX6_bitAtPlace_11 rfl ?_
    refine zW_iconst dX6_bitAtPlace_12 ?_
    refine zW_iand_1 dX6_bitAtPlace_13 ?_
    refine zW_iadd dX6_bitAtPlace_14 ?_
    refine zW_sub [0] rfl ?_
    exact tX6_bitAtPlace_b15 hw  hf
  · refine zW_iconst dX6_bitAtPlace_6 ?_
    refine zW_goto 15 dX6_bitAtPlace_7 rfl ?_
    refine zW_sub [0] rfl ?_
    exact tX6_bitAtPlace_b15 hw  hf
theorem kX6_bitAtPlace {X : zX} {e : Nat → Prop} (hw : zWf X e) {v0 : Int}  {I : zMem} {u : Int} (hf : fX6_bitAtPlace v0 I = some u) : zCn X mX6_bitAtPlace yX6_bitAtPlace [vi v0] I (some (vi u), I) := zCn_of (by decide +kernel) rfl rfl ⟨rfl, rfl⟩ (tX6_bitAtPlace_0 hw.N  hf)
set_option maxRecDepth 100000 in
theorem tX9_isMissing_0 {X : zX} {e : Nat → Prop} (hw : zWf X e) {v1 : Int} (o : zOk e (6, 0, 0)) {I : zMem} {u : Int} (hf : fX9_isMissing v1 I = some u) : zW X (some (vi u), I) mX9_isMissing 0 [(0, .ref (zad X (6, 0, 0))), (1, vi v1)] [] I := by
  unfold fX9_isMissing at hf
  refine zW_aload_n 0 dX9_isMissing_0 rfl ?_
  refine zW_getR (q' := (31, 0, 0)) lk_RX9_16 (hw.1 _ o) rfl rfl (hw.2.1 _ _ _ o rfl) dX9_isMissing_1 ?_
  refine zW_iload_n 1 dX9_isMissing_4 rfl ?_
  obtain ⟨c1, hf⟩ := zgd hf
  refine zF_iald (hw.1 _ (zokA (r' := 31) o rfl rfl)) rfl c1 rfl dX9_isMissing_5 ?_
  refine zW_iconst dX9_isMissing_6 ?_
  refine zF_icmp_ne 14 dX9_isMissing_7 rfl rfl (w32_lit _ rfl) hf (fun c hf => ?_) (fun c hf => ?_)
  · refine zW_iconst dX9_isMissing_10 ?_
    refine zW_goto 15 dX9_isMissing_11 rfl ?_
    exact zS_z hw rfl (Or.inr rfl) dX9_isMissing_15 hf
  · refine zW_iconst dX9_isMissing_14 ?_
    exact zS_z hw rfl (Or.inl rfl) dX9_isMissing_15 hf
theorem kX9_isMissing {X : zX} {e : Nat → Prop} (hw : zWf X e) {v1 : Int} (o : zOk e (6, 0, 0)) {I : zMem} {u : Int} (hf : fX9_isMissing v1 I = some u) : zCn X mX9_isMissing yX9_isMissing [.ref (zad X (6, 0, 0)), vi v1] I (some (vi u), I) := zCn_of (by decide +kernel) rfl rfl ⟨rfl, rfl⟩ (tX9_isMissing_0 hw.N o hf)
set_option maxRecDepth 100000 in
theorem tJ7_fill_d0a16_l6_y {X : zX} {e : Nat → Prop} (hw : zWf X e) {T : zT} {q0 : zPl} {n0 : Nat} {v1 : Int} {w4 : Int} (hq0 : zDom X q0) (hk0 : zkd q0.1 = (15, n0)) (s : (Int × zMem)) {u : ((Int × zMem) ⊕ (Int × zMem))} (hf : fJ7_fill_d0a16_l6 q0 n0 v1 w4 s = some u) (hk : ∀ s', u = .inl s' → zW X T mJ7_fill_d0a16 6 [(0, .ref (zad X q0)), (1, vl v1), (3, vi s'.1), (4, vi w4)] [] s'.2) (hx : ∀ x, u = .inr x → zW X T mJ7_fill_d0a16 22 [] [] x.2) : zW X T mJ7_fill_d0a16 6 [(0, .ref (zad X q0)), (1, vl v1), (3, vi s.1), (4, vi w4)] [] s.2 := by
  unfold fJ7_fill_d0a16_l6 at hf
  refine zW_iload_n 2 dJ7_fill_d0a16_6 rfl ?_
  refine zW_iload 3 dJ7_fill_d0a16_7 rfl ?_
  refine zF_icmp_ge 22 dJ7_fill_d0a16_9 rfl rfl rfl hf (fun c hf => ?_) (fun c hf => ?_)
  · refine zW_sub [] rfl ?_
    exact hx _ (Option.some.inj hf).symm
  · refine zW_aload_n 0 dJ7_fill_d0a16_12 rfl ?_
    refine zW_iload_n 2 dJ7_fill_d0a16_13 rfl ?_
    refine zW_lload_n 1 dJ7_fill_d0a16_14 rfl ?_
    obtain ⟨c2, hf⟩ := zgd hf
    refine zF_last hq0 hk0 c2 rfl dJ7_fill_d0a16_15 hf (fun I3 hf => ?_)
    refine zW_iinc 2 (lv' := [(3, vi (s.1 + 1)), (0, .ref (zad X q0)), (1, vl v1), (4, vi w4)]) dJ7_fill_d0a16_16 rfl rfl rfl ?_
    refine zW_goto 6 dJ7_fill_d0a16_19 rfl ?_
    refine zW_sub [1, 2, 0, 3] rfl ?_
    exact hk _ (Option.some.inj hf).symm
theorem tJ7_fill_d0a16_l6 {X : zX} {e : Nat → Prop} (hw : zWf X e) {T : zT} {q0 : zPl} {n0 : Nat} {v1 : Int} {w4 : Int} (hq0 : zDom X q0) (hk0 : zkd q0.1 = (15, n0)) {s0 : (Int × zMem)} {α : Type} {F : (Int × zMem) → Option α} {u : α} (hf : zb (zlp (fJ7_fill_d0a16_l6 q0 n0 v1 w4) 5000 s0) F = some u) (kx : ∀ x, F x = some u → zW X T mJ7_fill_d0a16 22 [] [] x.2) : zW X T mJ7_fill_d0a16 6 [(0, .ref (zad X q0)), (1, vl v1), (3, vi s0.1), (4, vi w4)] [] s0.2 := by
  obtain ⟨x, h, hf⟩ := zb_inv hf
  exact zlp_W (P := fun s => zW X T mJ7_fill_d0a16 6 [(0, .ref (zad X q0)), (1, vl v1), (3, vi s.1), (4, vi w4)] [] s.2) (E := fun x => zW X T mJ7_fill_d0a16 22 [] [] x.2) (fun s u h hk hx => tJ7_fill_d0a16_l6_y hw hq0 hk0 s h hk hx) _ s0 x h (kx x hf)
set_option maxRecDepth 100000 in
theorem tJ7_fill_d0a16_0 {X : zX} {e : Nat → Prop} (hw : zWf X e) {q0 : zPl} {n0 : Nat} {v1 : Int} (hq0 : zDom X q0) (hk0 : zkd q0.1 = (15, n0)) {I : zMem} {u : zMem} (hf : fJ7_fill_d0a16 q0 n0 v1 I = some u) : zW X (none, u) mJ7_fill_d0a16 0 [(0, .ref (zad X q0)), (1, vl v1)] [] I := by
  unfold fJ7_fill_d0a16 at hf
  refine zW_iconst dJ7_fill_d0a16_0 ?_
  refine zW_istore_n (lv' := [(3, vi 0), (0, .ref (zad X q0)), (1, vl v1)]) dJ7_fill_d0a16_1 rfl rfl ?_
  refine zW_aload_n 1 dJ7_fill_d0a16_2 rfl ?_
  refine zW_alen 2 rfl hq0 hk0 rfl dJ7_fill_d0a16_3 ?_
  refine zF_istore (lv' := fun a1 => [(4, vi a1), (3, vi 0), (0, .ref (zad X q0)), (1, vl v1)]) dJ7_fill_d0a16_4 hf (fun _ => rfl) rfl (fun a1 hf => ?_)
  refine zW_sub [2, 3, 1, 0] rfl ?_
  refine tJ7_fill_d0a16_l6 hw hq0 hk0 (s0 := (0, I)) hf (fun x4 hf => ?_)
  exact zR_v hw rfl dJ7_fill_d0a16_22 hf
theorem kJ7_fill_d0a16 {X : zX} {e : Nat → Prop} (hw : zWf X e) {q0 : zPl} {n0 : Nat} {v1 : Int} (hq0 : zDom X q0) (hk0 : zkd q0.1 = (15, n0)) {I : zMem} {u : zMem} (hf : fJ7_fill_d0a16 q0 n0 v1 I = some u) : zCn X mJ7_fill_d0a16 yJ7_fill_d0a16 [.ref (zad X q0), vl v1] I (none, u) := zCn_of (by decide +kernel) rfl rfl ⟨rfl, rfl⟩ (tJ7_fill_d0a16_0 hw.N hq0 hk0 hf)
set_option maxRecDepth 100000 in
theorem tX10_take_b23_66 {X : zX} {e : Nat → Prop} (hw : zWf X e) {T : zT} {q1 : zPl} {w2 : Int} {w3 : Int} {I : zMem} (o : zOk e (3, 0, 0)) (hq1 : zDom X q1) (hk1 : zkd q1.1 = (14, 39)) {u : ((Int × zMem) ⊕ (Int × zMem))} (hf : fX10_take_b23_66 q1 w2 w3 I = some u) (hk : ∀ s', u = .inl s' → zW X T mX10_take 23 [(0, .ref (zad X (3, 0, 0))), (1, .ref (zad X q1)), (2, vi w2), (3, vi s'.1)] [] s'.2) (hx : ∀ x, u = .inr x → zW X T mX10_take 72 [(0, .ref (zad X (3, 0, 0))), (1, .ref (zad X q1)), (2, vi w2)] [] x.2) : zW X T mX10_take 66 [(0, .ref (zad X (3, 0, 0))), (1, .ref (zad X q1)), (2, vi w2), (3, vi w3)] [] I := by
  unfold fX10_take_b23_66 at hf
  refine zW_iinc 3 (lv' := [(3, vi (w3 + 1)), (0, .ref (zad X (3, 0, 0))), (1, .ref (zad X q1)), (2, vi w2)]) dX10_take_66 rfl rfl rfl ?_
  refine zW_goto 23 dX10_take_69 rfl ?_
  refine zW_sub [1, 2, 3, 0] rfl ?_
  exact hk _ (Option.some.inj hf).symm
set_option maxRecDepth 100000 in
theorem tX10_take_l23_y {X : zX} {e : Nat → Prop} (hw : zWf X e) {T : zT} {q1 : zPl} {w2 : Int} (o : zOk e (3, 0, 0)) (hq1 : zDom X q1) (hk1 : zkd q1.1 = (14, 39)) (s : (Int × zMem)) {u : ((Int × zMem) ⊕ (Int × zMem))} (hf : fX10_take_l23 q1 w2 s = some u) (hk : ∀ s', u = .inl s' → zW X T mX10_take 23 [(0, .ref (zad X (3, 0, 0))), (1, .ref (zad X q1)), (2, vi w2), (3, vi s'.1)] [] s'.2) (hx : ∀ x, u = .inr x → zW X T mX10_take 72 [(0, .ref (zad X (3, 0, 0))), (1, .ref (zad X q1)), (2, vi w2)] [] x.2) : zW X T mX10_take 23 [(0, .ref (zad X (3, 0, 0))), (1, .ref (zad X q1)), (2, vi w2), (3, vi s.1)] [] s.2 := by
  unfold fX10_take_l23 at hf
  refine zW_iload_n 3 dX10_take_23 rfl ?_
  refine zW_bipush dX10_take_24 rfl ?_
  refine zF_icmp_ge 72 dX10_take_26 rfl rfl (w32_lit _ rfl) hf (fun c hf => ?_) (fun c hf => ?_)
  · refine zW_sub [0, 1, 2] rfl ?_
    exact hx _ (Option.some.inj hf).symm
  · refine zW_aload_n 1 dX10_take_29 rfl ?_
    refine zW_iload_n 2 dX10_take_30 rfl ?_
    obtain ⟨c3, hf⟩ := zgd hf
    refine zF_iald hq1 hk1 c3 rfl dX10_take_31 ?_
    refine zW_iload_n 3 dX10_take_32 rfl ?_
    refine zW_ishr dX10_take_33 ?_
    refine zW_iconst dX10_take_34 ?_
    refine zW_iand_1 dX10_take_35 ?_
    refine zW_iconst dX10_take_36 ?_
    refine zF_icmp_ne 66 dX10_take_37 rfl (w32_emod _ _ rfl) (w32_lit _ rfl) hf (fun c hf => ?_) (fun c hf => ?_)
    · refine zW_aload_n 0 dX10_take_40 rfl ?_
      refine zW_getR (q' := (21, 0, 0)) lk_RX10_11 (hw.1 _ o) rfl rfl (hw.2.1 _ _ _ o rfl) dX10_take_41 ?_
      refine zW_iload_n 3 dX10_take_44 rfl ?_
      refine zW_dup2 dX10_take_45 rfl rfl ?_
      obtain ⟨c4, hf⟩ := zgd hf
      refine zF_lald (hw.1 _ (zokA (r' := 21) o rfl rfl)) rfl c4 rfl dX10_take_46 ?_
      refine zW_lconst1 dX10_take_47 ?_
      refine zW_iload_n 2 dX10_take_48 rfl ?_
      refine zW_lshl dX10_take_49 ?_
      refine zW_lor dX10_take_50 ?_
      refine zF_last (hw.1 _ (zokA (r' := 21) o rfl rfl)) rfl c4 rfl dX10_take_51 hf (fun I5 hf => ?_)
      refine zW_aload_n 0 dX10_take_52 rfl ?_
      refine zW_aload_n 0 dX10_take_53 rfl ?_
      refine zW_getI lk_RX10_21 (hw.1 _ o) rfl rfl dX10_take_54 ?_
      refine zW_iload_n 3 dX10_take_57 rfl ?_
      refine zW_iconst dX10_take_58 ?_
      refine zW_iadd dX10_take_59 ?_
      refine zW_max mm_RX10_25 rfl dX10_take_60 ?_
      refine zF_put lk_RX10_21 (hw.1 _ o) rfl rfl (zn_int _) dX10_take_63 hf (fun I6 hf => ?_)
      refine zW_sub [0, 1, 2, 3] rfl ?_
      exact tX10_take_b23_66 hw o hq1 hk1 hf hk hx
    · refine zW_sub [0, 1, 2, 3] rfl ?_
      exact tX10_take_b23_66 hw o hq1 hk1 hf hk hx
theorem tX10_take_l23 {X : zX} {e : Nat → Prop} (hw : zWf X e) {T : zT} {q1 : zPl} {w2 : Int} (o : zOk e (3, 0, 0)) (hq1 : zDom X q1) (hk1 : zkd q1.1 = (14, 39)) {s0 : (Int × zMem)} {α : Type} {F : (Int × zMem) → Option α} {u : α} (hf : zb (zlp (fX10_take_l23 q1 w2) 5000 s0) F = some u) (kx : ∀ x, F x = some u → zW X T mX10_take 72 [(0, .ref (zad X (3, 0, 0))), (1, .ref (zad X q1)), (2, vi w2)] [] x.2) : zW X T mX10_take 23 [(0, .ref (zad X (3, 0, 0))), (1, .ref (zad X q1)), (2, vi w2), (3, vi s0.1)] [] s0.2 := by
  obtain ⟨x, h, hf⟩ := zb_inv hf
  exact zlp_W (P := fun s => zW X T mX10_take 23 [(0, .ref (zad X (3, 0, 0))), (1, .ref (zad X q1)), (2, vi w2), (3, vi s.1)] [] s.2) (E := fun x => zW X T mX10_take 72 [(0, .ref (zad X (3, 0, 0))), (1, .ref (zad X q1)), (2, vi w2)] [] x.2) (fun s u h hk hx => tX10_take_l23_y hw o hq1 hk1 s h hk hx) _ s0 x h (kx x hf)
set_option maxRecDepth 100000 in
theorem tX10_take_l15_y {X : zX} {e : Nat → Prop} (hw : zWf X e) {T : zT} {q1 : zPl} (o : zOk e (3, 0, 0)) (hq1 : zDom X q1) (hk1 : zkd q1.1 = (14, 39)) (s : (Int × zMem)) {u : ((Int × zMem) ⊕ (Int × zMem))} (hf : fX10_take_l15 q1 s = some u) (hk : ∀ s', u = .inl s' → zW X T mX10_take 15 [(0, .ref (zad X (3, 0, 0))), (1, .ref (zad X q1)), (2, vi s'.1)] [] s'.2) (hx : ∀ x, u = .inr x → zW X T mX10_take 78 [] [] x.2) : zW X T mX10_take 15 [(0, .ref (zad X (3, 0, 0))), (1, .ref (zad X q1)), (2, vi s.1)] [] s.2 := by
  unfold fX10_take_l15 at hf
  refine zW_iload_n 2 dX10_take_15 rfl ?_
  refine zW_bipush dX10_take_16 rfl ?_
  refine zF_icmp_ge 78 dX10_take_18 rfl rfl (w32_lit _ rfl) hf (fun c hf => ?_) (fun c hf => ?_)
  · refine zW_sub [] rfl ?_
    exact hx _ (Option.some.inj hf).symm
  · refine zW_iconst dX10_take_21 ?_
    refine zW_istore_n (lv' := [(3, vi 0), (0, .ref (zad X (3, 0, 0))), (1, .ref (zad X q1)), (2, vi s.1)]) dX10_take_22 rfl rfl ?_
    refine zW_sub [1, 2, 3, 0] rfl ?_
    refine tX10_take_l23 hw o hq1 hk1 (s0 := (0, s.2)) hf (fun x7 hf => ?_)
    refine zW_iinc 2 (lv' := [(2, vi (s.1 + 1)), (0, .ref (zad X (3, 0, 0))), (1, .ref (zad X q1))]) dX10_take_72 rfl rfl rfl ?_
    refine zW_goto 15 dX10_take_75 rfl ?_
    refine zW_sub [1, 2, 0] rfl ?_
    exact hk _ (Option.some.inj hf).symm
theorem tX10_take_l15 {X : zX} {e : Nat → Prop} (hw : zWf X e) {T : zT} {q1 : zPl} (o : zOk e (3, 0, 0)) (hq1 : zDom X q1) (hk1 : zkd q1.1 = (14, 39)) {s0 : (Int × zMem)} {α : Type} {F : (Int × zMem) → Option α} {u : α} (hf : zb (zlp (fX10_take_l15 q1) 5000 s0) F = some u) (kx : ∀ x, F x = some u → zW X T mX10_take 78 [] [] x.2) : zW X T mX10_take 15 [(0, .ref (zad X (3, 0, 0))), (1, .ref (zad X q1)), (2, vi s0.1)] [] s0.2 := by
  obtain ⟨x, h, hf⟩ := zb_inv hf
  exact zlp_W (P := fun s => zW X T mX10_take 15 [(0, .ref (zad X (3, 0, 0))), (1, .ref (zad X q1)), (2, vi s.1)] [] s.2) (E := fun x => zW X T mX10_take 78 [] [] x.2) (fun s u h hk hx => tX10_take_l15_y hw o hq1 hk1 s h hk hx) _ s0 x h (kx x hf)
set_option maxRecDepth 100000 in
theorem tX10_take_0 {X : zX} {e : Nat → Prop} (hw : zWf X e) {q1 : zPl} (o : zOk e (3, 0, 0)) (hq1 : zDom X q1) (hk1 : zkd q1.1 = (14, 39)) {I : zMem} {u : zMem} (hf : fX10_take q1 I = some u) : zW X (none, u) mX10_take 0 [(0, .ref (zad X (3, 0, 0))), (1, .ref (zad X q1))] [] I := by
  unfold fX10_take at hf
  refine zW_aload_n 0 dX10_take_0 rfl ?_
  refine zW_getR (q' := (21, 0, 0)) lk_RX10_11 (hw.1 _ o) rfl rfl (hw.2.1 _ _ _ o rfl) dX10_take_1 ?_
  refine zW_lconst0 dX10_take_4 ?_
  refine zC_Swv (As := [.ref (zad X (21, 0, 0)), vl 0]) (fun x hx => kJ7_fill_d0a16 hw (q0 := (21, 0, 0)) (n0 := 6) (v1 := 0) (hw.1 _ (zokA (r' := 21) o rfl rfl)) rfl hx) ms_RX10_15 rfl rfl rfl rfl dX10_take_5 hf (fun r1 hf => ?_)
  refine zW_aload_n 0 dX10_take_8 rfl ?_
  refine zW_iconst dX10_take_9 ?_
  refine zF_put lk_RX10_21 (hw.1 _ o) rfl rfl (zn_int _) dX10_take_10 hf (fun I2 hf => ?_)
  refine zW_iconst dX10_take_13 ?_
  refine zW_istore_n (lv' := [(2, vi 0), (0, .ref (zad X (3, 0, 0))), (1, .ref (zad X q1))]) dX10_take_14 rfl rfl ?_
  refine zW_sub [1, 2, 0] rfl ?_
  refine tX10_take_l15 hw o hq1 hk1 (s0 := (0, I2)) hf (fun x8 hf => ?_)
  exact zR_v hw rfl dX10_take_78 hf
theorem kX10_take {X : zX} {e : Nat → Prop} (hw : zWf X e) {q1 : zPl} (o : zOk e (3, 0, 0)) (hq1 : zDom X q1) (hk1 : zkd q1.1 = (14, 39)) {I : zMem} {u : zMem} (hf : fX10_take q1 I = some u) : zCn X mX10_take yX10_take [.ref (zad X (3, 0, 0)), .ref (zad X q1)] I (none, u) := zCn_of (by decide +kernel) rfl rfl ⟨rfl, rfl⟩ (tX10_take_0 hw.N o hq1 hk1 hf)
set_option maxRecDepth 100000 in
theorem tJ13_bitCount_95d88_0 {X : zX} {e : Nat → Prop} (hw : zWf X e) {v0 : Int}  {I : zMem} {u : Int} (hf : fJ13_bitCount_95d88 v0 = some u) : zW X (some (vi u), I) mJ13_bitCount_95d88 0 [(0, vl v0)] [] I := by
  unfold fJ13_bitCount_95d88 at hf
  refine zW_lload_n 0 dJ13_bitCount_95d88_0 rfl ?_
  refine zW_lload_n 0 dJ13_bitCount_95d88_1 rfl ?_
  refine zW_iconst dJ13_bitCount_95d88_2 ?_
  refine zW_lushr dJ13_bitCount_95d88_3 ?_
  refine zW_ldc2 dJ13_bitCount_95d88_4 wc_RJ13_314 ?_
  refine zW_land dJ13_bitCount_95d88_7 ?_
  refine zW_lsub dJ13_bitCount_95d88_8 ?_
  refine zF_lstore_n (lv' := fun a1 => [(0, vl a1)]) dJ13_bitCount_95d88_9 hf (fun _ => rfl) rfl (fun a1 hf => ?_)
  refine zW_lload_n 0 dJ13_bitCount_95d88_10 rfl ?_
  refine zW_ldc2 dJ13_bitCount_95d88_11 wc_RJ13_316 ?_
  refine zW_land dJ13_bitCount_95d88_14 ?_
  refine zW_lload_n 0 dJ13_bitCount_95d88_15 rfl ?_
  refine zW_iconst dJ13_bitCount_95d88_16 ?_
  refine zW_lushr dJ13_bitCount_95d88_17 ?_
  refine zW_ldc2 dJ13_bitCount_95d88_18 wc_RJ13_316 ?_
  refine zW_land dJ13_bitCount_95d88_21 ?_
  refine zW_ladd dJ13_bitCount_95d88_22 ?_
  refine zF_lstore_n (lv' := fun a2 => [(0, vl a2)]) dJ13_bitCount_95d88_23 hf (fun _ => rfl) rfl (fun a2 hf => ?_)
  refine zW_lload_n 0 dJ13_bitCount_95d88_24 rfl ?_
  refine zW_lload_n 0 dJ13_bitCount_95d88_25 rfl ?_
  refine zW_iconst dJ13_bitCount_95d88_26 ?_
  refine zW_lushr dJ13_bitCount_95d88_27 ?_
  refine zW_ladd dJ13_bitCount_95d88_28 ?_
  refine zW_ldc2 dJ13_bitCount_95d88_29 wc_RJ13_318 ?_
  refine zW_land dJ13_bitCount_95d88_32 ?_
  refine zF_lstore_n (lv' := fun a3 => [(0, vl a3)]) dJ13_bitCount_95d88_33 hf (fun _ => rfl) rfl (fun a3 hf => ?_)
  refine zW_lload_n 0 dJ13_bitCount_95d88_34 rfl ?_
  refine zW_lload_n 0 dJ13_bitCount_95d88_35 rfl ?_
  refine zW_bipush dJ13_bitCount_95d88_36 rfl ?_
  refine zW_lushr dJ13_bitCount_95d88_38 ?_
  refine zW_ladd dJ13_bitCount_95d88_39 ?_
  refine zF_lstore_n (lv' := fun a4 => [(0, vl a4)]) dJ13_bitCount_95d88_40 hf (fun _ => rfl) rfl (fun a4 hf => ?_)
  refine zW_lload_n 0 dJ13_bitCount_95d88_41 rfl ?_
  refine zW_lload_n 0 dJ13_bitCount_95d88_42 rfl ?_
  refine zW_bipush dJ13_bitCount_95d88_43 rfl ?_
  refine zW_lushr dJ13_bitCount_95d88_45 ?_
  refine zW_ladd dJ13_bitCount_95d88_46 ?_
  refine zF_lstore_n (lv' := fun a5 => [(0, vl a5)]) dJ13_bitCount_95d88_47 hf (fun _ => rfl) rfl (fun a5 hf => ?_)
  refine zW_lload_n 0 dJ13_bitCount_95d88_48 rfl ?_
  refine zW_lload_n 0 dJ13_bitCount_95d88_49 rfl ?_
  refine zW_bipush dJ13_bitCount_95d88_50 rfl ?_
  refine zW_lushr dJ13_bitCount_95d88_52 ?_
  refine zW_ladd dJ13_bitCount_95d88_53 ?_
  refine zF_lstore_n (lv' := fun a6 => [(0, vl a6)]) dJ13_bitCount_95d88_54 hf (fun _ => rfl) rfl (fun a6 hf => ?_)
  refine zW_lload_n 0 dJ13_bitCount_95d88_55 rfl ?_
  refine zW_l2i dJ13_bitCount_95d88_56 ?_
  refine zW_bipush dJ13_bitCount_95d88_57 rfl ?_
  refine zW_iand_127 dJ13_bitCount_95d88_59 ?_
  exact zS_i hw rfl dJ13_bitCount_95d88_60 hf
theorem kJ13_bitCount_95d88 {X : zX} {e : Nat → Prop} (hw : zWf X e) {v0 : Int}  {I : zMem} {u : Int} (hf : fJ13_bitCount_95d88 v0 = some u) : zCn X mJ13_bitCount_95d88 yJ13_bitCount_95d88 [vl v0] I (some (vi u), I) := zCn_of (by decide +kernel) rfl rfl ⟨rfl, rfl⟩ (tJ13_bitCount_95d88_0 hw.N  hf)
set_option maxRecDepth 100000 in
theorem tX10_weigh_l5_y {X : zX} {e : Nat → Prop} (hw : zWf X e) {T : zT} {v1 : Int} {I : zMem} (o : zOk e (3, 0, 0)) (s : (Int × Int)) {u : ((Int × Int) ⊕ (Int × Int))} (hf : fX10_weigh_l5 v1 I s = some u) (hk : ∀ s', u = .inl s' → zW X T mX10_weigh 5 [(0, .ref (zad X (3, 0, 0))), (1, vl v1), (3, vi s'.1), (4, vi s'.2)] [] I) (hx : ∀ x, u = .inr x → zW X T mX10_weigh 38 [(3, vi x.1)] [] I) : zW X T mX10_weigh 5 [(0, .ref (zad X (3, 0, 0))), (1, vl v1), (3, vi s.1), (4, vi s.2)] [] I := by
  unfold fX10_weigh_l5 at hf
  refine zW_iload 3 dX10_weigh_5 rfl ?_
  refine zW_aload_n 0 dX10_weigh_7 rfl ?_
  refine zW_getI lk_RX10_21 (hw.1 _ o) rfl rfl dX10_weigh_8 ?_
  refine zF_icmp_ge 38 dX10_weigh_11 rfl rfl rfl hf (fun c hf => ?_) (fun c hf => ?_)
  · refine zW_sub [2] rfl ?_
    exact hx _ (Option.some.inj hf).symm
  · refine zW_iload_n 2 dX10_weigh_14 rfl ?_
    refine zW_lload_n 1 dX10_weigh_15 rfl ?_
    refine zW_aload_n 0 dX10_weigh_16 rfl ?_
    refine zW_getR (q' := (21, 0, 0)) lk_RX10_11 (hw.1 _ o) rfl rfl (hw.2.1 _ _ _ o rfl) dX10_weigh_17 ?_
    refine zW_iload 3 dX10_weigh_20 rfl ?_
    obtain ⟨c1, hf⟩ := zgd hf
    refine zF_lald (hw.1 _ (zokA (r' := 21) o rfl rfl)) rfl c1 rfl dX10_weigh_22 ?_
    refine zW_land dX10_weigh_23 ?_
    refine zC_Sri (As := [vl (land v1 (I (21, 0, 0) (ix s.2)))]) (fun x hx => kJ13_bitCount_95d88 hw (v0 := land v1 (I (21, 0, 0) (ix s.2)))  hx) ms_RX10_31 rfl rfl rfl rfl dX10_weigh_24 hf (fun r2 hf => ?_)
    refine zW_iload 3 dX10_weigh_27 rfl ?_
    refine zW_ishl dX10_weigh_29 ?_
    refine zW_iadd dX10_weigh_30 ?_
    refine zF_istore_n (lv' := fun a3 => [(3, vi a3), (0, .ref (zad X (3, 0, 0))), (1, vl v1), (4, vi s.2)]) dX10_weigh_31 hf (fun _ => rfl) rfl (fun a3 hf => ?_)
    refine zW_iinc 3 (lv' := [(4, vi (s.2 + 1)), (3, vi a3), (0, .ref (zad X (3, 0, 0))), (1, vl v1)]) dX10_weigh_32 rfl rfl rfl ?_
    refine zW_goto 5 dX10_weigh_35 rfl ?_
    refine zW_sub [2, 3, 1, 0] rfl ?_
    exact hk _ (Option.some.inj hf).symm
theorem tX10_weigh_l5 {X : zX} {e : Nat → Prop} (hw : zWf X e) {T : zT} {v1 : Int} {I : zMem} (o : zOk e (3, 0, 0)) {s0 : (Int × Int)} {α : Type} {F : (Int × Int) → Option α} {u : α} (hf : zb (zlp (fX10_weigh_l5 v1 I) 5000 s0) F = some u) (kx : ∀ x, F x = some u → zW X T mX10_weigh 38 [(3, vi x.1)] [] I) : zW X T mX10_weigh 5 [(0, .ref (zad X (3, 0, 0))), (1, vl v1), (3, vi s0.1), (4, vi s0.2)] [] I := by
  obtain ⟨x, h, hf⟩ := zb_inv hf
  exact zlp_W (P := fun s => zW X T mX10_weigh 5 [(0, .ref (zad X (3, 0, 0))), (1, vl v1), (3, vi s.1), (4, vi s.2)] [] I) (E := fun x => zW X T mX10_weigh 38 [(3, vi x.1)] [] I) (fun s u h hk hx => tX10_weigh_l5_y hw o s h hk hx) _ s0 x h (kx x hf)
set_option maxRecDepth 100000 in
theorem tX10_weigh_0 {X : zX} {e : Nat → Prop} (hw : zWf X e) {v1 : Int} (o : zOk e (3, 0, 0)) {I : zMem} {u : Int} (hf : fX10_weigh v1 I = some u) : zW X (some (vi u), I) mX10_weigh 0 [(0, .ref (zad X (3, 0, 0))), (1, vl v1)] [] I := by
  unfold fX10_weigh at hf
  refine zW_iconst dX10_weigh_0 ?_
  refine zW_istore_n (lv' := [(3, vi 0), (0, .ref (zad X (3, 0, 0))), (1, vl v1)]) dX10_weigh_1 rfl rfl ?_
  refine zW_iconst dX10_weigh_2 ?_
  refine zW_istore (lv' := [(4, vi 0), (3, vi 0), (0, .ref (zad X (3, 0, 0))), (1, vl v1)]) dX10_weigh_3 rfl rfl ?_
  refine zW_sub [2, 3, 1, 0] rfl ?_
  refine tX10_weigh_l5 hw o (s0 := (0, 0)) hf (fun x4 hf => ?_)
  refine zW_iload_n 0 dX10_weigh_38 rfl ?_
  exact zS_i hw rfl dX10_weigh_39 hf
theorem kX10_weigh {X : zX} {e : Nat → Prop} (hw : zWf X e) {v1 : Int} (o : zOk e (3, 0, 0)) {I : zMem} {u : Int} (hf : fX10_weigh v1 I = some u) : zCn X mX10_weigh yX10_weigh [.ref (zad X (3, 0, 0)), vl v1] I (some (vi u), I) := zCn_of (by decide +kernel) rfl rfl ⟨rfl, rfl⟩ (tX10_weigh_0 hw.N o hf)
set_option maxRecDepth 100000 in
theorem tX10_least_l5_y {X : zX} {e : Nat → Prop} (hw : zWf X e) {T : zT} {q1 : zPl} {n1 : Nat} {I : zMem} (o : zOk e (3, 0, 0)) (hq1 : zDom X q1) (hk1 : zkd q1.1 = (15, n1)) (s : (Int × Int)) {u : ((Int × Int) ⊕ (Int × Int))} (hf : fX10_least_l5 q1 n1 I s = some u) (hk : ∀ s', u = .inl s' → zW X T mX10_least 5 [(0, .ref (zad X (3, 0, 0))), (1, .ref (zad X q1)), (2, vi s'.1), (3, vi s'.2)] [] I) (hx : ∀ x, u = .inr x → zW X T mX10_least 29 [(2, vi x.1)] [] I) : zW X T mX10_least 5 [(0, .ref (zad X (3, 0, 0))), (1, .ref (zad X q1)), (2, vi s.1), (3, vi s.2)] [] I := by
  unfold fX10_least_l5 at hf
  refine zW_iload_n 3 dX10_least_5 rfl ?_
  refine zW_aload_n 1 dX10_least_6 rfl ?_
  refine zW_alen 2 rfl hq1 hk1 rfl dX10_least_7 ?_
  refine zF_icmp_ge 29 dX10_least_8 rfl rfl rfl hf (fun c hf => ?_) (fun c hf => ?_)
  · refine zW_sub [2] rfl ?_
    exact hx _ (Option.some.inj hf).symm
  · refine zW_iload_n 2 dX10_least_11 rfl ?_
    refine zW_aload_n 0 dX10_least_12 rfl ?_
    refine zW_aload_n 1 dX10_least_13 rfl ?_
    refine zW_iload_n 3 dX10_least_14 rfl ?_
    obtain ⟨c1, hf⟩ := zgd hf
    refine zF_lald hq1 hk1 c1 rfl dX10_least_15 ?_
    refine zC_Vri (As := [vl (I q1 (ix s.2))]) (fun x hx => kX10_weigh hw (v1 := I q1 (ix s.2)) o hx) mv_RX10_38 (hw.1 _ o) rfl rfl rfl rfl rfl dX10_least_16 hf (fun r2 hf => ?_)
    refine zW_min mm_RX10_41 rfl dX10_least_19 ?_
    refine zF_istore_n (lv' := fun a3 => [(2, vi a3), (0, .ref (zad X (3, 0, 0))), (1, .ref (zad X q1)), (3, vi s.2)]) dX10_least_22 hf (fun _ => rfl) rfl (fun a3 hf => ?_)
    refine zW_iinc 3 (lv' := [(3, vi (s.2 + 1)), (2, vi a3), (0, .ref (zad X (3, 0, 0))), (1, .ref (zad X q1))]) dX10_least_23 rfl rfl rfl ?_
    refine zW_goto 5 dX10_least_26 rfl ?_
    refine zW_sub [2, 3, 1, 0] rfl ?_
    exact hk _ (Option.some.inj hf).symm
theorem tX10_least_l5 {X : zX} {e : Nat → Prop} (hw : zWf X e) {T : zT} {q1 : zPl} {n1 : Nat} {I : zMem} (o : zOk e (3, 0, 0)) (hq1 : zDom X q1) (hk1 : zkd q1.1 = (15, n1)) {s0 : (Int × Int)} {α : Type} {F : (Int × Int) → Option α} {u : α} (hf : zb (zlp (fX10_least_l5 q1 n1 I) 5000 s0) F = some u) (kx : ∀ x, F x = some u → zW X T mX10_least 29 [(2, vi x.1)] [] I) : zW X T mX10_least 5 [(0, .ref (zad X (3, 0, 0))), (1, .ref (zad X q1)), (2, vi s0.1), (3, vi s0.2)] [] I := by
  obtain ⟨x, h, hf⟩ := zb_inv hf
  exact zlp_W (P := fun s => zW X T mX10_least 5 [(0, .ref (zad X (3, 0, 0))), (1, .ref (zad X q1)), (2, vi s.1), (3, vi s.2)] [] I) (E := fun x => zW X T mX10_least 29 [(2, vi x.1)] [] I) (fun s u h hk hx => tX10_least_l5_y hw o hq1 hk1 s h hk hx) _ s0 x h (kx x hf)
set_option maxRecDepth 100000 in
theorem tX10_least_0 {X : zX} {e : Nat → Prop} (hw : zWf X e) {q1 : zPl} {n1 : Nat} (o : zOk e (3, 0, 0)) (hq1 : zDom X q1) (hk1 : zkd q1.1 = (15, n1)) {I : zMem} {u : Int} (hf : fX10_least q1 n1 I = some u) : zW X (some (vi u), I) mX10_least 0 [(0, .ref (zad X (3, 0, 0))), (1, .ref (zad X q1))] [] I := by
  unfold fX10_least at hf
  refine zW_ldc dX10_least_0 wc_RX10_37 ?_
  refine zW_istore_n (lv' := [(2, vi 1000000), (0, .ref (zad X (3, 0, 0))), (1, .ref (zad X q1))]) dX10_least_2 rfl rfl ?_
  refine zW_iconst dX10_least_3 ?_
  refine zW_istore_n (lv' := [(3, vi 1), (2, vi 1000000), (0, .ref (zad X (3, 0, 0))), (1, .ref (zad X q1))]) dX10_least_4 rfl rfl ?_
  refine zW_sub [2, 3, 1, 0] rfl ?_
  refine tX10_least_l5 hw o hq1 hk1 (s0 := (1000000, 1)) hf (fun x4 hf => ?_)
  refine zW_iload_n 0 dX10_least_29 rfl ?_
  exact zS_i hw rfl dX10_least_30 hf
theorem kX10_least {X : zX} {e : Nat → Prop} (hw : zWf X e) {q1 : zPl} {n1 : Nat} (o : zOk e (3, 0, 0)) (hq1 : zDom X q1) (hk1 : zkd q1.1 = (15, n1)) {I : zMem} {u : Int} (hf : fX10_least q1 n1 I = some u) : zCn X mX10_least yX10_least [.ref (zad X (3, 0, 0)), .ref (zad X q1)] I (some (vi u), I) := zCn_of (by decide +kernel) rfl rfl ⟨rfl, rfl⟩ (tX10_least_0 hw.N o hq1 hk1 hf)
set_option maxRecDepth 100000 in
theorem tX10_howManyAt_b5_27 {X : zX} {e : Nat → Prop} (hw : zWf X e) {T : zT} {q1 : zPl} {n1 : Nat} {v2 : Int} {I : zMem} {w3 : Int} {w4 : Int} (o : zOk e (3, 0, 0)) (hq1 : zDom X q1) (hk1 : zkd q1.1 = (15, n1)) {u : ((Int × Int) ⊕ (Int × Int))} (hf : fX10_howManyAt_b5_27 q1 n1 v2 I w3 w4 = some u) (hk : ∀ s', u = .inl s' → zW X T mX10_howManyAt 5 [(0, .ref (zad X (3, 0, 0))), (1, .ref (zad X q1)), (2, vi v2), (3, vi s'.1), (4, vi s'.2)] [] I) (hx : ∀ x, u = .inr x → zW X T mX10_howManyAt 33 [(3, vi x.1)] [] I) : zW X T mX10_howManyAt 27 [(0, .ref (zad X (3, 0, 0))), (1, .ref (zad X q1)), (2, vi v2), (3, vi w3), (4, vi w4)] [] I := by
  unfold fX10_howManyAt_b5_27 at hf
  refine zW_iinc 4 (lv' := [(4, vi (w4 + 1)), (0, .ref (zad X (3, 0, 0))), (1, .ref (zad X q1)), (2, vi v2), (3, vi w3)]) dX10_howManyAt_27 rfl rfl rfl ?_
  refine zW_goto 5 dX10_howManyAt_30 rfl ?_
  refine zW_sub [1, 2, 3, 4, 0] rfl ?_
  exact hk _ (Option.some.inj hf).symm
set_option maxRecDepth 100000 in
theorem tX10_howManyAt_l5_y {X : zX} {e : Nat → Prop} (hw : zWf X e) {T : zT} {q1 : zPl} {n1 : Nat} {v2 : Int} {I : zMem} (o : zOk e (3, 0, 0)) (hq1 : zDom X q1) (hk1 : zkd q1.1 = (15, n1)) (s : (Int × Int)) {u : ((Int × Int) ⊕ (Int × Int))} (hf : fX10_howManyAt_l5 q1 n1 v2 I s = some u) (hk : ∀ s', u = .inl s' → zW X T mX10_howManyAt 5 [(0, .ref (zad X (3, 0, 0))), (1, .ref (zad X q1)), (2, vi v2), (3, vi s'.1), (4, vi s'.2)] [] I) (hx : ∀ x, u = .inr x → zW X T mX10_howManyAt 33 [(3, vi x.1)] [] I) : zW X T mX10_howManyAt 5 [(0, .ref (zad X (3, 0, 0))), (1, .ref (zad X q1)), (2, vi v2), (3, vi s.1), (4, vi s.2)] [] I := by
  unfold fX10_howManyAt_l5 at hf
  refine zW_iload 4 dX10_howManyAt_5 rfl ?_
  refine zW_aload_n 1 dX10_howManyAt_7 rfl ?_
  refine zW_alen 2 rfl hq1 hk1 rfl dX10_howManyAt_8 ?_
  refine zF_icmp_ge 33 dX10_howManyAt_9 rfl rfl rfl hf (fun c hf => ?_) (fun c hf => ?_)
  · refine zW_sub [3] rfl ?_
    exact hx _ (Option.some.inj hf).symm
  · refine zW_aload_n 0 dX10_howManyAt_12 rfl ?_
    refine zW_aload_n 1 dX10_howManyAt_13 rfl ?_
    refine zW_iload 4 dX10_howManyAt_14 rfl ?_
    obtain ⟨c1, hf⟩ := zgd hf
    refine zF_lald hq1 hk1 c1 rfl dX10_howManyAt_16 ?_
    refine zC_Vri (As := [vl (I q1 (ix s.2))]) (fun x hx => kX10_weigh hw (v1 := I q1 (ix s.2)) o hx) mv_RX10_38 (hw.1 _ o) rfl rfl rfl rfl rfl dX10_howManyAt_17 hf (fun r2 hf => ?_)
    refine zW_iload_n 2 dX10_howManyAt_20 rfl ?_
    refine zF_icmp_ne 27 dX10_howManyAt_21 rfl rfl rfl hf (fun c hf => ?_) (fun c hf => ?_)
    · refine zW_iinc 3 (lv' := [(3, vi (s.1 + 1)), (0, .ref (zad X (3, 0, 0))), (1, .ref (zad X q1)), (2, vi v2), (4, vi s.2)]) dX10_howManyAt_24 rfl rfl rfl ?_
      refine zW_sub [1, 2, 3, 0, 4] rfl ?_
      exact tX10_howManyAt_b5_27 hw o hq1 hk1 hf hk hx
    · refine zW_sub [0, 1, 2, 3, 4] rfl ?_
      exact tX10_howManyAt_b5_27 hw o hq1 hk1 hf hk hx
theorem tX10_howManyAt_l5 {X : zX} {e : Nat → Prop} (hw : zWf X e) {T : zT} {q1 : zPl} {n1 : Nat} {v2 : Int} {I : zMem} (o : zOk e (3, 0, 0)) (hq1 : zDom X q1) (hk1 : zkd q1.1 = (15, n1)) {s0 : (Int × Int)} {α : Type} {F : (Int × Int) → Option α} {u : α} (hf : zb (zlp (fX10_howManyAt_l5 q1 n1 v2 I) 5000 s0) F = some u) (kx : ∀ x, F x = some u → zW X T mX10_howManyAt 33 [(3, vi x.1)] [] I) : zW X T mX10_howManyAt 5 [(0, .ref (zad X (3, 0, 0))), (1, .ref (zad X q1)), (2, vi v2), (3, vi s0.1), (4, vi s0.2)] [] I := by
  obtain ⟨x, h, hf⟩ := zb_inv hf
  exact zlp_W (P := fun s => zW X T mX10_howManyAt 5 [(0, .ref (zad X (3, 0, 0))), (1, .ref (zad X q1)), (2, vi v2), (3, vi s.1), (4, vi s.2)] [] I) (E := fun x => zW X T mX10_howManyAt 33 [(3, vi x.1)] [] I) (fun s u h hk hx => tX10_howManyAt_l5_y hw o hq1 hk1 s h hk hx) _ s0 x h (kx x hf)
set_option maxRecDepth 100000 in
theorem tX10_howManyAt_0 {X : zX} {e : Nat → Prop} (hw : zWf X e) {q1 : zPl} {n1 : Nat} {v2 : Int} (o : zOk e (3, 0, 0)) (hq1 : zDom X q1) (hk1 : zkd q1.1 = (15, n1)) {I : zMem} {u : Int} (hf : fX10_howManyAt q1 n1 v2 I = some u) : zW X (some (vi u), I) mX10_howManyAt 0 [(0, .ref (zad X (3, 0, 0))), (1, .ref (zad X q1)), (2, vi v2)] [] I := by
  unfold fX10_howManyAt at hf
  refine zW_iconst dX10_howManyAt_0 ?_
  refine zW_istore_n (lv' := [(3, vi 0), (0, .ref (zad X (3, 0, 0))), (1, .ref (zad X q1)), (2, vi v2)]) dX10_howManyAt_1 rfl rfl ?_
  refine zW_iconst dX10_howManyAt_2 ?_
  refine zW_istore (lv' := [(4, vi 1), (3, vi 0), (0, .ref (zad X (3, 0, 0))), (1, .ref (zad X q1)), (2, vi v2)]) dX10_howManyAt_3 rfl rfl ?_
  refine zW_sub [2, 3, 4, 1, 0] rfl ?_
  refine tX10_howManyAt_l5 hw o hq1 hk1 (s0 := (0, 1)) hf (fun x3 hf => ?_)
  refine zW_iload_n 0 dX10_howManyAt_33 rfl ?_
  exact zS_i hw rfl dX10_howManyAt_34 hf
theorem kX10_howManyAt {X : zX} {e : Nat → Prop} (hw : zWf X e) {q1 : zPl} {n1 : Nat} {v2 : Int} (o : zOk e (3, 0, 0)) (hq1 : zDom X q1) (hk1 : zkd q1.1 = (15, n1)) {I : zMem} {u : Int} (hf : fX10_howManyAt q1 n1 v2 I = some u) : zCn X mX10_howManyAt yX10_howManyAt [.ref (zad X (3, 0, 0)), .ref (zad X q1), vi v2] I (some (vi u), I) := zCn_of (by decide +kernel) rfl rfl ⟨rfl, rfl⟩ (tX10_howManyAt_0 hw.N o hq1 hk1 hf)
set_option maxRecDepth 100000 in
theorem tX11_isSn_b14 {X : zX} {e : Nat → Prop} (hw : zWf X e) {I : zMem} {v0 : Int}  {u : Int} (hf : fX11_isSn_b14 v0 = some u) : zW X (some (vi u), I) mX11_isSn 14 [] [] I := by
  unfold fX11_isSn_b14 at hf
  refine zW_iconst dX11_isSn_14 ?_
  exact zS_z hw rfl (Or.inl rfl) dX11_isSn_15 hf
set_option maxRecDepth 100000 in
theorem tX11_isSn_0 {X : zX} {e : Nat → Prop} (hw : zWf X e) {v0 : Int}  {I : zMem} {u : Int} (hf : fX11_isSn v0 = some u) : zW X (some (vi u), I) mX11_isSn 0 [(0, vi v0)] [] I := by
  unfold fX11_isSn at hf
  refine zW_iload_n 0 dX11_isSn_0 rfl ?_
  refine zF_if_lt 14 dX11_isSn_1 rfl rfl hf (fun c hf => ?_) (fun c hf => ?_)
  · refine zW_sub [] rfl ?_
    exact tX11_isSn_b14 hw  hf
  · refine zW_iload_n 0 dX11_isSn_4 rfl ?_
    refine zW_bipush dX11_isSn_5 rfl ?_
    refine zF_icmp_ge 14 dX11_isSn_7 rfl rfl (w32_lit _ rfl) hf (fun c hf => ?_) (fun c hf => ?_)
    · refine zW_sub [] rfl ?_
      exact tX11_isSn_b14 hw  hf
    · refine zW_iconst dX11_isSn_10 ?_
      refine zW_goto 15 dX11_isSn_11 rfl ?_
      exact zS_z hw rfl (Or.inr rfl) dX11_isSn_15 hf
theorem kX11_isSn {X : zX} {e : Nat → Prop} (hw : zWf X e) {v0 : Int}  {I : zMem} {u : Int} (hf : fX11_isSn v0 = some u) : zCn X mX11_isSn yX11_isSn [vi v0] I (some (vi u), I) := zCn_of (by decide +kernel) rfl rfl ⟨rfl, rfl⟩ (tX11_isSn_0 hw.N  hf)
set_option maxRecDepth 100000 in
theorem tX11_word_0 {X : zX} {e : Nat → Prop} (hw : zWf X e) {v1 : Int} {v2 : Int} (o : zOk e (0, 0, 0)) (h1 : e 1) {I : zMem} {u : Int} (hf : fX11_word v1 v2 = some u) : zW X (some (vi u), I) mX11_word 0 [(0, .ref (zad X (0, 0, 0))), (1, vi v1), (2, vi v2)] [] I := by
  unfold fX11_word at hf
  refine zW_iload_n 1 dX11_word_0 rfl ?_
  refine zC_Sri (As := [vi v1]) (fun x hx => kX11_isSn hw (v0 := v1)  hx) ms_RX11_75 rfl rfl rfl rfl dX11_word_1 hf (fun r1 hf => ?_)
  refine zF_if_eq 17 dX11_word_4 rfl rfl hf (fun c hf => ?_) (fun c hf => ?_)
  · refine zW_bipush dX11_word_17 rfl ?_
    exact zS_i hw rfl dX11_word_19 hf
  · refine zW_iload_n 2 dX11_word_7 rfl ?_
    refine zF_if_lt 17 dX11_word_8 rfl rfl hf (fun c hf => ?_) (fun c hf => ?_)
    · refine zW_bipush dX11_word_17 rfl ?_
      exact zS_i hw rfl dX11_word_19 hf
    · refine zW_iload_n 2 dX11_word_11 rfl ?_
      refine zW_bipush dX11_word_12 rfl ?_
      refine zF_icmp_le 20 dX11_word_14 rfl rfl (w32_lit _ rfl) hf (fun c hf => ?_) (fun c hf => ?_)
      · refine zW_iload_n 1 dX11_word_20 rfl ?_
        refine zW_iconst dX11_word_21 ?_
        refine zW_ishl dX11_word_22 ?_
        refine zW_iload_n 2 dX11_word_23 rfl ?_
        refine zW_ior dX11_word_24 ?_
        refine zC_Sri (As := [vi (ior (ishl v1 5) v2)]) (fun x hx => kX1_wholeWord hw (v0 := ior (ishl v1 5) v2)  hx) ms_RX11_79 rfl rfl rfl rfl dX11_word_25 hf (fun r2 hf => ?_)
        exact zS_i hw rfl dX11_word_28 hf
      · refine zW_bipush dX11_word_17 rfl ?_
        exact zS_i hw rfl dX11_word_19 hf
theorem kX11_word {X : zX} {e : Nat → Prop} (hw : zWf X e) {v1 : Int} {v2 : Int} (o : zOk e (0, 0, 0)) (h1 : e 1) {I : zMem} {u : Int} (hf : fX11_word v1 v2 = some u) : zCn X mX11_word yX11_word [.ref (zad X (0, 0, 0)), vi v1, vi v2] I (some (vi u), I) := zCn_of (by decide +kernel) rfl rfl ⟨rfl, rfl⟩ (tX11_word_0 hw.N o h1 hf)
set_option maxRecDepth 100000 in
theorem tX11_isWord_b15 {X : zX} {e : Nat → Prop} (hw : zWf X e) {I : zMem} {v0 : Int}  {u : Int} (hf : fX11_isWord_b15 v0 = some u) : zW X (some (vi u), I) mX11_isWord 15 [] [] I := by
  unfold fX11_isWord_b15 at hf
  refine zW_iconst dX11_isWord_15 ?_
  exact zS_z hw rfl (Or.inl rfl) dX11_isWord_16 hf
set_option maxRecDepth 100000 in
theorem tX11_isWord_0 {X : zX} {e : Nat → Prop} (hw : zWf X e) {v0 : Int}  {I : zMem} {u : Int} (hf : fX11_isWord v0 = some u) : zW X (some (vi u), I) mX11_isWord 0 [(0, vi v0)] [] I := by
  unfold fX11_isWord at hf
  refine zW_iload_n 0 dX11_isWord_0 rfl ?_
  refine zF_if_lt 15 dX11_isWord_1 rfl rfl hf (fun c hf => ?_) (fun c hf => ?_)
  · refine zW_sub [] rfl ?_
    exact tX11_isWord_b15 hw  hf
  · refine zW_iload_n 0 dX11_isWord_4 rfl ?_
    refine zW_sipush dX11_isWord_5 rfl ?_
    refine zF_icmp_ge 15 dX11_isWord_8 rfl rfl (w32_lit _ rfl) hf (fun c hf => ?_) (fun c hf => ?_)
    · refine zW_sub [] rfl ?_
      exact tX11_isWord_b15 hw  hf
    · refine zW_iconst dX11_isWord_11 ?_
      refine zW_goto 16 dX11_isWord_12 rfl ?_
      exact zS_z hw rfl (Or.inr rfl) dX11_isWord_16 hf
theorem kX11_isWord {X : zX} {e : Nat → Prop} (hw : zWf X e) {v0 : Int}  {I : zMem} {u : Int} (hf : fX11_isWord v0 = some u) : zCn X mX11_isWord yX11_isWord [vi v0] I (some (vi u), I) := zCn_of (by decide +kernel) rfl rfl ⟨rfl, rfl⟩ (tX11_isWord_0 hw.N  hf)
set_option maxRecDepth 100000 in
theorem tX11_whole_0 {X : zX} {e : Nat → Prop} (hw : zWf X e) {v1 : Int} (o : zOk e (0, 0, 0)) (h1 : e 1) {I : zMem} {u : Int} (hf : fX11_whole v1 = some u) : zW X (some (vi u), I) mX11_whole 0 [(0, .ref (zad X (0, 0, 0))), (1, vi v1)] [] I := by
  unfold fX11_whole at hf
  refine zW_iload_n 1 dX11_whole_0 rfl ?_
  refine zC_Sri (As := [vi v1]) (fun x hx => kX11_isWord hw (v0 := v1)  hx) ms_RX11_83 rfl rfl rfl rfl dX11_whole_1 hf (fun r1 hf => ?_)
  refine zF_if_ne 10 dX11_whole_4 rfl rfl hf (fun c hf => ?_) (fun c hf => ?_)
  · refine zW_bipush dX11_whole_7 rfl ?_
    exact zS_i hw rfl dX11_whole_9 hf
  · refine zW_iload_n 1 dX11_whole_10 rfl ?_
    refine zC_Sri (As := [vi v1]) (fun x hx => kX1_isWhole hw (v0 := v1)  hx) ms_RX11_86 rfl rfl rfl rfl dX11_whole_11 hf (fun r2 hf => ?_)
    refine zF_if_eq 21 dX11_whole_14 rfl rfl hf (fun c hf => ?_) (fun c hf => ?_)
    · refine zW_iconst dX11_whole_21 ?_
      exact zS_i hw rfl dX11_whole_22 hf
    · refine zW_iconst dX11_whole_17 ?_
      refine zW_goto 22 dX11_whole_18 rfl ?_
      exact zS_i hw rfl dX11_whole_22 hf
theorem kX11_whole {X : zX} {e : Nat → Prop} (hw : zWf X e) {v1 : Int} (o : zOk e (0, 0, 0)) (h1 : e 1) {I : zMem} {u : Int} (hf : fX11_whole v1 = some u) : zCn X mX11_whole yX11_whole [.ref (zad X (0, 0, 0)), vi v1] I (some (vi u), I) := zCn_of (by decide +kernel) rfl rfl ⟨rfl, rfl⟩ (tX11_whole_0 hw.N o h1 hf)
set_option maxRecDepth 100000 in
theorem tX11_bits_0 {X : zX} {e : Nat → Prop} (hw : zWf X e) {v1 : Int} (o : zOk e (0, 0, 0)) (h1 : e 1) {I : zMem} {u : Int} (hf : fX11_bits v1 I = some u) : zW X (some (vl u), I) mX11_bits 0 [(0, .ref (zad X (0, 0, 0))), (1, vi v1)] [] I := by
  unfold fX11_bits at hf
  refine zW_iload_n 1 dX11_bits_0 rfl ?_
  refine zC_Sri (As := [vi v1]) (fun x hx => kX11_isWord hw (v0 := v1)  hx) ms_RX11_83 rfl rfl rfl rfl dX11_bits_1 hf (fun r1 hf => ?_)
  refine zF_if_ne 11 dX11_bits_4 rfl rfl hf (fun c hf => ?_) (fun c hf => ?_)
  · refine zW_ldc2 dX11_bits_7 wc_RX11_89 ?_
    exact zS_l hw rfl dX11_bits_10 hf
  · refine zW_aload_n 0 dX11_bits_11 rfl ?_
    refine zW_getR (q' := (1, 0, 0)) lk_RX11_12 (hw.1 _ o) rfl rfl (hw.2.1 _ _ _ o rfl) dX11_bits_12 ?_
    refine zW_getR (q' := (16, 0, 0)) lk_RX11_91 (hw.1 _ (zokA (r' := 1) o rfl rfl)) rfl rfl (hw.2.1 _ _ _ (zokA (r' := 1) o rfl rfl) rfl) dX11_bits_15 ?_
    refine zW_iload_n 1 dX11_bits_18 rfl ?_
    obtain ⟨c2, hf⟩ := zgd hf
    refine zF_lald (hw.1 _ (zokA (r' := 16) (zokA (r' := 1) o rfl rfl) rfl rfl)) rfl c2 rfl dX11_bits_19 ?_
    exact zS_l hw rfl dX11_bits_20 hf
theorem kX11_bits {X : zX} {e : Nat → Prop} (hw : zWf X e) {v1 : Int} (o : zOk e (0, 0, 0)) (h1 : e 1) {I : zMem} {u : Int} (hf : fX11_bits v1 I = some u) : zCn X mX11_bits yX11_bits [.ref (zad X (0, 0, 0)), vi v1] I (some (vl u), I) := zCn_of (by decide +kernel) rfl rfl ⟨rfl, rfl⟩ (tX11_bits_0 hw.N o h1 hf)
set_option maxRecDepth 100000 in
theorem tX11_place_0 {X : zX} {e : Nat → Prop} (hw : zWf X e) {v1 : Int} (o : zOk e (0, 0, 0)) (h1 : e 1) {I : zMem} {u : Int} (hf : fX11_place v1 I = some u) : zW X (some (vi u), I) mX11_place 0 [(0, .ref (zad X (0, 0, 0))), (1, vi v1)] [] I := by
  unfold fX11_place at hf
  refine zW_iload_n 1 dX11_place_0 rfl ?_
  refine zF_if_lt 15 dX11_place_1 rfl rfl hf (fun c hf => ?_) (fun c hf => ?_)
  · refine zW_bipush dX11_place_15 rfl ?_
    exact zS_i hw rfl dX11_place_17 hf
  · refine zW_iload_n 1 dX11_place_4 rfl ?_
    refine zW_aload_n 0 dX11_place_5 rfl ?_
    refine zW_getR (q' := (7, 1, 0)) lk_RX11_56 (hw.1 _ o) rfl rfl (hw.2.1 _ _ _ o rfl) dX11_place_6 ?_
    refine zW_getI lk_RX11_94 (hw.1 _ (zok1 (r' := 7) h1 rfl)) rfl rfl dX11_place_9 ?_
    refine zF_icmp_lt 18 dX11_place_12 rfl rfl rfl hf (fun c hf => ?_) (fun c hf => ?_)
    · refine zW_iload_n 1 dX11_place_18 rfl ?_
      refine zC_Sri (As := [vi v1]) (fun x hx => kX6_bitAtPlace hw (v0 := v1)  hx) ms_RX11_98 rfl rfl rfl rfl dX11_place_19 hf (fun r1 hf => ?_)
      exact zS_i hw rfl dX11_place_22 hf
    · refine zW_bipush dX11_place_15 rfl ?_
      exact zS_i hw rfl dX11_place_17 hf
theorem kX11_place {X : zX} {e : Nat → Prop} (hw : zWf X e) {v1 : Int} (o : zOk e (0, 0, 0)) (h1 : e 1) {I : zMem} {u : Int} (hf : fX11_place v1 I = some u) : zCn X mX11_place yX11_place [.ref (zad X (0, 0, 0)), vi v1] I (some (vi u), I) := zCn_of (by decide +kernel) rfl rfl ⟨rfl, rfl⟩ (tX11_place_0 hw.N o h1 hf)
set_option maxRecDepth 100000 in
theorem tX11_isVersion_b13 {X : zX} {e : Nat → Prop} (hw : zWf X e) {I : zMem} {v0 : Int}  {u : Int} (hf : fX11_isVersion_b13 v0 = some u) : zW X (some (vi u), I) mX11_isVersion 13 [] [] I := by
  unfold fX11_isVersion_b13 at hf
  refine zW_iconst dX11_isVersion_13 ?_
  exact zS_z hw rfl (Or.inl rfl) dX11_isVersion_14 hf
set_option maxRecDepth 100000 in
theorem tX11_isVersion_0 {X : zX} {e : Nat → Prop} (hw : zWf X e) {v0 : Int}  {I : zMem} {u : Int} (hf : fX11_isVersion v0 = some u) : zW X (some (vi u), I) mX11_isVersion 0 [(0, vi v0)] [] I := by
  unfold fX11_isVersion at hf
  refine zW_iload_n 0 dX11_isVersion_0 rfl ?_
  refine zF_if_lt 13 dX11_isVersion_1 rfl rfl hf (fun c hf => ?_) (fun c hf => ?_)
  · refine zW_sub [] rfl ?_
    exact tX11_isVersion_b13 hw  hf
  · refine zW_iload_n 0 dX11_isVersion_4 rfl ?_
    refine zW_iconst dX11_isVersion_5 ?_
    refine zF_icmp_ge 13 dX11_isVersion_6 rfl rfl (w32_lit _ rfl) hf (fun c hf => ?_) (fun c hf => ?_)
    · refine zW_sub [] rfl ?_
      exact tX11_isVersion_b13 hw  hf
    · refine zW_iconst dX11_isVersion_9 ?_
      refine zW_goto 14 dX11_isVersion_10 rfl ?_
      exact zS_z hw rfl (Or.inr rfl) dX11_isVersion_14 hf
theorem kX11_isVersion {X : zX} {e : Nat → Prop} (hw : zWf X e) {v0 : Int}  {I : zMem} {u : Int} (hf : fX11_isVersion v0 = some u) : zCn X mX11_isVersion yX11_isVersion [vi v0] I (some (vi u), I) := zCn_of (by decide +kernel) rfl rfl ⟨rfl, rfl⟩ (tX11_isVersion_0 hw.N  hf)
set_option maxRecDepth 100000 in
theorem tX11_isLength_b15 {X : zX} {e : Nat → Prop} (hw : zWf X e) {I : zMem} {v0 : Int}  {u : Int} (hf : fX11_isLength_b15 v0 = some u) : zW X (some (vi u), I) mX11_isLength 15 [] [] I := by
  unfold fX11_isLength_b15 at hf
  refine zW_iconst dX11_isLength_15 ?_
  exact zS_z hw rfl (Or.inl rfl) dX11_isLength_16 hf
set_option maxRecDepth 100000 in
theorem tX11_isLength_0 {X : zX} {e : Nat → Prop} (hw : zWf X e) {v0 : Int}  {I : zMem} {u : Int} (hf : fX11_isLength v0 = some u) : zW X (some (vi u), I) mX11_isLength 0 [(0, vi v0)] [] I := by
  unfold fX11_isLength at hf
  refine zW_iload_n 0 dX11_isLength_0 rfl ?_
  refine zW_iconst dX11_isLength_1 ?_
  refine zF_icmp_lt 15 dX11_isLength_2 rfl rfl (w32_lit _ rfl) hf (fun c hf => ?_) (fun c hf => ?_)
  · refine zW_sub [] rfl ?_
    exact tX11_isLength_b15 hw  hf
  · refine zW_iload_n 0 dX11_isLength_5 rfl ?_
    refine zW_bipush dX11_isLength_6 rfl ?_
    refine zF_icmp_gt 15 dX11_isLength_8 rfl rfl (w32_lit _ rfl) hf (fun c hf => ?_) (fun c hf => ?_)
    · refine zW_sub [] rfl ?_
      exact tX11_isLength_b15 hw  hf
    · refine zW_iconst dX11_isLength_11 ?_
      refine zW_goto 16 dX11_isLength_12 rfl ?_
      exact zS_z hw rfl (Or.inr rfl) dX11_isLength_16 hf
theorem kX11_isLength {X : zX} {e : Nat → Prop} (hw : zWf X e) {v0 : Int}  {I : zMem} {u : Int} (hf : fX11_isLength v0 = some u) : zCn X mX11_isLength yX11_isLength [vi v0] I (some (vi u), I) := zCn_of (by decide +kernel) rfl rfl ⟨rfl, rfl⟩ (tX11_isLength_0 hw.N  hf)
set_option maxRecDepth 100000 in
theorem tX11_sent_0 {X : zX} {e : Nat → Prop} (hw : zWf X e) {v1 : Int} {v2 : Int} {v3 : Int} (o : zOk e (0, 0, 0)) (h1 : e 1) {I : zMem} {u : (Int × zMem)} (hf : fX11_sent v1 v2 v3 I = some u) : zW X (some (vi u.1), u.2) mX11_sent 0 [(0, .ref (zad X (0, 0, 0))), (1, vi v1), (2, vi v2), (3, vi v3)] [] I := by
  unfold fX11_sent at hf
  refine zW_iload_n 1 dX11_sent_0 rfl ?_
  refine zC_Sri (As := [vi v1]) (fun x hx => kX11_isVersion hw (v0 := v1)  hx) ms_RX11_101 rfl rfl rfl rfl dX11_sent_1 hf (fun r1 hf => ?_)
  refine zF_if_ne 10 dX11_sent_4 rfl rfl hf (fun c hf => ?_) (fun c hf => ?_)
  · refine zW_bipush dX11_sent_7 rfl ?_
    exact zR_i hw rfl dX11_sent_9 hf
  · refine zW_iload_n 2 dX11_sent_10 rfl ?_
    refine zC_Sri (As := [vi v2]) (fun x hx => kX11_isLength hw (v0 := v2)  hx) ms_RX11_104 rfl rfl rfl rfl dX11_sent_11 hf (fun r2 hf => ?_)
    refine zF_if_eq 21 dX11_sent_14 rfl rfl hf (fun c hf => ?_) (fun c hf => ?_)
    · refine zW_bipush dX11_sent_21 rfl ?_
      exact zR_i hw rfl dX11_sent_23 hf
    · refine zW_iload_n 3 dX11_sent_17 rfl ?_
      refine zF_if_ge 24 dX11_sent_18 rfl rfl hf (fun c hf => ?_) (fun c hf => ?_)
      · refine zW_iload_n 3 dX11_sent_24 rfl ?_
        refine zW_iload_n 2 dX11_sent_25 rfl ?_
        refine zF_icmp_lt 31 dX11_sent_26 rfl rfl rfl hf (fun c hf => ?_) (fun c hf => ?_)
        · refine zW_aload_n 0 dX11_sent_31 rfl ?_
          refine zW_getR (q' := (2, 0, 0)) lk_RX11_19 (hw.1 _ o) rfl rfl (hw.2.1 _ _ _ o rfl) dX11_sent_32 ?_
          refine zW_aload_n 0 dX11_sent_35 rfl ?_
          refine zW_getR (q' := (7, 1, 0)) lk_RX11_56 (hw.1 _ o) rfl rfl (hw.2.1 _ _ _ o rfl) dX11_sent_36 ?_
          refine zW_getI lk_RX11_94 (hw.1 _ (zok1 (r' := 7) h1 rfl)) rfl rfl dX11_sent_39 ?_
          refine zW_iload_n 1 dX11_sent_42 rfl ?_
          refine zW_iload_n 2 dX11_sent_43 rfl ?_
          refine zC_Vwv (As := [vi (I (7, 1, 0) 4), vi v1, vi v2]) (fun x hx => kX6_lay hw (v1 := I (7, 1, 0) 4) (v2 := v1) (v3 := v2) (zokA (r' := 2) o rfl rfl) hx) mv_RX11_107 (hw.1 _ (zokA (r' := 2) o rfl rfl)) rfl rfl rfl rfl rfl dX11_sent_44 hf (fun r3 hf => ?_)
          refine zW_aload_n 0 dX11_sent_47 rfl ?_
          refine zW_getR (q' := (2, 0, 0)) lk_RX11_19 (hw.1 _ o) rfl rfl (hw.2.1 _ _ _ o rfl) dX11_sent_48 ?_
          refine zW_getR (q' := (20, 0, 0)) lk_RX11_111 (hw.1 _ (zokA (r' := 2) o rfl rfl)) rfl rfl (hw.2.1 _ _ _ (zokA (r' := 2) o rfl rfl) rfl) dX11_sent_51 ?_
          refine zW_iload_n 3 dX11_sent_54 rfl ?_
          obtain ⟨c4, hf⟩ := zgd hf
          refine zF_iald (hw.1 _ (zokA (r' := 20) (zokA (r' := 2) o rfl rfl) rfl rfl)) rfl c4 rfl dX11_sent_55 ?_
          exact zR_i hw rfl dX11_sent_56 hf
        · refine zW_iconst dX11_sent_29 ?_
          exact zR_i hw rfl dX11_sent_30 hf
      · refine zW_bipush dX11_sent_21 rfl ?_
        exact zR_i hw rfl dX11_sent_23 hf
theorem kX11_sent {X : zX} {e : Nat → Prop} (hw : zWf X e) {v1 : Int} {v2 : Int} {v3 : Int} (o : zOk e (0, 0, 0)) (h1 : e 1) {I : zMem} {u : (Int × zMem)} (hf : fX11_sent v1 v2 v3 I = some u) : zCn X mX11_sent yX11_sent [.ref (zad X (0, 0, 0)), vi v1, vi v2, vi v3] I (some (vi u.1), u.2) := zCn_of (by decide +kernel) rfl rfl ⟨rfl, rfl⟩ (tX11_sent_0 hw.N o h1 hf)
set_option maxRecDepth 100000 in
theorem tX11_isVersionSet_b14 {X : zX} {e : Nat → Prop} (hw : zWf X e) {I : zMem} {v0 : Int}  {u : Int} (hf : fX11_isVersionSet_b14 v0 = some u) : zW X (some (vi u), I) mX11_isVersionSet 14 [] [] I := by
  unfold fX11_isVersionSet_b14 at hf
  refine zW_iconst dX11_isVersionSet_14 ?_
  exact zS_z hw rfl (Or.inl rfl) dX11_isVersionSet_15 hf
set_option maxRecDepth 100000 in
theorem tX11_isVersionSet_0 {X : zX} {e : Nat → Prop} (hw : zWf X e) {v0 : Int}  {I : zMem} {u : Int} (hf : fX11_isVersionSet v0 = some u) : zW X (some (vi u), I) mX11_isVersionSet 0 [(0, vi v0)] [] I := by
  unfold fX11_isVersionSet at hf
  refine zW_iload_n 0 dX11_isVersionSet_0 rfl ?_
  refine zF_if_lt 14 dX11_isVersionSet_1 rfl rfl hf (fun c hf => ?_) (fun c hf => ?_)
  · refine zW_sub [] rfl ?_
    exact tX11_isVersionSet_b14 hw  hf
  · refine zW_iload_n 0 dX11_isVersionSet_4 rfl ?_
    refine zW_bipush dX11_isVersionSet_5 rfl ?_
    refine zF_icmp_ge 14 dX11_isVersionSet_7 rfl rfl (w32_lit _ rfl) hf (fun c hf => ?_) (fun c hf => ?_)
    · refine zW_sub [] rfl ?_
      exact tX11_isVersionSet_b14 hw  hf
    · refine zW_iconst dX11_isVersionSet_10 ?_
      refine zW_goto 15 dX11_isVersionSet_11 rfl ?_
      exact zS_z hw rfl (Or.inr rfl) dX11_isVersionSet_15 hf
theorem kX11_isVersionSet {X : zX} {e : Nat → Prop} (hw : zWf X e) {v0 : Int}  {I : zMem} {u : Int} (hf : fX11_isVersionSet v0 = some u) : zCn X mX11_isVersionSet yX11_isVersionSet [vi v0] I (some (vi u), I) := zCn_of (by decide +kernel) rfl rfl ⟨rfl, rfl⟩ (tX11_isVersionSet_0 hw.N  hf)
set_option maxRecDepth 100000 in
theorem tX11_countVersions_b10_52 {X : zX} {e : Nat → Prop} (hw : zWf X e) {T : zT} {v1 : Int} {v2 : Int} {w3 : Int} {I : zMem} (o : zOk e (0, 0, 0)) (h1 : e 1) {u : ((Int × zMem) ⊕ (Int × zMem))} (hf : fX11_countVersions_b10_52 v1 v2 w3 I = some u) (hk : ∀ s', u = .inl s' → zW X T mX11_countVersions 10 [(0, .ref (zad X (0, 0, 0))), (1, vi v1), (2, vi v2), (3, vi s'.1)] [] s'.2) (hx : ∀ x, u = .inr x → zW X T mX11_countVersions 58 [] [] x.2) : zW X T mX11_countVersions 52 [(0, .ref (zad X (0, 0, 0))), (1, vi v1), (2, vi v2), (3, vi w3)] [] I := by
  unfold fX11_countVersions_b10_52 at hf
  refine zW_iinc 3 (lv' := [(3, vi (w3 + 1)), (0, .ref (zad X (0, 0, 0))), (1, vi v1), (2, vi v2)]) dX11_countVersions_52 rfl rfl rfl ?_
  refine zW_goto 10 dX11_countVersions_55 rfl ?_
  refine zW_sub [1, 2, 3, 0] rfl ?_
  exact hk _ (Option.some.inj hf).symm
set_option maxRecDepth 100000 in
theorem tX11_countVersions_l10_y {X : zX} {e : Nat → Prop} (hw : zWf X e) {T : zT} {v1 : Int} {v2 : Int} (o : zOk e (0, 0, 0)) (h1 : e 1) (s : (Int × zMem)) {u : ((Int × zMem) ⊕ (Int × zMem))} (hf : fX11_countVersions_l10 v1 v2 s = some u) (hk : ∀ s', u = .inl s' → zW X T mX11_countVersions 10 [(0, .ref (zad X (0, 0, 0))), (1, vi v1), (2, vi v2), (3, vi s'.1)] [] s'.2) (hx : ∀ x, u = .inr x → zW X T mX11_countVersions 58 [] [] x.2) : zW X T mX11_countVersions 10 [(0, .ref (zad X (0, 0, 0))), (1, vi v1), (2, vi v2), (3, vi s.1)] [] s.2 := by
  unfold fX11_countVersions_l10 at hf
  refine zW_iload_n 3 dX11_countVersions_10 rfl ?_
  refine zW_iconst dX11_countVersions_11 ?_
  refine zF_icmp_ge 58 dX11_countVersions_12 rfl rfl (w32_lit _ rfl) hf (fun c hf => ?_) (fun c hf => ?_)
  · refine zW_sub [] rfl ?_
    exact hx _ (Option.some.inj hf).symm
  · refine zW_iload_n 1 dX11_countVersions_15 rfl ?_
    refine zW_iload_n 3 dX11_countVersions_16 rfl ?_
    refine zW_ishr dX11_countVersions_17 ?_
    refine zW_iconst dX11_countVersions_18 ?_
    refine zW_iand_1 dX11_countVersions_19 ?_
    refine zW_iconst dX11_countVersions_20 ?_
    refine zF_icmp_ne 52 dX11_countVersions_21 rfl (w32_emod _ _ rfl) (w32_lit _ rfl) hf (fun c hf => ?_) (fun c hf => ?_)
    · refine zW_aload_n 0 dX11_countVersions_24 rfl ?_
      refine zW_getR (q' := (2, 0, 0)) lk_RX11_19 (hw.1 _ o) rfl rfl (hw.2.1 _ _ _ o rfl) dX11_countVersions_25 ?_
      refine zW_aload_n 0 dX11_countVersions_28 rfl ?_
      refine zW_getR (q' := (7, 1, 0)) lk_RX11_56 (hw.1 _ o) rfl rfl (hw.2.1 _ _ _ o rfl) dX11_countVersions_29 ?_
      refine zW_getI lk_RX11_94 (hw.1 _ (zok1 (r' := 7) h1 rfl)) rfl rfl dX11_countVersions_32 ?_
      refine zW_iload_n 3 dX11_countVersions_35 rfl ?_
      refine zW_iload_n 2 dX11_countVersions_36 rfl ?_
      refine zC_Vwv (As := [vi (s.2 (7, 1, 0) 4), vi s.1, vi v2]) (fun x hx => kX6_lay hw (v1 := s.2 (7, 1, 0) 4) (v2 := s.1) (v3 := v2) (zokA (r' := 2) o rfl rfl) hx) mv_RX11_107 (hw.1 _ (zokA (r' := 2) o rfl rfl)) rfl rfl rfl rfl rfl dX11_countVersions_37 hf (fun r2 hf => ?_)
      refine zW_aload_n 0 dX11_countVersions_40 rfl ?_
      refine zW_getR (q' := (2, 0, 0)) lk_RX11_19 (hw.1 _ o) rfl rfl (hw.2.1 _ _ _ o rfl) dX11_countVersions_41 ?_
      refine zW_aload_n 0 dX11_countVersions_44 rfl ?_
      refine zW_getR (q' := (13, 0, 0)) lk_RX11_64 (hw.1 _ o) rfl rfl (hw.2.1 _ _ _ o rfl) dX11_countVersions_45 ?_
      refine zW_iload_n 2 dX11_countVersions_48 rfl ?_
      refine zC_Vwv (As := [.ref (zad X (13, 0, 0)), vi v2]) (fun x hx => kX6_addTo hw (q1 := (13, 0, 0)) (v2 := v2) (zokA (r' := 2) o rfl rfl) (hw.1 _ (zokA (r' := 13) o rfl rfl)) rfl hx) mv_RX11_316 (hw.1 _ (zokA (r' := 2) o rfl rfl)) rfl rfl rfl rfl rfl dX11_countVersions_49 hf (fun r3 hf => ?_)
      refine zW_sub [0, 1, 2, 3] rfl ?_
      exact tX11_countVersions_b10_52 hw o h1 hf hk hx
    · refine zW_sub [0, 1, 2, 3] rfl ?_
      exact tX11_countVersions_b10_52 hw o h1 hf hk hx
theorem tX11_countVersions_l10 {X : zX} {e : Nat → Prop} (hw : zWf X e) {T : zT} {v1 : Int} {v2 : Int} (o : zOk e (0, 0, 0)) (h1 : e 1) {s0 : (Int × zMem)} {α : Type} {F : (Int × zMem) → Option α} {u : α} (hf : zb (zlp (fX11_countVersions_l10 v1 v2) 5000 s0) F = some u) (kx : ∀ x, F x = some u → zW X T mX11_countVersions 58 [] [] x.2) : zW X T mX11_countVersions 10 [(0, .ref (zad X (0, 0, 0))), (1, vi v1), (2, vi v2), (3, vi s0.1)] [] s0.2 := by
  obtain ⟨x, h, hf⟩ := zb_inv hf
  exact zlp_W (P := fun s => zW X T mX11_countVersions 10 [(0, .ref (zad X (0, 0, 0))), (1, vi v1), (2, vi v2), (3, vi s.1)] [] s.2) (E := fun x => zW X T mX11_countVersions 58 [] [] x.2) (fun s u h hk hx => tX11_countVersions_l10_y hw o h1 s h hk hx) _ s0 x h (kx x hf)
set_option maxRecDepth 100000 in
theorem tX11_countVersions_0 {X : zX} {e : Nat → Prop} (hw : zWf X e) {v1 : Int} {v2 : Int} (o : zOk e (0, 0, 0)) (h1 : e 1) {I : zMem} {u : zMem} (hf : fX11_countVersions v1 v2 I = some u) : zW X (none, u) mX11_countVersions 0 [(0, .ref (zad X (0, 0, 0))), (1, vi v1), (2, vi v2)] [] I := by
  unfold fX11_countVersions at hf
  refine zW_aload_n 0 dX11_countVersions_0 rfl ?_
  refine zW_getR (q' := (13, 0, 0)) lk_RX11_64 (hw.1 _ o) rfl rfl (hw.2.1 _ _ _ o rfl) dX11_countVersions_1 ?_
  refine zW_iconst dX11_countVersions_4 ?_
  refine zC_Swv (As := [.ref (zad X (13, 0, 0)), vi 0]) (fun x hx => kJ7_fill_53178 hw (q0 := (13, 0, 0)) (n0 := 39) (v1 := 0) (hw.1 _ (zokA (r' := 13) o rfl rfl)) rfl hx) ms_RX11_336 rfl rfl rfl rfl dX11_countVersions_5 hf (fun r1 hf => ?_)
  refine zW_iconst dX11_countVersions_8 ?_
  refine zW_istore_n (lv' := [(3, vi 0), (0, .ref (zad X (0, 0, 0))), (1, vi v1), (2, vi v2)]) dX11_countVersions_9 rfl rfl ?_
  refine zW_sub [1, 2, 3, 0] rfl ?_
  refine tX11_countVersions_l10 hw o h1 (s0 := (0, r1)) hf (fun x4 hf => ?_)
  exact zR_v hw rfl dX11_countVersions_58 hf
theorem kX11_countVersions {X : zX} {e : Nat → Prop} (hw : zWf X e) {v1 : Int} {v2 : Int} (o : zOk e (0, 0, 0)) (h1 : e 1) {I : zMem} {u : zMem} (hf : fX11_countVersions v1 v2 I = some u) : zCn X mX11_countVersions yX11_countVersions [.ref (zad X (0, 0, 0)), vi v1, vi v2] I (none, u) := zCn_of (by decide +kernel) rfl rfl ⟨rfl, rfl⟩ (tX11_countVersions_0 hw.N o h1 hf)
set_option maxRecDepth 100000 in
theorem tX11_unsentBits_b13_41 {X : zX} {e : Nat → Prop} (hw : zWf X e) {T : zT} {v1 : Int} {v2 : Int} {I : zMem} {w3 : Int} {w5 : Int} (o : zOk e (0, 0, 0)) (h1 : e 1) {u : ((Int × Int) ⊕ (Int × Int))} (hf : fX11_unsentBits_b13_41 v1 v2 I w3 w5 = some u) (hk : ∀ s', u = .inl s' → zW X T mX11_unsentBits 13 [(0, .ref (zad X (0, 0, 0))), (3, vl s'.1), (5, vi s'.2)] [] I) (hx : ∀ x, u = .inr x → zW X T mX11_unsentBits 47 [(3, vl x.1)] [] I) : zW X T mX11_unsentBits 41 [(0, .ref (zad X (0, 0, 0))), (3, vl w3), (5, vi w5)] [] I := by
  unfold fX11_unsentBits_b13_41 at hf
  refine zW_iinc 2 (lv' := [(5, vi (w5 + 1)), (0, .ref (zad X (0, 0, 0))), (3, vl w3)]) dX11_unsentBits_41 rfl rfl rfl ?_
  refine zW_goto 13 dX11_unsentBits_44 rfl ?_
  refine zW_sub [1, 2, 0] rfl ?_
  exact hk _ (Option.some.inj hf).symm
set_option maxRecDepth 100000 in
theorem tX11_unsentBits_l13_y {X : zX} {e : Nat → Prop} (hw : zWf X e) {T : zT} {v1 : Int} {v2 : Int} {I : zMem} (o : zOk e (0, 0, 0)) (h1 : e 1) (s : (Int × Int)) {u : ((Int × Int) ⊕ (Int × Int))} (hf : fX11_unsentBits_l13 v1 v2 I s = some u) (hk : ∀ s', u = .inl s' → zW X T mX11_unsentBits 13 [(0, .ref (zad X (0, 0, 0))), (3, vl s'.1), (5, vi s'.2)] [] I) (hx : ∀ x, u = .inr x → zW X T mX11_unsentBits 47 [(3, vl x.1)] [] I) : zW X T mX11_unsentBits 13 [(0, .ref (zad X (0, 0, 0))), (3, vl s.1), (5, vi s.2)] [] I := by
  unfold fX11_unsentBits_l13 at hf
  refine zW_iload 2 dX11_unsentBits_13 rfl ?_
  refine zW_bipush dX11_unsentBits_15 rfl ?_
  refine zF_icmp_ge 47 dX11_unsentBits_17 rfl rfl (w32_lit _ rfl) hf (fun c hf => ?_) (fun c hf => ?_)
  · refine zW_sub [1] rfl ?_
    exact hx _ (Option.some.inj hf).symm
  · refine zW_aload_n 0 dX11_unsentBits_20 rfl ?_
    refine zW_getR (q' := (13, 0, 0)) lk_RX11_64 (hw.1 _ o) rfl rfl (hw.2.1 _ _ _ o rfl) dX11_unsentBits_21 ?_
    refine zW_iload 2 dX11_unsentBits_24 rfl ?_
    obtain ⟨c2, hf⟩ := zgd hf
    refine zF_iald (hw.1 _ (zokA (r' := 13) o rfl rfl)) rfl c2 rfl dX11_unsentBits_26 ?_
    refine zF_if_le 41 dX11_unsentBits_27 rfl rfl hf (fun c hf => ?_) (fun c hf => ?_)
    · refine zW_sub [0, 1, 2] rfl ?_
      exact tX11_unsentBits_b13_41 hw o h1 hf hk hx
    · refine zW_lload_n 1 dX11_unsentBits_30 rfl ?_
      refine zW_lconst1 dX11_unsentBits_31 ?_
      refine zW_iload 2 dX11_unsentBits_32 rfl ?_
      refine zW_lshl dX11_unsentBits_34 ?_
      refine zW_ldc2 dX11_unsentBits_35 wc_RX11_445 ?_
      refine zW_lxor dX11_unsentBits_38 ?_
      refine zW_land dX11_unsentBits_39 ?_
      refine zF_lstore_n (lv' := fun a3 => [(3, vl a3), (0, .ref (zad X (0, 0, 0))), (5, vi s.2)]) dX11_unsentBits_40 hf (fun _ => rfl) rfl (fun a3 hf => ?_)
      refine zW_sub [1, 0, 2] rfl ?_
      exact tX11_unsentBits_b13_41 hw o h1 hf hk hx
theorem tX11_unsentBits_l13 {X : zX} {e : Nat → Prop} (hw : zWf X e) {T : zT} {v1 : Int} {v2 : Int} {I : zMem} (o : zOk e (0, 0, 0)) (h1 : e 1) {s0 : (Int × Int)} {α : Type} {F : (Int × Int) → Option α} {u : α} (hf : zb (zlp (fX11_unsentBits_l13 v1 v2 I) 5000 s0) F = some u) (kx : ∀ x, F x = some u → zW X T mX11_unsentBits 47 [(3, vl x.1)] [] I) : zW X T mX11_unsentBits 13 [(0, .ref (zad X (0, 0, 0))), (3, vl s0.1), (5, vi s0.2)] [] I := by
  obtain ⟨x, h, hf⟩ := zb_inv hf
  exact zlp_W (P := fun s => zW X T mX11_unsentBits 13 [(0, .ref (zad X (0, 0, 0))), (3, vl s.1), (5, vi s.2)] [] I) (E := fun x => zW X T mX11_unsentBits 47 [(3, vl x.1)] [] I) (fun s u h hk hx => tX11_unsentBits_l13_y hw o h1 s h hk hx) _ s0 x h (kx x hf)
set_option maxRecDepth 100000 in
theorem tX11_unsentBits_0 {X : zX} {e : Nat → Prop} (hw : zWf X e) {v1 : Int} {v2 : Int} (o : zOk e (0, 0, 0)) (h1 : e 1) {I : zMem} {u : (Int × zMem)} (hf : fX11_unsentBits v1 v2 I = some u) : zW X (some (vl u.1), u.2) mX11_unsentBits 0 [(0, .ref (zad X (0, 0, 0))), (1, vi v1), (2, vi v2)] [] I := by
  unfold fX11_unsentBits at hf
  refine zW_aload_n 0 dX11_unsentBits_0 rfl ?_
  refine zW_iload_n 1 dX11_unsentBits_1 rfl ?_
  refine zW_iload_n 2 dX11_unsentBits_2 rfl ?_
  refine zC_Vwv (As := [vi v1, vi v2]) (fun x hx => kX11_countVersions hw (v1 := v1) (v2 := v2) o h1 hx) mv_RX11_156 (hw.1 _ o) rfl rfl rfl rfl rfl dX11_unsentBits_3 hf (fun r1 hf => ?_)
  refine zW_ldc2 dX11_unsentBits_6 wc_RX11_443 ?_
  refine zW_lstore_n (lv' := [(3, vl 549755813887), (0, .ref (zad X (0, 0, 0))), (1, vi v1), (2, vi v2)]) dX11_unsentBits_9 rfl rfl ?_
  refine zW_iconst dX11_unsentBits_10 ?_
  refine zW_istore (lv' := [(5, vi 0), (3, vl 549755813887), (0, .ref (zad X (0, 0, 0))), (1, vi v1), (2, vi v2)]) dX11_unsentBits_11 rfl rfl ?_
  refine zW_sub [2, 1, 0] rfl ?_
  refine tX11_unsentBits_l13 hw o h1 (s0 := (549755813887, 0)) hf (fun x4 hf => ?_)
  refine zW_lload_n 0 dX11_unsentBits_47 rfl ?_
  exact zR_l hw rfl dX11_unsentBits_48 hf
theorem kX11_unsentBits {X : zX} {e : Nat → Prop} (hw : zWf X e) {v1 : Int} {v2 : Int} (o : zOk e (0, 0, 0)) (h1 : e 1) {I : zMem} {u : (Int × zMem)} (hf : fX11_unsentBits v1 v2 I = some u) : zCn X mX11_unsentBits yX11_unsentBits [.ref (zad X (0, 0, 0)), vi v1, vi v2] I (some (vl u.1), u.2) := zCn_of (by decide +kernel) rfl rfl ⟨rfl, rfl⟩ (tX11_unsentBits_0 hw.N o h1 hf)
set_option maxRecDepth 100000 in
theorem tX11_covers_0 {X : zX} {e : Nat → Prop} (hw : zWf X e) {v1 : Int} {v2 : Int} (o : zOk e (0, 0, 0)) (h1 : e 1) {I : zMem} {u : (Int × zMem)} (hf : fX11_covers v1 v2 I = some u) : zW X (some (vi u.1), u.2) mX11_covers 0 [(0, .ref (zad X (0, 0, 0))), (1, vi v1), (2, vi v2)] [] I := by
  unfold fX11_covers at hf
  refine zW_iload_n 1 dX11_covers_0 rfl ?_
  refine zC_Sri (As := [vi v1]) (fun x hx => kX11_isVersionSet hw (v0 := v1)  hx) ms_RX11_114 rfl rfl rfl rfl dX11_covers_1 hf (fun r1 hf => ?_)
  refine zF_if_eq 14 dX11_covers_4 rfl rfl hf (fun c hf => ?_) (fun c hf => ?_)
  · refine zW_bipush dX11_covers_14 rfl ?_
    exact zR_i hw rfl dX11_covers_16 hf
  · refine zW_iload_n 2 dX11_covers_7 rfl ?_
    refine zC_Sri (As := [vi v2]) (fun x hx => kX11_isLength hw (v0 := v2)  hx) ms_RX11_104 rfl rfl rfl rfl dX11_covers_8 hf (fun r2 hf => ?_)
    refine zF_if_ne 17 dX11_covers_11 rfl rfl hf (fun c hf => ?_) (fun c hf => ?_)
    · refine zW_bipush dX11_covers_14 rfl ?_
      exact zR_i hw rfl dX11_covers_16 hf
    · refine zW_bipush dX11_covers_17 rfl ?_
      refine zW_aload_n 0 dX11_covers_19 rfl ?_
      refine zW_iload_n 1 dX11_covers_20 rfl ?_
      refine zW_iload_n 2 dX11_covers_21 rfl ?_
      refine zC_Vwl (As := [vi v1, vi v2]) (fun x hx => kX11_unsentBits hw (v1 := v1) (v2 := v2) o h1 hx) mv_RX11_117 (hw.1 _ o) rfl rfl rfl rfl rfl dX11_covers_22 hf (fun r3 hf => ?_)
      refine zC_Sri (As := [vl r3.1]) (fun x hx => kJ13_bitCount_95d88 hw (v0 := r3.1)  hx) ms_RX11_121 rfl rfl rfl rfl dX11_covers_25 hf (fun r4 hf => ?_)
      refine zW_isub dX11_covers_28 ?_
      exact zR_i hw rfl dX11_covers_29 hf
theorem kX11_covers {X : zX} {e : Nat → Prop} (hw : zWf X e) {v1 : Int} {v2 : Int} (o : zOk e (0, 0, 0)) (h1 : e 1) {I : zMem} {u : (Int × zMem)} (hf : fX11_covers v1 v2 I = some u) : zCn X mX11_covers yX11_covers [.ref (zad X (0, 0, 0)), vi v1, vi v2] I (some (vi u.1), u.2) := zCn_of (by decide +kernel) rfl rfl ⟨rfl, rfl⟩ (tX11_covers_0 hw.N o h1 hf)
set_option maxRecDepth 100000 in
theorem tX11_lacks_0 {X : zX} {e : Nat → Prop} (hw : zWf X e) {v1 : Int} {v2 : Int} (o : zOk e (0, 0, 0)) (h1 : e 1) {I : zMem} {u : (Int × zMem)} (hf : fX11_lacks v1 v2 I = some u) : zW X (some (vl u.1), u.2) mX11_lacks 0 [(0, .ref (zad X (0, 0, 0))), (1, vi v1), (2, vi v2)] [] I := by
  unfold fX11_lacks at hf
  refine zW_iload_n 1 dX11_lacks_0 rfl ?_
  refine zC_Sri (As := [vi v1]) (fun x hx => kX11_isVersionSet hw (v0 := v1)  hx) ms_RX11_114 rfl rfl rfl rfl dX11_lacks_1 hf (fun r1 hf => ?_)
  refine zF_if_eq 14 dX11_lacks_4 rfl rfl hf (fun c hf => ?_) (fun c hf => ?_)
  · refine zW_ldc2 dX11_lacks_14 wc_RX11_89 ?_
    exact zR_l hw rfl dX11_lacks_17 hf
  · refine zW_iload_n 2 dX11_lacks_7 rfl ?_
    refine zC_Sri (As := [vi v2]) (fun x hx => kX11_isLength hw (v0 := v2)  hx) ms_RX11_104 rfl rfl rfl rfl dX11_lacks_8 hf (fun r2 hf => ?_)
    refine zF_if_ne 18 dX11_lacks_11 rfl rfl hf (fun c hf => ?_) (fun c hf => ?_)
    · refine zW_ldc2 dX11_lacks_14 wc_RX11_89 ?_
      exact zR_l hw rfl dX11_lacks_17 hf
    · refine zW_aload_n 0 dX11_lacks_18 rfl ?_
      refine zW_iload_n 1 dX11_lacks_19 rfl ?_
      refine zW_iload_n 2 dX11_lacks_20 rfl ?_
      refine zC_Vwl (As := [vi v1, vi v2]) (fun x hx => kX11_unsentBits hw (v1 := v1) (v2 := v2) o h1 hx) mv_RX11_117 (hw.1 _ o) rfl rfl rfl rfl rfl dX11_lacks_21 hf (fun r3 hf => ?_)
      exact zR_l hw rfl dX11_lacks_24 hf
theorem kX11_lacks {X : zX} {e : Nat → Prop} (hw : zWf X e) {v1 : Int} {v2 : Int} (o : zOk e (0, 0, 0)) (h1 : e 1) {I : zMem} {u : (Int × zMem)} (hf : fX11_lacks v1 v2 I = some u) : zCn X mX11_lacks yX11_lacks [.ref (zad X (0, 0, 0)), vi v1, vi v2] I (some (vl u.1), u.2) := zCn_of (by decide +kernel) rfl rfl ⟨rfl, rfl⟩ (tX11_lacks_0 hw.N o h1 hf)
set_option maxRecDepth 100000 in
theorem tX11_weighVersions_0 {X : zX} {e : Nat → Prop} (hw : zWf X e) {v1 : Int} {v2 : Int} (o : zOk e (0, 0, 0)) (h1 : e 1) {I : zMem} {u : zMem} (hf : fX11_weighVersions v1 v2 I = some u) : zW X (none, u) mX11_weighVersions 0 [(0, .ref (zad X (0, 0, 0))), (1, vi v1), (2, vi v2)] [] I := by
  unfold fX11_weighVersions at hf
  refine zW_aload_n 0 dX11_weighVersions_0 rfl ?_
  refine zW_iload_n 1 dX11_weighVersions_1 rfl ?_
  refine zW_iload_n 2 dX11_weighVersions_2 rfl ?_
  refine zC_Vwv (As := [vi v1, vi v2]) (fun x hx => kX11_countVersions hw (v1 := v1) (v2 := v2) o h1 hx) mv_RX11_156 (hw.1 _ o) rfl rfl rfl rfl rfl dX11_weighVersions_3 hf (fun r1 hf => ?_)
  refine zW_aload_n 0 dX11_weighVersions_6 rfl ?_
  refine zW_getR (q' := (3, 0, 0)) lk_RX11_26 (hw.1 _ o) rfl rfl (hw.2.1 _ _ _ o rfl) dX11_weighVersions_7 ?_
  refine zW_aload_n 0 dX11_weighVersions_10 rfl ?_
  refine zW_getR (q' := (13, 0, 0)) lk_RX11_64 (hw.1 _ o) rfl rfl (hw.2.1 _ _ _ o rfl) dX11_weighVersions_11 ?_
  refine zC_Vwv (As := [.ref (zad X (13, 0, 0))]) (fun x hx => kX10_take hw (q1 := (13, 0, 0)) (zokA (r' := 3) o rfl rfl) (hw.1 _ (zokA (r' := 13) o rfl rfl)) rfl hx) mv_RX11_320 (hw.1 _ (zokA (r' := 3) o rfl rfl)) rfl rfl rfl rfl rfl dX11_weighVersions_14 hf (fun r2 hf => ?_)
  exact zR_v hw rfl dX11_weighVersions_17 hf
theorem kX11_weighVersions {X : zX} {e : Nat → Prop} (hw : zWf X e) {v1 : Int} {v2 : Int} (o : zOk e (0, 0, 0)) (h1 : e 1) {I : zMem} {u : zMem} (hf : fX11_weighVersions v1 v2 I = some u) : zCn X mX11_weighVersions yX11_weighVersions [.ref (zad X (0, 0, 0)), vi v1, vi v2] I (none, u) := zCn_of (by decide +kernel) rfl rfl ⟨rfl, rfl⟩ (tX11_weighVersions_0 hw.N o h1 hf)
set_option maxRecDepth 100000 in
theorem tX11_between_0 {X : zX} {e : Nat → Prop} (hw : zWf X e) {v1 : Int} {v2 : Int} {v3 : Int} {v4 : Int} (o : zOk e (0, 0, 0)) (h1 : e 1) {I : zMem} {u : (Int × zMem)} (hf : fX11_between v1 v2 v3 v4 I = some u) : zW X (some (vi u.1), u.2) mX11_between 0 [(0, .ref (zad X (0, 0, 0))), (1, vi v1), (2, vi v2), (3, vi v3), (4, vi v4)] [] I := by
  unfold fX11_between at hf
  refine zW_iload_n 1 dX11_between_0 rfl ?_
  refine zC_Sri (As := [vi v1]) (fun x hx => kX11_isWord hw (v0 := v1)  hx) ms_RX11_83 rfl rfl rfl rfl dX11_between_1 hf (fun r1 hf => ?_)
  refine zF_if_eq 29 dX11_between_4 rfl rfl hf (fun c hf => ?_) (fun c hf => ?_)
  · refine zW_bipush dX11_between_29 rfl ?_
    exact zR_i hw rfl dX11_between_31 hf
  · refine zW_iload_n 2 dX11_between_7 rfl ?_
    refine zC_Sri (As := [vi v2]) (fun x hx => kX11_isWord hw (v0 := v2)  hx) ms_RX11_83 rfl rfl rfl rfl dX11_between_8 hf (fun r2 hf => ?_)
    refine zF_if_eq 29 dX11_between_11 rfl rfl hf (fun c hf => ?_) (fun c hf => ?_)
    · refine zW_bipush dX11_between_29 rfl ?_
      exact zR_i hw rfl dX11_between_31 hf
    · refine zW_iload_n 3 dX11_between_14 rfl ?_
      refine zC_Sri (As := [vi v3]) (fun x hx => kX11_isVersionSet hw (v0 := v3)  hx) ms_RX11_114 rfl rfl rfl rfl dX11_between_15 hf (fun r3 hf => ?_)
      refine zF_if_eq 29 dX11_between_18 rfl rfl hf (fun c hf => ?_) (fun c hf => ?_)
      · refine zW_bipush dX11_between_29 rfl ?_
        exact zR_i hw rfl dX11_between_31 hf
      · refine zW_iload 4 dX11_between_21 rfl ?_
        refine zC_Sri (As := [vi v4]) (fun x hx => kX11_isLength hw (v0 := v4)  hx) ms_RX11_104 rfl rfl rfl rfl dX11_between_23 hf (fun r4 hf => ?_)
        refine zF_if_ne 32 dX11_between_26 rfl rfl hf (fun c hf => ?_) (fun c hf => ?_)
        · refine zW_bipush dX11_between_29 rfl ?_
          exact zR_i hw rfl dX11_between_31 hf
        · refine zW_aload_n 0 dX11_between_32 rfl ?_
          refine zW_iload_n 3 dX11_between_33 rfl ?_
          refine zW_iload 4 dX11_between_34 rfl ?_
          refine zC_Vwv (As := [vi v3, vi v4]) (fun x hx => kX11_weighVersions hw (v1 := v3) (v2 := v4) o h1 hx) mv_RX11_127 (hw.1 _ o) rfl rfl rfl rfl rfl dX11_between_36 hf (fun r5 hf => ?_)
          refine zW_aload_n 0 dX11_between_39 rfl ?_
          refine zW_getR (q' := (3, 0, 0)) lk_RX11_26 (hw.1 _ o) rfl rfl (hw.2.1 _ _ _ o rfl) dX11_between_40 ?_
          refine zW_aload_n 0 dX11_between_43 rfl ?_
          refine zW_getR (q' := (1, 0, 0)) lk_RX11_12 (hw.1 _ o) rfl rfl (hw.2.1 _ _ _ o rfl) dX11_between_44 ?_
          refine zW_getR (q' := (16, 0, 0)) lk_RX11_91 (hw.1 _ (zokA (r' := 1) o rfl rfl)) rfl rfl (hw.2.1 _ _ _ (zokA (r' := 1) o rfl rfl) rfl) dX11_between_47 ?_
          refine zW_iload_n 1 dX11_between_50 rfl ?_
          obtain ⟨c6, hf⟩ := zgd hf
          refine zF_lald (hw.1 _ (zokA (r' := 16) (zokA (r' := 1) o rfl rfl) rfl rfl)) rfl c6 rfl dX11_between_51 ?_
          refine zW_aload_n 0 dX11_between_52 rfl ?_
          refine zW_getR (q' := (1, 0, 0)) lk_RX11_12 (hw.1 _ o) rfl rfl (hw.2.1 _ _ _ o rfl) dX11_between_53 ?_
          refine zW_getR (q' := (16, 0, 0)) lk_RX11_91 (hw.1 _ (zokA (r' := 1) o rfl rfl)) rfl rfl (hw.2.1 _ _ _ (zokA (r' := 1) o rfl rfl) rfl) dX11_between_56 ?_
          refine zW_iload_n 2 dX11_between_59 rfl ?_
          obtain ⟨c7, hf⟩ := zgd hf
          refine zF_lald (hw.1 _ (zokA (r' := 16) (zokA (r' := 1) o rfl rfl) rfl rfl)) rfl c7 rfl dX11_between_60 ?_
          refine zW_lxor dX11_between_61 ?_
          refine zC_Vri (As := [vl (lxor (r5 (16, 0, 0) (ix v1)) (r5 (16, 0, 0) (ix v2)))]) (fun x hx => kX10_weigh hw (v1 := lxor (r5 (16, 0, 0) (ix v1)) (r5 (16, 0, 0) (ix v2))) (zokA (r' := 3) o rfl rfl) hx) mv_RX11_131 (hw.1 _ (zokA (r' := 3) o rfl rfl)) rfl rfl rfl rfl rfl dX11_between_62 hf (fun r8 hf => ?_)
          exact zR_i hw rfl dX11_between_65 hf
theorem kX11_between {X : zX} {e : Nat → Prop} (hw : zWf X e) {v1 : Int} {v2 : Int} {v3 : Int} {v4 : Int} (o : zOk e (0, 0, 0)) (h1 : e 1) {I : zMem} {u : (Int × zMem)} (hf : fX11_between v1 v2 v3 v4 I = some u) : zCn X mX11_between yX11_between [.ref (zad X (0, 0, 0)), vi v1, vi v2, vi v3, vi v4] I (some (vi u.1), u.2) := zCn_of (by decide +kernel) rfl rfl ⟨rfl, rfl⟩ (tX11_between_0 hw.N o h1 hf)
set_option maxRecDepth 100000 in
theorem tX11_distance_0 {X : zX} {e : Nat → Prop} (hw : zWf X e) {v1 : Int} {v2 : Int} {v3 : Int} (o : zOk e (0, 0, 0)) (h1 : e 1) {I : zMem} {u : (Int × zMem)} (hf : fX11_distance v1 v2 v3 I = some u) : zW X (some (vi u.1), u.2) mX11_distance 0 [(0, .ref (zad X (0, 0, 0))), (1, vi v1), (2, vi v2), (3, vi v3)] [] I := by
  unfold fX11_distance at hf
  refine zW_iload_n 3 dX11_distance_0 rfl ?_
  refine zF_if_lt 9 dX11_distance_1 rfl rfl hf (fun c hf => ?_) (fun c hf => ?_)
  · refine zW_bipush dX11_distance_9 rfl ?_
    exact zR_i hw rfl dX11_distance_11 hf
  · refine zW_iload_n 3 dX11_distance_4 rfl ?_
    refine zW_iconst dX11_distance_5 ?_
    refine zF_icmp_le 12 dX11_distance_6 rfl rfl (w32_lit _ rfl) hf (fun c hf => ?_) (fun c hf => ?_)
    · refine zW_iload_n 1 dX11_distance_12 rfl ?_
      refine zC_Sri (As := [vi v1]) (fun x hx => kX11_isVersionSet hw (v0 := v1)  hx) ms_RX11_114 rfl rfl rfl rfl dX11_distance_13 hf (fun r1 hf => ?_)
      refine zF_if_eq 26 dX11_distance_16 rfl rfl hf (fun c hf => ?_) (fun c hf => ?_)
      · refine zW_bipush dX11_distance_26 rfl ?_
        exact zR_i hw rfl dX11_distance_28 hf
      · refine zW_iload_n 2 dX11_distance_19 rfl ?_
        refine zC_Sri (As := [vi v2]) (fun x hx => kX11_isLength hw (v0 := v2)  hx) ms_RX11_104 rfl rfl rfl rfl dX11_distance_20 hf (fun r2 hf => ?_)
        refine zF_if_ne 29 dX11_distance_23 rfl rfl hf (fun c hf => ?_) (fun c hf => ?_)
        · refine zW_bipush dX11_distance_26 rfl ?_
          exact zR_i hw rfl dX11_distance_28 hf
        · refine zW_aload_n 0 dX11_distance_29 rfl ?_
          refine zW_iload_n 1 dX11_distance_30 rfl ?_
          refine zW_iload_n 2 dX11_distance_31 rfl ?_
          refine zC_Vwv (As := [vi v1, vi v2]) (fun x hx => kX11_weighVersions hw (v1 := v1) (v2 := v2) o h1 hx) mv_RX11_127 (hw.1 _ o) rfl rfl rfl rfl rfl dX11_distance_32 hf (fun r3 hf => ?_)
          refine zW_iload_n 3 dX11_distance_35 rfl ?_
          refine zW_iconst dX11_distance_36 ?_
          refine zW_iand_1 dX11_distance_37 ?_
          refine zF_if_ne 51 dX11_distance_38 rfl (w32_emod _ _ rfl) hf (fun c hf => ?_) (fun c hf => ?_)
          · refine zW_aload_n 0 dX11_distance_41 rfl ?_
            refine zW_getR (q' := (1, 0, 0)) lk_RX11_12 (hw.1 _ o) rfl rfl (hw.2.1 _ _ _ o rfl) dX11_distance_42 ?_
            refine zW_getR (q' := (16, 0, 0)) lk_RX11_91 (hw.1 _ (zokA (r' := 1) o rfl rfl)) rfl rfl (hw.2.1 _ _ _ (zokA (r' := 1) o rfl rfl) rfl) dX11_distance_45 ?_
            refine zW_goto 58 dX11_distance_48 rfl ?_
            refine zW_astore (lv' := [(4, .ref (zad X (16, 0, 0))), (0, .ref (zad X (0, 0, 0))), (1, vi v1), (2, vi v2), (3, vi v3)]) dX11_distance_58 rfl rfl ?_
            refine zW_aload_n 1 dX11_distance_60 rfl ?_
            refine zW_getR (q' := (3, 0, 0)) lk_RX11_26 (hw.1 _ o) rfl rfl (hw.2.1 _ _ _ o rfl) dX11_distance_61 ?_
            refine zW_aload 0 dX11_distance_64 rfl ?_
            refine zC_Vri (As := [.ref (zad X (16, 0, 0))]) (fun x hx => kX10_least hw (q1 := (16, 0, 0)) (n1 := 2048) (zokA (r' := 3) o rfl rfl) (hw.1 _ (zokA (r' := 16) (zokA (r' := 1) o rfl rfl) rfl rfl)) rfl hx) mv_RX11_137 (hw.1 _ (zokA (r' := 3) o rfl rfl)) rfl rfl rfl rfl rfl dX11_distance_66 hf (fun r4 hf => ?_)
            refine zW_istore (lv' := [(5, vi r4), (4, .ref (zad X (16, 0, 0))), (0, .ref (zad X (0, 0, 0))), (1, vi v1), (2, vi v2), (3, vi v3)]) dX11_distance_69 rfl rfl ?_
            refine zW_iload_n 5 dX11_distance_71 rfl ?_
            refine zW_iconst dX11_distance_72 ?_
            refine zF_icmp_ge 81 dX11_distance_73 rfl rfl (w32_lit _ rfl) hf (fun c hf => ?_) (fun c hf => ?_)
            · refine zW_aload_n 2 dX11_distance_81 rfl ?_
              refine zW_getR (q' := (3, 0, 0)) lk_RX11_26 (hw.1 _ o) rfl rfl (hw.2.1 _ _ _ o rfl) dX11_distance_82 ?_
              refine zW_aload 1 dX11_distance_85 rfl ?_
              refine zW_iload 0 dX11_distance_87 rfl ?_
              refine zC_Vri (As := [.ref (zad X (16, 0, 0)), vi r4]) (fun x hx => kX10_howManyAt hw (q1 := (16, 0, 0)) (n1 := 2048) (v2 := r4) (zokA (r' := 3) o rfl rfl) (hw.1 _ (zokA (r' := 16) (zokA (r' := 1) o rfl rfl) rfl rfl)) rfl hx) mv_RX11_141 (hw.1 _ (zokA (r' := 3) o rfl rfl)) rfl rfl rfl rfl rfl dX11_distance_89 hf (fun r5 hf => ?_)
              exact zR_i hw rfl dX11_distance_92 hf
            · refine zW_iload 0 dX11_distance_76 rfl ?_
              refine zW_goto 92 dX11_distance_78 rfl ?_
              exact zR_i hw rfl dX11_distance_92 hf
          · refine zW_aload_n 0 dX11_distance_51 rfl ?_
            refine zW_getR (q' := (1, 0, 0)) lk_RX11_12 (hw.1 _ o) rfl rfl (hw.2.1 _ _ _ o rfl) dX11_distance_52 ?_
            refine zW_getR (q' := (17, 0, 0)) lk_RX11_134 (hw.1 _ (zokA (r' := 1) o rfl rfl)) rfl rfl (hw.2.1 _ _ _ (zokA (r' := 1) o rfl rfl) rfl) dX11_distance_55 ?_
            refine zW_astore (lv' := [(4, .ref (zad X (17, 0, 0))), (0, .ref (zad X (0, 0, 0))), (1, vi v1), (2, vi v2), (3, vi v3)]) dX11_distance_58 rfl rfl ?_
            refine zW_aload_n 1 dX11_distance_60 rfl ?_
            refine zW_getR (q' := (3, 0, 0)) lk_RX11_26 (hw.1 _ o) rfl rfl (hw.2.1 _ _ _ o rfl) dX11_distance_61 ?_
            refine zW_aload 0 dX11_distance_64 rfl ?_
            refine zC_Vri (As := [.ref (zad X (17, 0, 0))]) (fun x hx => kX10_least hw (q1 := (17, 0, 0)) (n1 := 256) (zokA (r' := 3) o rfl rfl) (hw.1 _ (zokA (r' := 17) (zokA (r' := 1) o rfl rfl) rfl rfl)) rfl hx) mv_RX11_137 (hw.1 _ (zokA (r' := 3) o rfl rfl)) rfl rfl rfl rfl rfl dX11_distance_66 hf (fun r6 hf => ?_)
            refine zW_istore (lv' := [(5, vi r6), (4, .ref (zad X (17, 0, 0))), (0, .ref (zad X (0, 0, 0))), (1, vi v1), (2, vi v2), (3, vi v3)]) dX11_distance_69 rfl rfl ?_
            refine zW_iload_n 5 dX11_distance_71 rfl ?_
            refine zW_iconst dX11_distance_72 ?_
            refine zF_icmp_ge 81 dX11_distance_73 rfl rfl (w32_lit _ rfl) hf (fun c hf => ?_) (fun c hf => ?_)
            · refine zW_aload_n 2 dX11_distance_81 rfl ?_
              refine zW_getR (q' := (3, 0, 0)) lk_RX11_26 (hw.1 _ o) rfl rfl (hw.2.1 _ _ _ o rfl) dX11_distance_82 ?_
              refine zW_aload 1 dX11_distance_85 rfl ?_
              refine zW_iload 0 dX11_distance_87 rfl ?_
              refine zC_Vri (As := [.ref (zad X (17, 0, 0)), vi r6]) (fun x hx => kX10_howManyAt hw (q1 := (17, 0, 0)) (n1 := 256) (v2 := r6) (zokA (r' := 3) o rfl rfl) (hw.1 _ (zokA (r' := 17) (zokA (r' := 1) o rfl rfl) rfl rfl)) rfl hx) mv_RX11_141 (hw.1 _ (zokA (r' := 3) o rfl rfl)) rfl rfl rfl rfl rfl dX11_distance_89 hf (fun r7 hf => ?_)
              exact zR_i hw rfl dX11_distance_92 hf
            · refine zW_iload 0 dX11_distance_76 rfl ?_
              refine zW_goto 92 dX11_distance_78 rfl ?_
              exact zR_i hw rfl dX11_distance_92 hf
    · refine zW_bipush dX11_distance_9 rfl ?_
      exact zR_i hw rfl dX11_distance_11 hf
theorem kX11_distance {X : zX} {e : Nat → Prop} (hw : zWf X e) {v1 : Int} {v2 : Int} {v3 : Int} (o : zOk e (0, 0, 0)) (h1 : e 1) {I : zMem} {u : (Int × zMem)} (hf : fX11_distance v1 v2 v3 I = some u) : zCn X mX11_distance yX11_distance [.ref (zad X (0, 0, 0)), vi v1, vi v2, vi v3] I (some (vi u.1), u.2) := zCn_of (by decide +kernel) rfl rfl ⟨rfl, rfl⟩ (tX11_distance_0 hw.N o h1 hf)
set_option maxRecDepth 100000 in
theorem tX11_isDistance_b15 {X : zX} {e : Nat → Prop} (hw : zWf X e) {I : zMem} {v0 : Int}  {u : Int} (hf : fX11_isDistance_b15 v0 = some u) : zW X (some (vi u), I) mX11_isDistance 15 [] [] I := by
  unfold fX11_isDistance_b15 at hf
  refine zW_iconst dX11_isDistance_15 ?_
  exact zS_z hw rfl (Or.inl rfl) dX11_isDistance_16 hf
set_option maxRecDepth 100000 in
theorem tX11_isDistance_0 {X : zX} {e : Nat → Prop} (hw : zWf X e) {v0 : Int}  {I : zMem} {u : Int} (hf : fX11_isDistance v0 = some u) : zW X (some (vi u), I) mX11_isDistance 0 [(0, vi v0)] [] I := by
  unfold fX11_isDistance at hf
  refine zW_iload_n 0 dX11_isDistance_0 rfl ?_
  refine zW_iconst dX11_isDistance_1 ?_
  refine zF_icmp_lt 15 dX11_isDistance_2 rfl rfl (w32_lit _ rfl) hf (fun c hf => ?_) (fun c hf => ?_)
  · refine zW_sub [] rfl ?_
    exact tX11_isDistance_b15 hw  hf
  · refine zW_iload_n 0 dX11_isDistance_5 rfl ?_
    refine zW_bipush dX11_isDistance_6 rfl ?_
    refine zF_icmp_gt 15 dX11_isDistance_8 rfl rfl (w32_lit _ rfl) hf (fun c hf => ?_) (fun c hf => ?_)
    · refine zW_sub [] rfl ?_
      exact tX11_isDistance_b15 hw  hf
    · refine zW_iconst dX11_isDistance_11 ?_
      refine zW_goto 16 dX11_isDistance_12 rfl ?_
      exact zS_z hw rfl (Or.inr rfl) dX11_isDistance_16 hf
theorem kX11_isDistance {X : zX} {e : Nat → Prop} (hw : zWf X e) {v0 : Int}  {I : zMem} {u : Int} (hf : fX11_isDistance v0 = some u) : zCn X mX11_isDistance yX11_isDistance [vi v0] I (some (vi u), I) := zCn_of (by decide +kernel) rfl rfl ⟨rfl, rfl⟩ (tX11_isDistance_0 hw.N  hf)
set_option maxRecDepth 100000 in
theorem tX11_wholeApart_0 {X : zX} {e : Nat → Prop} (hw : zWf X e) {v1 : Int} {v2 : Int} (o : zOk e (0, 0, 0)) (h1 : e 1) {I : zMem} {u : (Int × zMem)} (hf : fX11_wholeApart v1 v2 I = some u) : zW X (some (vi u.1), u.2) mX11_wholeApart 0 [(0, .ref (zad X (0, 0, 0))), (1, vi v1), (2, vi v2)] [] I := by
  unfold fX11_wholeApart at hf
  refine zW_aload_n 0 dX11_wholeApart_0 rfl ?_
  refine zW_iload_n 1 dX11_wholeApart_1 rfl ?_
  refine zW_iload_n 2 dX11_wholeApart_2 rfl ?_
  refine zC_Vwv (As := [vi v1, vi v2]) (fun x hx => kX11_weighVersions hw (v1 := v1) (v2 := v2) o h1 hx) mv_RX11_127 (hw.1 _ o) rfl rfl rfl rfl rfl dX11_wholeApart_3 hf (fun r1 hf => ?_)
  refine zW_aload_n 0 dX11_wholeApart_6 rfl ?_
  refine zW_getR (q' := (3, 0, 0)) lk_RX11_26 (hw.1 _ o) rfl rfl (hw.2.1 _ _ _ o rfl) dX11_wholeApart_7 ?_
  refine zW_aload_n 0 dX11_wholeApart_10 rfl ?_
  refine zW_getR (q' := (1, 0, 0)) lk_RX11_12 (hw.1 _ o) rfl rfl (hw.2.1 _ _ _ o rfl) dX11_wholeApart_11 ?_
  refine zW_getR (q' := (17, 0, 0)) lk_RX11_134 (hw.1 _ (zokA (r' := 1) o rfl rfl)) rfl rfl (hw.2.1 _ _ _ (zokA (r' := 1) o rfl rfl) rfl) dX11_wholeApart_14 ?_
  refine zC_Vri (As := [.ref (zad X (17, 0, 0))]) (fun x hx => kX10_least hw (q1 := (17, 0, 0)) (n1 := 256) (zokA (r' := 3) o rfl rfl) (hw.1 _ (zokA (r' := 17) (zokA (r' := 1) o rfl rfl) rfl rfl)) rfl hx) mv_RX11_137 (hw.1 _ (zokA (r' := 3) o rfl rfl)) rfl rfl rfl rfl rfl dX11_wholeApart_17 hf (fun r2 hf => ?_)
  exact zR_i hw rfl dX11_wholeApart_20 hf
theorem kX11_wholeApart {X : zX} {e : Nat → Prop} (hw : zWf X e) {v1 : Int} {v2 : Int} (o : zOk e (0, 0, 0)) (h1 : e 1) {I : zMem} {u : (Int × zMem)} (hf : fX11_wholeApart v1 v2 I = some u) : zCn X mX11_wholeApart yX11_wholeApart [.ref (zad X (0, 0, 0)), vi v1, vi v2] I (some (vi u.1), u.2) := zCn_of (by decide +kernel) rfl rfl ⟨rfl, rfl⟩ (tX11_wholeApart_0 hw.N o h1 hf)
set_option maxRecDepth 100000 in
theorem tX11_shortest_b39_83 {X : zX} {e : Nat → Prop} (hw : zWf X e) {T : zT} {v1 : Int} {v2 : Int} {w3 : Int} {w4 : Int} {w5 : Int} {I : zMem} (o : zOk e (0, 0, 0)) (h1 : e 1) {u : ((Int × Int × Int × zMem) ⊕ (Int × Int × Int × zMem))} (hf : fX11_shortest_b39_83 v1 v2 w3 w4 w5 I = some u) (hk : ∀ s', u = .inl s' → zW X T mX11_shortest 39 [(0, .ref (zad X (0, 0, 0))), (1, vi v1), (2, vi v2), (3, vi s'.1), (4, vi s'.2.1), (5, vi s'.2.2.1)] [] s'.2.2.2) (hx : ∀ x, u = .inr x → zW X T mX11_shortest 89 [(3, vi x.1)] [] x.2.2.2) : zW X T mX11_shortest 83 [(0, .ref (zad X (0, 0, 0))), (1, vi v1), (2, vi v2), (3, vi w3), (4, vi w4), (5, vi w5)] [] I := by
  unfold fX11_shortest_b39_83 at hf
  refine zW_iinc 5 (lv' := [(5, vi (w5 + 1)), (0, .ref (zad X (0, 0, 0))), (1, vi v1), (2, vi v2), (3, vi w3), (4, vi w4)]) dX11_shortest_83 rfl rfl rfl ?_
  refine zW_goto 39 dX11_shortest_86 rfl ?_
  refine zW_sub [1, 2, 3, 4, 5, 0] rfl ?_
  exact hk _ (Option.some.inj hf).symm
set_option maxRecDepth 100000 in
theorem tX11_shortest_l39_y {X : zX} {e : Nat → Prop} (hw : zWf X e) {T : zT} {v1 : Int} {v2 : Int} (o : zOk e (0, 0, 0)) (h1 : e 1) (s : (Int × Int × Int × zMem)) {u : ((Int × Int × Int × zMem) ⊕ (Int × Int × Int × zMem))} (hf : fX11_shortest_l39 v1 v2 s = some u) (hk : ∀ s', u = .inl s' → zW X T mX11_shortest 39 [(0, .ref (zad X (0, 0, 0))), (1, vi v1), (2, vi v2), (3, vi s'.1), (4, vi s'.2.1), (5, vi s'.2.2.1)] [] s'.2.2.2) (hx : ∀ x, u = .inr x → zW X T mX11_shortest 89 [(3, vi x.1)] [] x.2.2.2) : zW X T mX11_shortest 39 [(0, .ref (zad X (0, 0, 0))), (1, vi v1), (2, vi v2), (3, vi s.1), (4, vi s.2.1), (5, vi s.2.2.1)] [] s.2.2.2 := by
  unfold fX11_shortest_l39 at hf
  refine zW_iload 5 dX11_shortest_39 rfl ?_
  refine zW_bipush dX11_shortest_41 rfl ?_
  refine zF_icmp_ge 89 dX11_shortest_43 rfl rfl (w32_lit _ rfl) hf (fun c hf => ?_) (fun c hf => ?_)
  · refine zW_sub [3] rfl ?_
    exact hx _ (Option.some.inj hf).symm
  · refine zW_iload_n 3 dX11_shortest_46 rfl ?_
    refine zW_iload 4 dX11_shortest_47 rfl ?_
    refine zF_icmp_ge 89 dX11_shortest_49 rfl rfl rfl hf (fun c hf => ?_) (fun c hf => ?_)
    · refine zW_sub [3] rfl ?_
      exact hx _ (Option.some.inj hf).symm
    · refine zW_iload_n 3 dX11_shortest_52 rfl ?_
      refine zW_iload 4 dX11_shortest_53 rfl ?_
      refine zW_iadd dX11_shortest_55 ?_
      refine zW_iconst dX11_shortest_56 ?_
      refine zW_ishr dX11_shortest_57 ?_
      refine zF_istore (lv' := fun a4 => [(6, vi a4), (0, .ref (zad X (0, 0, 0))), (1, vi v1), (2, vi v2), (3, vi s.1), (4, vi s.2.1), (5, vi s.2.2.1)]) dX11_shortest_58 hf (fun _ => rfl) rfl (fun a4 hf => ?_)
      refine zW_aload_n 1 dX11_shortest_60 rfl ?_
      refine zW_iload_n 2 dX11_shortest_61 rfl ?_
      refine zW_iload 0 dX11_shortest_62 rfl ?_
      refine zC_Vwi (As := [vi v1, vi a4]) (fun x hx => kX11_wholeApart hw (v1 := v1) (v2 := a4) o h1 hx) mv_RX11_148 (hw.1 _ o) rfl rfl rfl rfl rfl dX11_shortest_64 hf (fun r5 hf => ?_)
      refine zW_iload_n 3 dX11_shortest_67 rfl ?_
      refine zF_icmp_lt 78 dX11_shortest_68 rfl rfl rfl hf (fun c hf => ?_) (fun c hf => ?_)
      · refine zW_iload 0 dX11_shortest_78 rfl ?_
        refine zW_iconst dX11_shortest_80 ?_
        refine zW_iadd dX11_shortest_81 ?_
        refine zF_istore_n (lv' := fun a6 => [(3, vi a6), (6, vi a4), (0, .ref (zad X (0, 0, 0))), (1, vi v1), (2, vi v2), (4, vi s.2.1), (5, vi s.2.2.1)]) dX11_shortest_82 hf (fun _ => rfl) rfl (fun a6 hf => ?_)
        refine zW_sub [2, 3, 4, 0, 5, 6] rfl ?_
        exact tX11_shortest_b39_83 hw o h1 hf hk hx
      · refine zW_iload 0 dX11_shortest_71 rfl ?_
        refine zW_istore (lv' := [(4, vi a4), (6, vi a4), (0, .ref (zad X (0, 0, 0))), (1, vi v1), (2, vi v2), (3, vi s.1), (5, vi s.2.2.1)]) dX11_shortest_73 rfl rfl ?_
        refine zW_goto 83 dX11_shortest_75 rfl ?_
        refine zW_sub [2, 3, 4, 5, 0, 6] rfl ?_
        exact tX11_shortest_b39_83 hw o h1 hf hk hx
theorem tX11_shortest_l39 {X : zX} {e : Nat → Prop} (hw : zWf X e) {T : zT} {v1 : Int} {v2 : Int} (o : zOk e (0, 0, 0)) (h1 : e 1) {s0 : (Int × Int × Int × zMem)} {α : Type} {F : (Int × Int × Int × zMem) → Option α} {u : α} (hf : zb (zlp (fX11_shortest_l39 v1 v2) 5000 s0) F = some u) (kx : ∀ x, F x = some u → zW X T mX11_shortest 89 [(3, vi x.1)] [] x.2.2.2) : zW X T mX11_shortest 39 [(0, .ref (zad X (0, 0, 0))), (1, vi v1), (2, vi v2), (3, vi s0.1), (4, vi s0.2.1), (5, vi s0.2.2.1)] [] s0.2.2.2 := by
  obtain ⟨x, h, hf⟩ := zb_inv hf
  exact zlp_W (P := fun s => zW X T mX11_shortest 39 [(0, .ref (zad X (0, 0, 0))), (1, vi v1), (2, vi v2), (3, vi s.1), (4, vi s.2.1), (5, vi s.2.2.1)] [] s.2.2.2) (E := fun x => zW X T mX11_shortest 89 [(3, vi x.1)] [] x.2.2.2) (fun s u h hk hx => tX11_shortest_l39_y hw o h1 s h hk hx) _ s0 x h (kx x hf)
set_option maxRecDepth 100000 in
theorem tX11_shortest_0 {X : zX} {e : Nat → Prop} (hw : zWf X e) {v1 : Int} {v2 : Int} (o : zOk e (0, 0, 0)) (h1 : e 1) {I : zMem} {u : (Int × zMem)} (hf : fX11_shortest v1 v2 I = some u) : zW X (some (vi u.1), u.2) mX11_shortest 0 [(0, .ref (zad X (0, 0, 0))), (1, vi v1), (2, vi v2)] [] I := by
  unfold fX11_shortest at hf
  refine zW_iload_n 1 dX11_shortest_0 rfl ?_
  refine zC_Sri (As := [vi v1]) (fun x hx => kX11_isVersionSet hw (v0 := v1)  hx) ms_RX11_114 rfl rfl rfl rfl dX11_shortest_1 hf (fun r1 hf => ?_)
  refine zF_if_eq 14 dX11_shortest_4 rfl rfl hf (fun c hf => ?_) (fun c hf => ?_)
  · refine zW_bipush dX11_shortest_14 rfl ?_
    exact zR_i hw rfl dX11_shortest_16 hf
  · refine zW_iload_n 2 dX11_shortest_7 rfl ?_
    refine zC_Sri (As := [vi v2]) (fun x hx => kX11_isDistance hw (v0 := v2)  hx) ms_RX11_145 rfl rfl rfl rfl dX11_shortest_8 hf (fun r2 hf => ?_)
    refine zF_if_ne 17 dX11_shortest_11 rfl rfl hf (fun c hf => ?_) (fun c hf => ?_)
    · refine zW_bipush dX11_shortest_14 rfl ?_
      exact zR_i hw rfl dX11_shortest_16 hf
    · refine zW_aload_n 0 dX11_shortest_17 rfl ?_
      refine zW_iload_n 1 dX11_shortest_18 rfl ?_
      refine zW_bipush dX11_shortest_19 rfl ?_
      refine zC_Vwi (As := [vi v1, vi 60]) (fun x hx => kX11_wholeApart hw (v1 := v1) (v2 := 60) o h1 hx) mv_RX11_148 (hw.1 _ o) rfl rfl rfl rfl rfl dX11_shortest_21 hf (fun r3 hf => ?_)
      refine zW_iload_n 2 dX11_shortest_24 rfl ?_
      refine zF_icmp_ge 30 dX11_shortest_25 rfl rfl rfl hf (fun c hf => ?_) (fun c hf => ?_)
      · refine zW_iconst dX11_shortest_30 ?_
        refine zW_istore_n (lv' := [(3, vi 1), (0, .ref (zad X (0, 0, 0))), (1, vi v1), (2, vi v2)]) dX11_shortest_31 rfl rfl ?_
        refine zW_bipush dX11_shortest_32 rfl ?_
        refine zW_istore (lv' := [(4, vi 60), (3, vi 1), (0, .ref (zad X (0, 0, 0))), (1, vi v1), (2, vi v2)]) dX11_shortest_34 rfl rfl ?_
        refine zW_iconst dX11_shortest_36 ?_
        refine zW_istore (lv' := [(5, vi 0), (4, vi 60), (3, vi 1), (0, .ref (zad X (0, 0, 0))), (1, vi v1), (2, vi v2)]) dX11_shortest_37 rfl rfl ?_
        refine zW_sub [3, 4, 5, 2, 1, 0] rfl ?_
        refine tX11_shortest_l39 hw o h1 (s0 := (1, 60, 0, r3.2)) hf (fun x7 hf => ?_)
        refine zW_iload_n 0 dX11_shortest_89 rfl ?_
        exact zR_i hw rfl dX11_shortest_90 hf
      · refine zW_iconst dX11_shortest_28 ?_
        exact zR_i hw rfl dX11_shortest_29 hf
theorem kX11_shortest {X : zX} {e : Nat → Prop} (hw : zWf X e) {v1 : Int} {v2 : Int} (o : zOk e (0, 0, 0)) (h1 : e 1) {I : zMem} {u : (Int × zMem)} (hf : fX11_shortest v1 v2 I = some u) : zCn X mX11_shortest yX11_shortest [.ref (zad X (0, 0, 0)), vi v1, vi v2] I (some (vi u.1), u.2) := zCn_of (by decide +kernel) rfl rfl ⟨rfl, rfl⟩ (tX11_shortest_0 hw.N o h1 hf)
set_option maxRecDepth 100000 in
theorem tJ6_bitCount_0f7a4_0 {X : zX} {e : Nat → Prop} (hw : zWf X e) {v0 : Int}  {I : zMem} {u : Int} (hf : fJ6_bitCount_0f7a4 v0 = some u) : zW X (some (vi u), I) mJ6_bitCount_0f7a4 0 [(0, vi v0)] [] I := by
  unfold fJ6_bitCount_0f7a4 at hf
  refine zW_iload_n 0 dJ6_bitCount_0f7a4_0 rfl ?_
  refine zW_iload_n 0 dJ6_bitCount_0f7a4_1 rfl ?_
  refine zW_iconst dJ6_bitCount_0f7a4_2 ?_
  refine zW_iushr dJ6_bitCount_0f7a4_3 ?_
  refine zW_ldcw dJ6_bitCount_0f7a4_4 wc_RJ6_265 ?_
  refine zW_iand dJ6_bitCount_0f7a4_7 ?_
  refine zW_isub dJ6_bitCount_0f7a4_8 ?_
  refine zF_istore_n (lv' := fun a1 => [(0, vi a1)]) dJ6_bitCount_0f7a4_9 hf (fun _ => rfl) rfl (fun a1 hf => ?_)
  refine zW_iload_n 0 dJ6_bitCount_0f7a4_10 rfl ?_
  refine zW_ldcw dJ6_bitCount_0f7a4_11 wc_RJ6_266 ?_
  refine zW_iand dJ6_bitCount_0f7a4_14 ?_
  refine zW_iload_n 0 dJ6_bitCount_0f7a4_15 rfl ?_
  refine zW_iconst dJ6_bitCount_0f7a4_16 ?_
  refine zW_iushr dJ6_bitCount_0f7a4_17 ?_
  refine zW_ldcw dJ6_bitCount_0f7a4_18 wc_RJ6_266 ?_
  refine zW_iand dJ6_bitCount_0f7a4_21 ?_
  refine zW_iadd dJ6_bitCount_0f7a4_22 ?_
  refine zF_istore_n (lv' := fun a2 => [(0, vi a2)]) dJ6_bitCount_0f7a4_23 hf (fun _ => rfl) rfl (fun a2 hf => ?_)
  refine zW_iload_n 0 dJ6_bitCount_0f7a4_24 rfl ?_
  refine zW_iload_n 0 dJ6_bitCount_0f7a4_25 rfl ?_
  refine zW_iconst dJ6_bitCount_0f7a4_26 ?_
  refine zW_iushr dJ6_bitCount_0f7a4_27 ?_
  refine zW_iadd dJ6_bitCount_0f7a4_28 ?_
  refine zW_ldcw dJ6_bitCount_0f7a4_29 wc_RJ6_267 ?_
  refine zW_iand dJ6_bitCount_0f7a4_32 ?_
  refine zF_istore_n (lv' := fun a3 => [(0, vi a3)]) dJ6_bitCount_0f7a4_33 hf (fun _ => rfl) rfl (fun a3 hf => ?_)
  refine zW_iload_n 0 dJ6_bitCount_0f7a4_34 rfl ?_
  refine zW_iload_n 0 dJ6_bitCount_0f7a4_35 rfl ?_
  refine zW_bipush dJ6_bitCount_0f7a4_36 rfl ?_
  refine zW_iushr dJ6_bitCount_0f7a4_38 ?_
  refine zW_iadd dJ6_bitCount_0f7a4_39 ?_
  refine zF_istore_n (lv' := fun a4 => [(0, vi a4)]) dJ6_bitCount_0f7a4_40 hf (fun _ => rfl) rfl (fun a4 hf => ?_)
  refine zW_iload_n 0 dJ6_bitCount_0f7a4_41 rfl ?_
  refine zW_iload_n 0 dJ6_bitCount_0f7a4_42 rfl ?_
  refine zW_bipush dJ6_bitCount_0f7a4_43 rfl ?_
  refine zW_iushr dJ6_bitCount_0f7a4_45 ?_
  refine zW_iadd dJ6_bitCount_0f7a4_46 ?_
  refine zF_istore_n (lv' := fun a5 => [(0, vi a5)]) dJ6_bitCount_0f7a4_47 hf (fun _ => rfl) rfl (fun a5 hf => ?_)
  refine zW_iload_n 0 dJ6_bitCount_0f7a4_48 rfl ?_
  refine zW_bipush dJ6_bitCount_0f7a4_49 rfl ?_
  refine zW_iand_63 dJ6_bitCount_0f7a4_51 ?_
  exact zS_i hw rfl dJ6_bitCount_0f7a4_52 hf
theorem kJ6_bitCount_0f7a4 {X : zX} {e : Nat → Prop} (hw : zWf X e) {v0 : Int}  {I : zMem} {u : Int} (hf : fJ6_bitCount_0f7a4 v0 = some u) : zCn X mJ6_bitCount_0f7a4 yJ6_bitCount_0f7a4 [vi v0] I (some (vi u), I) := zCn_of (by decide +kernel) rfl rfl ⟨rfl, rfl⟩ (tJ6_bitCount_0f7a4_0 hw.N  hf)
set_option maxRecDepth 100000 in
theorem tX11_versions_b27_57 {X : zX} {e : Nat → Prop} (hw : zWf X e) {T : zT} {v1 : Int} {v2 : Int} {w3 : Int} {w4 : Int} {I : zMem} (o : zOk e (0, 0, 0)) (h1 : e 1) {u : ((Int × zMem) ⊕ ((Int × zMem) ⊕ (Int × zMem)))} (hf : fX11_versions_b27_57 v1 v2 w3 w4 I = some u) (hk : ∀ s', u = .inl s' → zW X T mX11_versions 27 [(0, .ref (zad X (0, 0, 0))), (1, vi v1), (2, vi v2), (3, vi w3), (4, vi s'.1)] [] s'.2) (hx : ∀ x, u = .inr (.inl x) → zW X T mX11_versions 63 [(0, .ref (zad X (0, 0, 0))), (1, vi v1), (2, vi v2), (3, vi w3)] [] x.2) (hr : ∀ z : (Int × zMem), u = .inr (.inr z) → T = (some (vi z.1), z.2)) : zW X T mX11_versions 57 [(0, .ref (zad X (0, 0, 0))), (1, vi v1), (2, vi v2), (3, vi w3), (4, vi w4)] [] I := by
  unfold fX11_versions_b27_57 at hf
  refine zW_iinc 4 (lv' := [(4, vi (w4 + 1)), (0, .ref (zad X (0, 0, 0))), (1, vi v1), (2, vi v2), (3, vi w3)]) dX11_versions_57 rfl rfl rfl ?_
  refine zW_goto 27 dX11_versions_60 rfl ?_
  refine zW_sub [1, 2, 3, 4, 0] rfl ?_
  exact hk _ (Option.some.inj hf).symm
set_option maxRecDepth 100000 in
theorem tX11_versions_l27_y {X : zX} {e : Nat → Prop} (hw : zWf X e) {T : zT} {v1 : Int} {v2 : Int} {w3 : Int} (o : zOk e (0, 0, 0)) (h1 : e 1) (s : (Int × zMem)) {u : ((Int × zMem) ⊕ ((Int × zMem) ⊕ (Int × zMem)))} (hf : fX11_versions_l27 v1 v2 w3 s = some u) (hk : ∀ s', u = .inl s' → zW X T mX11_versions 27 [(0, .ref (zad X (0, 0, 0))), (1, vi v1), (2, vi v2), (3, vi w3), (4, vi s'.1)] [] s'.2) (hx : ∀ x, u = .inr (.inl x) → zW X T mX11_versions 63 [(0, .ref (zad X (0, 0, 0))), (1, vi v1), (2, vi v2), (3, vi w3)] [] x.2) (hr : ∀ z : (Int × zMem), u = .inr (.inr z) → T = (some (vi z.1), z.2)) : zW X T mX11_versions 27 [(0, .ref (zad X (0, 0, 0))), (1, vi v1), (2, vi v2), (3, vi w3), (4, vi s.1)] [] s.2 := by
  unfold fX11_versions_l27 at hf
  refine zW_iload 4 dX11_versions_27 rfl ?_
  refine zW_bipush dX11_versions_29 rfl ?_
  refine zF_icmp_ge 63 dX11_versions_31 rfl rfl (w32_lit _ rfl) hf (fun c hf => ?_) (fun c hf => ?_)
  · refine zW_sub [0, 1, 2, 3] rfl ?_
    exact hx _ (Option.some.inj hf).symm
  · refine zW_iload 4 dX11_versions_34 rfl ?_
    refine zC_Sri (As := [vi s.1]) (fun x hx => kJ6_bitCount_0f7a4 hw (v0 := s.1)  hx) ms_RX11_152 rfl rfl rfl rfl dX11_versions_36 hf (fun r3 hf => ?_)
    refine zW_iload_n 3 dX11_versions_39 rfl ?_
    refine zF_icmp_ne 57 dX11_versions_40 rfl rfl rfl hf (fun c hf => ?_) (fun c hf => ?_)
    · refine zW_aload_n 0 dX11_versions_43 rfl ?_
      refine zW_iload 4 dX11_versions_44 rfl ?_
      refine zW_iload_n 1 dX11_versions_46 rfl ?_
      refine zC_Vwi (As := [vi s.1, vi v1]) (fun x hx => kX11_wholeApart hw (v1 := s.1) (v2 := v1) o h1 hx) mv_RX11_148 (hw.1 _ o) rfl rfl rfl rfl rfl dX11_versions_47 hf (fun r4 hf => ?_)
      refine zW_iload_n 2 dX11_versions_50 rfl ?_
      refine zF_icmp_lt 57 dX11_versions_51 rfl rfl rfl hf (fun c hf => ?_) (fun c hf => ?_)
      · refine zW_sub [0, 1, 2, 3, 4] rfl ?_
        exact tX11_versions_b27_57 hw o h1 hf hk hx hr
      · refine zW_iload 4 dX11_versions_54 rfl ?_
        exact zQ_i hw rfl dX11_versions_56 (hr _ (Option.some.inj hf).symm)
    · refine zW_sub [0, 1, 2, 3, 4] rfl ?_
      exact tX11_versions_b27_57 hw o h1 hf hk hx hr
theorem tX11_versions_l27 {X : zX} {e : Nat → Prop} (hw : zWf X e) {T : zT} {v1 : Int} {v2 : Int} {w3 : Int} (o : zOk e (0, 0, 0)) (h1 : e 1) {s0 : (Int × zMem)} {α : Type} {F : (Int × zMem) → Option α} {Gr : (Int × zMem) → α} {u : α} (hf : zbr (zlp (fX11_versions_l27 v1 v2 w3) 5000 s0) F Gr = some u) (kx : ∀ x, F x = some u → zW X T mX11_versions 63 [(0, .ref (zad X (0, 0, 0))), (1, vi v1), (2, vi v2), (3, vi w3)] [] x.2) (kr : ∀ z, Gr z = u → T = (some (vi z.1), z.2)) : zW X T mX11_versions 27 [(0, .ref (zad X (0, 0, 0))), (1, vi v1), (2, vi v2), (3, vi w3), (4, vi s0.1)] [] s0.2 := by
  have hb := zlp_W (body := fX11_versions_l27 v1 v2 w3) (P := fun s => zW X T mX11_versions 27 [(0, .ref (zad X (0, 0, 0))), (1, vi v1), (2, vi v2), (3, vi w3), (4, vi s.1)] [] s.2) (E := fun x => (∀ a, x = .inl a → zW X T mX11_versions 63 [(0, .ref (zad X (0, 0, 0))), (1, vi v1), (2, vi v2), (3, vi w3)] [] a.2) ∧ ∀ z, x = .inr z → T = (some (vi z.1), z.2)) (fun s u h hk hx => tX11_versions_l27_y hw o h1 s h hk (fun x hu => (hx _ hu).1 x rfl) (fun z hu => (hx _ hu).2 z rfl))
  rcases zbr_inv hf with ⟨x, h, hf⟩ | ⟨z, h, hz⟩
  · exact hb _ s0 _ h ⟨fun a ea => (by cases ea; exact kx _ hf), fun z ez => (by cases ez)⟩
  · exact hb _ s0 _ h ⟨fun a ea => (by cases ea), fun z ez => (by cases ez; exact kr _ hz)⟩
set_option maxRecDepth 100000 in
theorem tX11_versions_l19_y {X : zX} {e : Nat → Prop} (hw : zWf X e) {T : zT} {v1 : Int} {v2 : Int} (o : zOk e (0, 0, 0)) (h1 : e 1) (s : (Int × zMem)) {u : ((Int × zMem) ⊕ ((Int × zMem) ⊕ (Int × zMem)))} (hf : fX11_versions_l19 v1 v2 s = some u) (hk : ∀ s', u = .inl s' → zW X T mX11_versions 19 [(0, .ref (zad X (0, 0, 0))), (1, vi v1), (2, vi v2), (3, vi s'.1)] [] s'.2) (hx : ∀ x, u = .inr (.inl x) → zW X T mX11_versions 69 [] [] x.2) (hr : ∀ z : (Int × zMem), u = .inr (.inr z) → T = (some (vi z.1), z.2)) : zW X T mX11_versions 19 [(0, .ref (zad X (0, 0, 0))), (1, vi v1), (2, vi v2), (3, vi s.1)] [] s.2 := by
  unfold fX11_versions_l19 at hf
  refine zW_iload_n 3 dX11_versions_19 rfl ?_
  refine zW_iconst dX11_versions_20 ?_
  refine zF_icmp_gt 69 dX11_versions_21 rfl rfl (w32_lit _ rfl) hf (fun c hf => ?_) (fun c hf => ?_)
  · refine zW_sub [] rfl ?_
    exact hx _ (Option.some.inj hf).symm
  · refine zW_iconst dX11_versions_24 ?_
    refine zW_istore (lv' := [(4, vi 1), (0, .ref (zad X (0, 0, 0))), (1, vi v1), (2, vi v2), (3, vi s.1)]) dX11_versions_25 rfl rfl ?_
    refine zW_sub [1, 2, 3, 4, 0] rfl ?_
    refine tX11_versions_l27 hw o h1 (s0 := (1, s.2)) hf (fun x5 hf => ?_) (fun z hz => hr _ hz.symm)
    refine zW_iinc 3 (lv' := [(3, vi (s.1 + 1)), (0, .ref (zad X (0, 0, 0))), (1, vi v1), (2, vi v2)]) dX11_versions_63 rfl rfl rfl ?_
    refine zW_goto 19 dX11_versions_66 rfl ?_
    refine zW_sub [1, 2, 3, 0] rfl ?_
    exact hk _ (Option.some.inj hf).symm
theorem tX11_versions_l19 {X : zX} {e : Nat → Prop} (hw : zWf X e) {T : zT} {v1 : Int} {v2 : Int} (o : zOk e (0, 0, 0)) (h1 : e 1) {s0 : (Int × zMem)} {α : Type} {F : (Int × zMem) → Option α} {Gr : (Int × zMem) → α} {u : α} (hf : zbr (zlp (fX11_versions_l19 v1 v2) 5000 s0) F Gr = some u) (kx : ∀ x, F x = some u → zW X T mX11_versions 69 [] [] x.2) (kr : ∀ z, Gr z = u → T = (some (vi z.1), z.2)) : zW X T mX11_versions 19 [(0, .ref (zad X (0, 0, 0))), (1, vi v1), (2, vi v2), (3, vi s0.1)] [] s0.2 := by
  have hb := zlp_W (body := fX11_versions_l19 v1 v2) (P := fun s => zW X T mX11_versions 19 [(0, .ref (zad X (0, 0, 0))), (1, vi v1), (2, vi v2), (3, vi s.1)] [] s.2) (E := fun x => (∀ a, x = .inl a → zW X T mX11_versions 69 [] [] a.2) ∧ ∀ z, x = .inr z → T = (some (vi z.1), z.2)) (fun s u h hk hx => tX11_versions_l19_y hw o h1 s h hk (fun x hu => (hx _ hu).1 x rfl) (fun z hu => (hx _ hu).2 z rfl))
  rcases zbr_inv hf with ⟨x, h, hf⟩ | ⟨z, h, hz⟩
  · exact hb _ s0 _ h ⟨fun a ea => (by cases ea; exact kx _ hf), fun z ez => (by cases ez)⟩
  · exact hb _ s0 _ h ⟨fun a ea => (by cases ea), fun z ez => (by cases ez; exact kr _ hz)⟩
set_option maxRecDepth 100000 in
theorem tX11_versions_0 {X : zX} {e : Nat → Prop} (hw : zWf X e) {v1 : Int} {v2 : Int} (o : zOk e (0, 0, 0)) (h1 : e 1) {I : zMem} {u : (Int × zMem)} (hf : fX11_versions v1 v2 I = some u) : zW X (some (vi u.1), u.2) mX11_versions 0 [(0, .ref (zad X (0, 0, 0))), (1, vi v1), (2, vi v2)] [] I := by
  unfold fX11_versions at hf
  refine zW_iload_n 1 dX11_versions_0 rfl ?_
  refine zC_Sri (As := [vi v1]) (fun x hx => kX11_isLength hw (v0 := v1)  hx) ms_RX11_104 rfl rfl rfl rfl dX11_versions_1 hf (fun r1 hf => ?_)
  refine zF_if_eq 14 dX11_versions_4 rfl rfl hf (fun c hf => ?_) (fun c hf => ?_)
  · refine zW_bipush dX11_versions_14 rfl ?_
    exact zR_i hw rfl dX11_versions_16 hf
  · refine zW_iload_n 2 dX11_versions_7 rfl ?_
    refine zC_Sri (As := [vi v2]) (fun x hx => kX11_isDistance hw (v0 := v2)  hx) ms_RX11_145 rfl rfl rfl rfl dX11_versions_8 hf (fun r2 hf => ?_)
    refine zF_if_ne 17 dX11_versions_11 rfl rfl hf (fun c hf => ?_) (fun c hf => ?_)
    · refine zW_bipush dX11_versions_14 rfl ?_
      exact zR_i hw rfl dX11_versions_16 hf
    · refine zW_iconst dX11_versions_17 ?_
      refine zW_istore_n (lv' := [(3, vi 1), (0, .ref (zad X (0, 0, 0))), (1, vi v1), (2, vi v2)]) dX11_versions_18 rfl rfl ?_
      refine zW_sub [1, 2, 3, 0] rfl ?_
      refine tX11_versions_l19 hw o h1 (s0 := (1, I)) hf (fun x6 hf => ?_) (fun z hz => by cases hz; rfl)
      refine zW_iconst dX11_versions_69 ?_
      exact zR_i hw rfl dX11_versions_70 hf
theorem kX11_versions {X : zX} {e : Nat → Prop} (hw : zWf X e) {v1 : Int} {v2 : Int} (o : zOk e (0, 0, 0)) (h1 : e 1) {I : zMem} {u : (Int × zMem)} (hf : fX11_versions v1 v2 I = some u) : zCn X mX11_versions yX11_versions [.ref (zad X (0, 0, 0)), vi v1, vi v2] I (some (vi u.1), u.2) := zCn_of (by decide +kernel) rfl rfl ⟨rfl, rfl⟩ (tX11_versions_0 hw.N o h1 hf)
set_option maxRecDepth 100000 in
theorem tX11_turnSpoils_b46 {X : zX} {e : Nat → Prop} (hw : zWf X e) {v1 : Int} {v2 : Int} {w3 : Int} {k0 : Int} {I : zMem} (o : zOk e (0, 0, 0)) (h1 : e 1) {u : (Int × zMem)} (hf : fX11_turnSpoils_b46 v1 v2 w3 k0 I = some u) : zW X (some (vi u.1), u.2) mX11_turnSpoils 46 [(0, .ref (zad X (0, 0, 0))), (2, vi v2), (3, vi w3)] [vi k0] I := by
  unfold fX11_turnSpoils_b46 at hf
  refine zW_istore (lv' := [(4, vi k0), (0, .ref (zad X (0, 0, 0))), (2, vi v2), (3, vi w3)]) dX11_turnSpoils_46 rfl rfl ?_
  refine zW_aload_n 1 dX11_turnSpoils_48 rfl ?_
  refine zW_getR (q' := (14, 0, 0)) lk_RX11_68 (hw.1 _ o) rfl rfl (hw.2.1 _ _ _ o rfl) dX11_turnSpoils_49 ?_
  refine zW_iload_n 2 dX11_turnSpoils_52 rfl ?_
  refine zW_iload_n 3 dX11_turnSpoils_53 rfl ?_
  obtain ⟨c6, hf⟩ := zgd hf
  refine zF_iast (hw.1 _ (zokA (r' := 14) o rfl rfl)) rfl c6 rfl dX11_turnSpoils_54 hf (fun I7 hf => ?_)
  refine zW_iload 0 dX11_turnSpoils_55 rfl ?_
  obtain ⟨c, hf⟩ := zgd hf
  exact zR_z hw rfl c dX11_turnSpoils_57 hf
set_option maxRecDepth 100000 in
theorem tX11_turnSpoils_b25 {X : zX} {e : Nat → Prop} (hw : zWf X e) {v1 : Int} {v2 : Int} {w3 : Int} {k0 : Int} {k1 : Int} {I : zMem} (o : zOk e (0, 0, 0)) (h1 : e 1) (ko2 : zOk e (14, 0, 0)) {u : (Int × zMem)} (hf : fX11_turnSpoils_b25 v1 v2 w3 k0 k1 I = some u) : zW X (some (vi u.1), u.2) mX11_turnSpoils 25 [(0, .ref (zad X (0, 0, 0))), (1, vi v1), (2, vi v2), (3, vi w3)] [vi k0, vi k1, .ref (zad X (14, 0, 0))] I := by
  unfold fX11_turnSpoils_b25 at hf
  obtain ⟨c3, hf⟩ := zgd hf
  refine zF_iast (hw.1 _ ko2) rfl c3 rfl dX11_turnSpoils_25 hf (fun I4 hf => ?_)
  refine zW_aload_n 0 dX11_turnSpoils_26 rfl ?_
  refine zW_getR (q' := (4, 0, 0)) lk_RX11_33 (hw.1 _ o) rfl rfl (hw.2.1 _ _ _ o rfl) dX11_turnSpoils_27 ?_
  refine zW_aload_n 0 dX11_turnSpoils_30 rfl ?_
  refine zW_getR (q' := (14, 0, 0)) lk_RX11_68 (hw.1 _ o) rfl rfl (hw.2.1 _ _ _ o rfl) dX11_turnSpoils_31 ?_
  refine zC_Vwi (As := [.ref (zad X (14, 0, 0))]) (fun x hx => kX2_bestWord hw (q1 := (14, 0, 0)) (zokA (r' := 4) o rfl rfl) (hw.1 _ (zokA (r' := 14) o rfl rfl)) rfl hx) mv_RX11_349 (hw.1 _ (zokA (r' := 4) o rfl rfl)) rfl rfl rfl rfl rfl dX11_turnSpoils_34 hf (fun r5 hf => ?_)
  refine zW_iload_n 1 dX11_turnSpoils_37 rfl ?_
  refine zF_icmp_eq 45 dX11_turnSpoils_38 rfl rfl rfl hf (fun c hf => ?_) (fun c hf => ?_)
  · refine zW_iconst dX11_turnSpoils_45 ?_
    refine zW_sub [0, 2, 3] rfl ?_
    exact tX11_turnSpoils_b46 hw o h1 hf
  · refine zW_iconst dX11_turnSpoils_41 ?_
    refine zW_goto 46 dX11_turnSpoils_42 rfl ?_
    refine zW_sub [0, 2, 3] rfl ?_
    exact tX11_turnSpoils_b46 hw o h1 hf
set_option maxRecDepth 100000 in
theorem tX11_turnSpoils_0 {X : zX} {e : Nat → Prop} (hw : zWf X e) {v1 : Int} {v2 : Int} (o : zOk e (0, 0, 0)) (h1 : e 1) {I : zMem} {u : (Int × zMem)} (hf : fX11_turnSpoils v1 v2 I = some u) : zW X (some (vi u.1), u.2) mX11_turnSpoils 0 [(0, .ref (zad X (0, 0, 0))), (1, vi v1), (2, vi v2)] [] I := by
  unfold fX11_turnSpoils at hf
  refine zW_aload_n 0 dX11_turnSpoils_0 rfl ?_
  refine zW_getR (q' := (14, 0, 0)) lk_RX11_68 (hw.1 _ o) rfl rfl (hw.2.1 _ _ _ o rfl) dX11_turnSpoils_1 ?_
  refine zW_iload_n 2 dX11_turnSpoils_4 rfl ?_
  obtain ⟨c1, hf⟩ := zgd hf
  refine zF_iald (hw.1 _ (zokA (r' := 14) o rfl rfl)) rfl c1 rfl dX11_turnSpoils_5 ?_
  refine zF_istore_n (lv' := fun a2 => [(3, vi a2), (0, .ref (zad X (0, 0, 0))), (1, vi v1), (2, vi v2)]) dX11_turnSpoils_6 hf (fun _ => rfl) rfl (fun a2 hf => ?_)
  refine zW_aload_n 1 dX11_turnSpoils_7 rfl ?_
  refine zW_getR (q' := (14, 0, 0)) lk_RX11_68 (hw.1 _ o) rfl rfl (hw.2.1 _ _ _ o rfl) dX11_turnSpoils_8 ?_
  refine zW_iload_n 3 dX11_turnSpoils_11 rfl ?_
  refine zW_iload_n 0 dX11_turnSpoils_12 rfl ?_
  refine zF_if_le 22 dX11_turnSpoils_13 rfl rfl hf (fun c hf => ?_) (fun c hf => ?_)
  · refine zW_iload_n 0 dX11_turnSpoils_22 rfl ?_
    refine zW_iconst dX11_turnSpoils_23 ?_
    refine zW_iadd dX11_turnSpoils_24 ?_
    refine zW_sub [1, 2, 3, 0] rfl ?_
    exact tX11_turnSpoils_b25 hw o h1 (zokA (r' := 14) o rfl rfl) hf
  · refine zW_iload_n 0 dX11_turnSpoils_16 rfl ?_
    refine zW_iconst dX11_turnSpoils_17 ?_
    refine zW_isub dX11_turnSpoils_18 ?_
    refine zW_goto 25 dX11_turnSpoils_19 rfl ?_
    refine zW_sub [1, 2, 3, 0] rfl ?_
    exact tX11_turnSpoils_b25 hw o h1 (zokA (r' := 14) o rfl rfl) hf
theorem kX11_turnSpoils {X : zX} {e : Nat → Prop} (hw : zWf X e) {v1 : Int} {v2 : Int} (o : zOk e (0, 0, 0)) (h1 : e 1) {I : zMem} {u : (Int × zMem)} (hf : fX11_turnSpoils v1 v2 I = some u) : zCn X mX11_turnSpoils yX11_turnSpoils [.ref (zad X (0, 0, 0)), vi v1, vi v2] I (some (vi u.1), u.2) := zCn_of (by decide +kernel) rfl rfl ⟨rfl, rfl⟩ (tX11_turnSpoils_0 hw.N o h1 hf)
