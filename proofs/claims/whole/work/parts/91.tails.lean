theorem zOk_no {q : zPl} : ¬ zOk (fun _ => False) q := by
  unfold zOk
  split <;> simp
theorem zWf0 {X : zX} (h : zHq X) : zWf X (fun _ => False) := ⟨fun q o => absurd o zOk_no, fun q k q' o _ => absurd o zOk_no, h⟩
def zOc (X : zX) : Prop := zDom X (1, 0, 0) ∧ zDom X (16, 0, 0) ∧ zDom X (17, 0, 0) ∧ zP X (1, 0, 0) 0 = some (16, 0, 0) ∧ zP X (1, 0, 0) 1 = some (17, 0, 0)
theorem zrk4 : ∀ r, zrk r = 4 → 50 ≤ r ∧ r ≤ 67 := fun r h => by
  unfold zrk at h
  split at h <;> first | omega | (exfalso; omega)
theorem zok9r {q : zPl} (o : zOk (fun L => L = 9) q) : q.2 = (0, 0) ∧ 50 ≤ q.1 ∧ q.1 ≤ 67 := by
  unfold zOk at o
  split at o
  · exact absurd o.1 (by decide)
  · exact absurd o.1.2 (by rw [o.1.1]; decide)
  · exact absurd o.1.2 (by rw [o.1.1]; decide)
  · exact absurd o.1 (by decide)
  · rename_i h
    obtain ⟨-, h1, h2⟩ := o
    exact ⟨Prod.ext h1 h2, zrk4 _ h⟩
  · exact o.elim
theorem zok9 : zOk (fun L => L = 9) (50, 0, 0) := ⟨rfl, rfl, rfl⟩
def zOr (X : zX) : Prop := zDom X (2, 0, 0) ∧ zDom X (18, 0, 0) ∧ zDom X (19, 0, 0) ∧ zP X (2, 0, 0) 0 = some (18, 0, 0) ∧ zP X (2, 0, 0) 1 = some (19, 0, 0)
def fX1_init_l38 (w1 : Int) (w2 : Int) (s : (Int × zMem)) : Option ((Int × zMem) ⊕ (Int × zMem)) :=
  if w32 w2 ≤ w32 s.1 then some (.inr (s.1, s.2)) else if zin s.1 2048 then if zin (w2 + s.1) 2048 then zlet (zst s.2 (16, 0, 0) (ix (w2 + s.1)) (lxor (s.2 (16, 0, 0) (ix s.1)) (lshl 335601665 w1))) (fun I4 => some (.inl (s.1 + 1, I4))) else none else none
def fX1_init_l25  (s : (Int × zMem)) : Option ((Int × zMem) ⊕ (Int × zMem)) :=
  if w32 s.1 < 0 then some (.inr (s.1, s.2)) else zlet (ishl 1 (10 - s.1)) (fun a1 => zb (zlp (fX1_init_l38 s.1 a1) 5000 (0, s.2)) (fun x5 => some (.inl (s.1 + (-1), x5.2))))
def fX1_init_l77  (s : (Int × zMem)) : Option ((Int × zMem) ⊕ (Int × zMem)) :=
  if 256 ≤ w32 s.1 then some (.inr (s.1, s.2)) else zb (fX1_wholeWord s.1) (fun r7 => if zin r7 2048 then zb (fX1_wholeWord 0) (fun r9 => if zin r9 2048 then if zin s.1 256 then zlet (zst s.2 (17, 0, 0) (ix s.1) (lxor (s.2 (16, 0, 0) (ix r7)) (s.2 (16, 0, 0) (ix r9)))) (fun I12 => some (.inl (s.1 + 1, I12))) else none else none) else none)
def fX1_init (I : zMem) : Option zMem :=
  zb (zlp (fX1_init_l25 ) 5000 (10, I)) (fun x6 => zb (zlp (fX1_init_l77 ) 5000 (1, x6.2)) (fun x13 => some x13.2))
def fX6_init_b32_71 (w1 : Int) (w2 : Int) (I : zMem) : Option ((Int × Int × zMem) ⊕ (Int × Int × zMem)) :=
  some (.inl (w1, w2 + 1, I))
def fX6_init_l32  (s : (Int × Int × zMem)) : Option ((Int × Int × zMem) ⊕ (Int × Int × zMem)) :=
  if 48 ≤ w32 s.2.1 then some (.inr (s.1, s.2.1, s.2.2)) else if zin s.2.1 49 then zlet (zst s.2.2 (19, 0, 0) (ix s.2.1) s.1) (fun I2 => zb (fX6_bitAtPlace s.2.1 I2) (fun r3 => if w32 r3 = (-1) then fX6_init_b32_71 s.1 s.2.1 I2 else if 39 ≤ w32 s.1 then fX6_init_b32_71 s.1 s.2.1 I2 else if zin s.1 39 then zlet (zst I2 (18, 0, 0) (ix s.1) r3) (fun I5 => fX6_init_b32_71 (s.1 + 1) s.2.1 I5) else none)) else none
def fX6_init (I : zMem) : Option zMem :=
  zb (zlp (fX6_init_l32 ) 5000 (0, 0, I)) (fun x6 => zlet (zst x6.2.2 (19, 0, 0) 48 x6.1) (fun I7 => some I7))
def fX12_init_l158  (s : (Int × zMem)) : Option ((Int × zMem) ⊕ (Int × zMem)) :=
  if 2048 ≤ w32 s.1 then some (.inr (s.1, s.2)) else zb (fX12_codeOf s.1) (fun r1 => if zin s.1 2048 then zlet (zst s.2 (54, 0, 0) (ix s.1) r1) (fun I3 => some (.inl (s.1 + 1, I3))) else none)
def fX12_init (I : zMem) : Option zMem :=
  zb (zlp (fX12_init_l158 ) 5000 (0, I)) (fun x4 => zb (fX12_laysRing x4.2) (fun r5 => zb (fX12_begins 4 4 12 4 48 r5) (fun r6 => some r6)))
set_option maxRecDepth 100000 in
theorem tX1_init_l38_y {X : zX} {e : Nat → Prop} (hw : zWf X e) {T : zT} {w1 : Int} {w2 : Int} (o : zOc X) (s : (Int × zMem)) {u : ((Int × zMem) ⊕ (Int × zMem))} (hf : fX1_init_l38 w1 w2 s = some u) (hk : ∀ s', u = .inl s' → zW X T mX1_init 38 [(0, .ref (zad X (1, 0, 0))), (1, vi w1), (2, vi w2), (3, vi s'.1)] [] s'.2) (hx : ∀ x, u = .inr x → zW X T mX1_init 69 [(0, .ref (zad X (1, 0, 0))), (1, vi w1)] [] x.2) : zW X T mX1_init 38 [(0, .ref (zad X (1, 0, 0))), (1, vi w1), (2, vi w2), (3, vi s.1)] [] s.2 := by
  unfold fX1_init_l38 at hf
  refine zW_iload_n 3 dX1_init_38 rfl ?_
  refine zW_iload_n 2 dX1_init_39 rfl ?_
  refine zF_icmp_ge 69 dX1_init_40 rfl rfl rfl hf (fun c hf => ?_) (fun c hf => ?_)
  · refine zW_sub [0, 1] rfl ?_
    exact hx _ (Option.some.inj hf).symm
  · refine zW_aload_n 0 dX1_init_43 rfl ?_
    refine zW_getR (q' := (16, 0, 0)) lk_RX1_9 o.1 rfl rfl o.2.2.2.1 dX1_init_44 ?_
    refine zW_iload_n 2 dX1_init_47 rfl ?_
    refine zW_iload_n 3 dX1_init_48 rfl ?_
    refine zW_iadd dX1_init_49 ?_
    refine zW_aload_n 0 dX1_init_50 rfl ?_
    refine zW_getR (q' := (16, 0, 0)) lk_RX1_9 o.1 rfl rfl o.2.2.2.1 dX1_init_51 ?_
    refine zW_iload_n 3 dX1_init_54 rfl ?_
    obtain ⟨c2, hf⟩ := zgd hf
    refine zF_lald o.2.1 rfl c2 rfl dX1_init_55 ?_
    refine zW_ldc2 dX1_init_56 wc_RX1_18 ?_
    refine zW_iload_n 1 dX1_init_59 rfl ?_
    refine zW_lshl dX1_init_60 ?_
    refine zW_lxor dX1_init_61 ?_
    obtain ⟨c3, hf⟩ := zgd hf
    refine zF_last o.2.1 rfl c3 rfl dX1_init_62 hf (fun I4 hf => ?_)
    refine zW_iinc 3 (lv' := [(3, vi (s.1 + 1)), (0, .ref (zad X (1, 0, 0))), (1, vi w1), (2, vi w2)]) dX1_init_63 rfl rfl rfl ?_
    refine zW_goto 38 dX1_init_66 rfl ?_
    refine zW_sub [1, 2, 3, 0] rfl ?_
    exact hk _ (Option.some.inj hf).symm
theorem tX1_init_l38 {X : zX} {e : Nat → Prop} (hw : zWf X e) {T : zT} {w1 : Int} {w2 : Int} (o : zOc X) {s0 : (Int × zMem)} {α : Type} {F : (Int × zMem) → Option α} {u : α} (hf : zb (zlp (fX1_init_l38 w1 w2) 5000 s0) F = some u) (kx : ∀ x, F x = some u → zW X T mX1_init 69 [(0, .ref (zad X (1, 0, 0))), (1, vi w1)] [] x.2) : zW X T mX1_init 38 [(0, .ref (zad X (1, 0, 0))), (1, vi w1), (2, vi w2), (3, vi s0.1)] [] s0.2 := by
  obtain ⟨x, h, hf⟩ := zb_inv hf
  exact zlp_W (P := fun s => zW X T mX1_init 38 [(0, .ref (zad X (1, 0, 0))), (1, vi w1), (2, vi w2), (3, vi s.1)] [] s.2) (E := fun x => zW X T mX1_init 69 [(0, .ref (zad X (1, 0, 0))), (1, vi w1)] [] x.2) (fun s u h hk hx => tX1_init_l38_y hw o s h hk hx) _ s0 x h (kx x hf)
set_option maxRecDepth 100000 in
theorem tX1_init_l25_y {X : zX} {e : Nat → Prop} (hw : zWf X e) {T : zT}  (o : zOc X) (s : (Int × zMem)) {u : ((Int × zMem) ⊕ (Int × zMem))} (hf : fX1_init_l25  s = some u) (hk : ∀ s', u = .inl s' → zW X T mX1_init 25 [(0, .ref (zad X (1, 0, 0))), (1, vi s'.1)] [] s'.2) (hx : ∀ x, u = .inr x → zW X T mX1_init 75 [(0, .ref (zad X (1, 0, 0)))] [] x.2) : zW X T mX1_init 25 [(0, .ref (zad X (1, 0, 0))), (1, vi s.1)] [] s.2 := by
  unfold fX1_init_l25 at hf
  refine zW_iload_n 1 dX1_init_25 rfl ?_
  refine zF_if_lt 75 dX1_init_26 rfl rfl hf (fun c hf => ?_) (fun c hf => ?_)
  · refine zW_sub [0] rfl ?_
    exact hx _ (Option.some.inj hf).symm
  · refine zW_iconst dX1_init_29 ?_
    refine zW_bipush dX1_init_30 rfl ?_
    refine zW_iload_n 1 dX1_init_32 rfl ?_
    refine zW_isub dX1_init_33 ?_
    refine zW_ishl dX1_init_34 ?_
    refine zF_istore_n (lv' := fun a1 => [(2, vi a1), (0, .ref (zad X (1, 0, 0))), (1, vi s.1)]) dX1_init_35 hf (fun _ => rfl) rfl (fun a1 hf => ?_)
    refine zW_iconst dX1_init_36 ?_
    refine zW_istore_n (lv' := [(3, vi 0), (2, vi a1), (0, .ref (zad X (1, 0, 0))), (1, vi s.1)]) dX1_init_37 rfl rfl ?_
    refine zW_sub [2, 3, 1, 0] rfl ?_
    refine tX1_init_l38 hw o (s0 := (0, s.2)) hf (fun x5 hf => ?_)
    refine zW_iinc 1 (lv' := [(1, vi (s.1 + (-1))), (0, .ref (zad X (1, 0, 0)))]) dX1_init_69 rfl rfl rfl ?_
    refine zW_goto 25 dX1_init_72 rfl ?_
    refine zW_sub [1, 0] rfl ?_
    exact hk _ (Option.some.inj hf).symm
theorem tX1_init_l25 {X : zX} {e : Nat → Prop} (hw : zWf X e) {T : zT}  (o : zOc X) {s0 : (Int × zMem)} {α : Type} {F : (Int × zMem) → Option α} {u : α} (hf : zb (zlp (fX1_init_l25 ) 5000 s0) F = some u) (kx : ∀ x, F x = some u → zW X T mX1_init 75 [(0, .ref (zad X (1, 0, 0)))] [] x.2) : zW X T mX1_init 25 [(0, .ref (zad X (1, 0, 0))), (1, vi s0.1)] [] s0.2 := by
  obtain ⟨x, h, hf⟩ := zb_inv hf
  exact zlp_W (P := fun s => zW X T mX1_init 25 [(0, .ref (zad X (1, 0, 0))), (1, vi s.1)] [] s.2) (E := fun x => zW X T mX1_init 75 [(0, .ref (zad X (1, 0, 0)))] [] x.2) (fun s u h hk hx => tX1_init_l25_y hw o s h hk hx) _ s0 x h (kx x hf)
set_option maxRecDepth 100000 in
theorem tX1_init_l77_y {X : zX} {e : Nat → Prop} (hw : zWf X e) {T : zT}  (o : zOc X) (s : (Int × zMem)) {u : ((Int × zMem) ⊕ (Int × zMem))} (hf : fX1_init_l77  s = some u) (hk : ∀ s', u = .inl s' → zW X T mX1_init 77 [(0, .ref (zad X (1, 0, 0))), (1, vi s'.1)] [] s'.2) (hx : ∀ x, u = .inr x → zW X T mX1_init 115 [] [] x.2) : zW X T mX1_init 77 [(0, .ref (zad X (1, 0, 0))), (1, vi s.1)] [] s.2 := by
  unfold fX1_init_l77 at hf
  refine zW_iload_n 1 dX1_init_77 rfl ?_
  refine zW_sipush dX1_init_78 rfl ?_
  refine zF_icmp_ge 115 dX1_init_81 rfl rfl (w32_lit _ rfl) hf (fun c hf => ?_) (fun c hf => ?_)
  · refine zW_sub [] rfl ?_
    exact hx _ (Option.some.inj hf).symm
  · refine zW_aload_n 0 dX1_init_84 rfl ?_
    refine zW_getR (q' := (17, 0, 0)) lk_RX1_15 o.1 rfl rfl o.2.2.2.2 dX1_init_85 ?_
    refine zW_iload_n 1 dX1_init_88 rfl ?_
    refine zW_aload_n 0 dX1_init_89 rfl ?_
    refine zW_getR (q' := (16, 0, 0)) lk_RX1_9 o.1 rfl rfl o.2.2.2.1 dX1_init_90 ?_
    refine zW_iload_n 1 dX1_init_93 rfl ?_
    refine zC_Sri (As := [vi s.1]) (fun x hx => kX1_wholeWord hw (v0 := s.1)  hx) ms_RX1_20 rfl rfl rfl rfl dX1_init_94 hf (fun r7 hf => ?_)
    obtain ⟨c8, hf⟩ := zgd hf
    refine zF_lald o.2.1 rfl c8 rfl dX1_init_97 ?_
    refine zW_aload_n 0 dX1_init_98 rfl ?_
    refine zW_getR (q' := (16, 0, 0)) lk_RX1_9 o.1 rfl rfl o.2.2.2.1 dX1_init_99 ?_
    refine zW_iconst dX1_init_102 ?_
    refine zC_Sri (As := [vi 0]) (fun x hx => kX1_wholeWord hw (v0 := 0)  hx) ms_RX1_20 rfl rfl rfl rfl dX1_init_103 hf (fun r9 hf => ?_)
    obtain ⟨c10, hf⟩ := zgd hf
    refine zF_lald o.2.1 rfl c10 rfl dX1_init_106 ?_
    refine zW_lxor dX1_init_107 ?_
    obtain ⟨c11, hf⟩ := zgd hf
    refine zF_last o.2.2.1 rfl c11 rfl dX1_init_108 hf (fun I12 hf => ?_)
    refine zW_iinc 1 (lv' := [(1, vi (s.1 + 1)), (0, .ref (zad X (1, 0, 0)))]) dX1_init_109 rfl rfl rfl ?_
    refine zW_goto 77 dX1_init_112 rfl ?_
    refine zW_sub [1, 0] rfl ?_
    exact hk _ (Option.some.inj hf).symm
theorem tX1_init_l77 {X : zX} {e : Nat → Prop} (hw : zWf X e) {T : zT}  (o : zOc X) {s0 : (Int × zMem)} {α : Type} {F : (Int × zMem) → Option α} {u : α} (hf : zb (zlp (fX1_init_l77 ) 5000 s0) F = some u) (kx : ∀ x, F x = some u → zW X T mX1_init 115 [] [] x.2) : zW X T mX1_init 77 [(0, .ref (zad X (1, 0, 0))), (1, vi s0.1)] [] s0.2 := by
  obtain ⟨x, h, hf⟩ := zb_inv hf
  exact zlp_W (P := fun s => zW X T mX1_init 77 [(0, .ref (zad X (1, 0, 0))), (1, vi s.1)] [] s.2) (E := fun x => zW X T mX1_init 115 [] [] x.2) (fun s u h hk hx => tX1_init_l77_y hw o s h hk hx) _ s0 x h (kx x hf)
set_option maxRecDepth 100000 in
theorem tX1_init_22 {X : zX} {e : Nat → Prop} (hw : zWf X e) (o : zOc X) {I : zMem} {u : zMem} (hf : fX1_init I = some u) : zW X (none, u) mX1_init 22 [(0, .ref (zad X (1, 0, 0)))] [] I := by
  unfold fX1_init at hf
  refine zW_bipush dX1_init_22 rfl ?_
  refine zW_istore_n (lv' := [(1, vi 10), (0, .ref (zad X (1, 0, 0)))]) dX1_init_24 rfl rfl ?_
  refine zW_sub [1, 0] rfl ?_
  refine tX1_init_l25 hw o (s0 := (10, I)) hf (fun x6 hf => ?_)
  refine zW_iconst dX1_init_75 ?_
  refine zW_istore_n (lv' := [(1, vi 1), (0, .ref (zad X (1, 0, 0)))]) dX1_init_76 rfl rfl ?_
  refine zW_sub [1, 0] rfl ?_
  refine tX1_init_l77 hw o (s0 := (1, x6.2)) hf (fun x13 hf => ?_)
  exact zR_v hw rfl dX1_init_115 hf
set_option maxRecDepth 100000 in
theorem tX6_init_b32_71 {X : zX} {e : Nat → Prop} (hw : zWf X e) {T : zT} {w1 : Int} {w2 : Int} {I : zMem} (o : zOr X) {u : ((Int × Int × zMem) ⊕ (Int × Int × zMem))} (hf : fX6_init_b32_71 w1 w2 I = some u) (hk : ∀ s', u = .inl s' → zW X T mX6_init 32 [(0, .ref (zad X (2, 0, 0))), (1, vi s'.1), (2, vi s'.2.1)] [] s'.2.2) (hx : ∀ x, u = .inr x → zW X T mX6_init 77 [(0, .ref (zad X (2, 0, 0))), (1, vi x.1)] [] x.2.2) : zW X T mX6_init 71 [(0, .ref (zad X (2, 0, 0))), (1, vi w1), (2, vi w2)] [] I := by
  unfold fX6_init_b32_71 at hf
  refine zW_iinc 2 (lv' := [(2, vi (w2 + 1)), (0, .ref (zad X (2, 0, 0))), (1, vi w1)]) dX6_init_71 rfl rfl rfl ?_
  refine zW_goto 32 dX6_init_74 rfl ?_
  refine zW_sub [1, 2, 0] rfl ?_
  exact hk _ (Option.some.inj hf).symm
set_option maxRecDepth 100000 in
theorem tX6_init_l32_y {X : zX} {e : Nat → Prop} (hw : zWf X e) {T : zT}  (o : zOr X) (s : (Int × Int × zMem)) {u : ((Int × Int × zMem) ⊕ (Int × Int × zMem))} (hf : fX6_init_l32  s = some u) (hk : ∀ s', u = .inl s' → zW X T mX6_init 32 [(0, .ref (zad X (2, 0, 0))), (1, vi s'.1), (2, vi s'.2.1)] [] s'.2.2) (hx : ∀ x, u = .inr x → zW X T mX6_init 77 [(0, .ref (zad X (2, 0, 0))), (1, vi x.1)] [] x.2.2) : zW X T mX6_init 32 [(0, .ref (zad X (2, 0, 0))), (1, vi s.1), (2, vi s.2.1)] [] s.2.2 := by
  unfold fX6_init_l32 at hf
  refine zW_iload_n 2 dX6_init_32 rfl ?_
  refine zW_bipush dX6_init_33 rfl ?_
  refine zF_icmp_ge 77 dX6_init_35 rfl rfl (w32_lit _ rfl) hf (fun c hf => ?_) (fun c hf => ?_)
  · refine zW_sub [0, 1] rfl ?_
    exact hx _ (Option.some.inj hf).symm
  · refine zW_aload_n 0 dX6_init_38 rfl ?_
    refine zW_getR (q' := (19, 0, 0)) lk_RX6_15 o.1 rfl rfl o.2.2.2.2 dX6_init_39 ?_
    refine zW_iload_n 2 dX6_init_42 rfl ?_
    refine zW_iload_n 1 dX6_init_43 rfl ?_
    obtain ⟨c1, hf⟩ := zgd hf
    refine zF_iast o.2.2.1 rfl c1 rfl dX6_init_44 hf (fun I2 hf => ?_)
    refine zW_iload_n 2 dX6_init_45 rfl ?_
    refine zC_Sri (As := [vi s.2.1]) (fun x hx => kX6_bitAtPlace hw (v0 := s.2.1)  hx) ms_RX6_21 rfl rfl rfl rfl dX6_init_46 hf (fun r3 hf => ?_)
    refine zW_istore_n (lv' := [(3, vi r3), (0, .ref (zad X (2, 0, 0))), (1, vi s.1), (2, vi s.2.1)]) dX6_init_49 rfl rfl ?_
    refine zW_iload_n 0 dX6_init_50 rfl ?_
    refine zW_iconst dX6_init_51 ?_
    refine zF_icmp_eq 71 dX6_init_52 rfl rfl (w32_lit _ rfl) hf (fun c hf => ?_) (fun c hf => ?_)
    · refine zW_sub [1, 2, 3] rfl ?_
      exact tX6_init_b32_71 hw o hf hk hx
    · refine zW_iload_n 2 dX6_init_55 rfl ?_
      refine zW_bipush dX6_init_56 rfl ?_
      refine zF_icmp_ge 71 dX6_init_58 rfl rfl (w32_lit _ rfl) hf (fun c hf => ?_) (fun c hf => ?_)
      · refine zW_sub [1, 2, 3] rfl ?_
        exact tX6_init_b32_71 hw o hf hk hx
      · refine zW_aload_n 1 dX6_init_61 rfl ?_
        refine zW_getR (q' := (18, 0, 0)) lk_RX6_9 o.1 rfl rfl o.2.2.2.1 dX6_init_62 ?_
        refine zW_iload_n 2 dX6_init_65 rfl ?_
        refine zW_iload_n 0 dX6_init_66 rfl ?_
        obtain ⟨c4, hf⟩ := zgd hf
        refine zF_iast o.2.1 rfl c4 rfl dX6_init_67 hf (fun I5 hf => ?_)
        refine zW_iinc 2 (lv' := [(1, vi (s.1 + 1)), (3, vi r3), (0, .ref (zad X (2, 0, 0))), (2, vi s.2.1)]) dX6_init_68 rfl rfl rfl ?_
        refine zW_sub [2, 0, 3] rfl ?_
        exact tX6_init_b32_71 hw o hf hk hx
theorem tX6_init_l32 {X : zX} {e : Nat → Prop} (hw : zWf X e) {T : zT}  (o : zOr X) {s0 : (Int × Int × zMem)} {α : Type} {F : (Int × Int × zMem) → Option α} {u : α} (hf : zb (zlp (fX6_init_l32 ) 5000 s0) F = some u) (kx : ∀ x, F x = some u → zW X T mX6_init 77 [(0, .ref (zad X (2, 0, 0))), (1, vi x.1)] [] x.2.2) : zW X T mX6_init 32 [(0, .ref (zad X (2, 0, 0))), (1, vi s0.1), (2, vi s0.2.1)] [] s0.2.2 := by
  obtain ⟨x, h, hf⟩ := zb_inv hf
  exact zlp_W (P := fun s => zW X T mX6_init 32 [(0, .ref (zad X (2, 0, 0))), (1, vi s.1), (2, vi s.2.1)] [] s.2.2) (E := fun x => zW X T mX6_init 77 [(0, .ref (zad X (2, 0, 0))), (1, vi x.1)] [] x.2.2) (fun s u h hk hx => tX6_init_l32_y hw o s h hk hx) _ s0 x h (kx x hf)
set_option maxRecDepth 100000 in
theorem tX6_init_28 {X : zX} {e : Nat → Prop} (hw : zWf X e) (o : zOr X) {I : zMem} {u : zMem} (hf : fX6_init I = some u) : zW X (none, u) mX6_init 28 [(0, .ref (zad X (2, 0, 0)))] [] I := by
  unfold fX6_init at hf
  refine zW_iconst dX6_init_28 ?_
  refine zW_istore_n (lv' := [(1, vi 0), (0, .ref (zad X (2, 0, 0)))]) dX6_init_29 rfl rfl ?_
  refine zW_iconst dX6_init_30 ?_
  refine zW_istore_n (lv' := [(2, vi 0), (1, vi 0), (0, .ref (zad X (2, 0, 0)))]) dX6_init_31 rfl rfl ?_
  refine zW_sub [2, 1, 0] rfl ?_
  refine tX6_init_l32 hw o (s0 := (0, 0, I)) hf (fun x6 hf => ?_)
  refine zW_aload_n 0 dX6_init_77 rfl ?_
  refine zW_getR (q' := (19, 0, 0)) lk_RX6_15 o.1 rfl rfl o.2.2.2.2 dX6_init_78 ?_
  refine zW_bipush dX6_init_81 rfl ?_
  refine zW_iload_n 1 dX6_init_83 rfl ?_
  refine zF_iast o.2.2.1 rfl (zin_lit _ _ rfl) (ix_lit _ rfl) dX6_init_84 hf (fun I7 hf => ?_)
  exact zR_v hw rfl dX6_init_85 hf
set_option maxRecDepth 100000 in
theorem tX12_init_l158_y {X : zX} {e : Nat → Prop} (hw : zWf X e) {T : zT}  (o : zOk e (50, 0, 0)) (s : (Int × zMem)) {u : ((Int × zMem) ⊕ (Int × zMem))} (hf : fX12_init_l158  s = some u) (hk : ∀ s', u = .inl s' → zW X T mX12_init 158 [(0, .ref (zad X (50, 0, 0))), (1, vi s'.1)] [] s'.2) (hx : ∀ x, u = .inr x → zW X T mX12_init 181 [(0, .ref (zad X (50, 0, 0)))] [] x.2) : zW X T mX12_init 158 [(0, .ref (zad X (50, 0, 0))), (1, vi s.1)] [] s.2 := by
  unfold fX12_init_l158 at hf
  refine zW_iload_n 1 dX12_init_158 rfl ?_
  refine zW_sipush dX12_init_159 rfl ?_
  refine zF_icmp_ge 181 dX12_init_162 rfl rfl (w32_lit _ rfl) hf (fun c hf => ?_) (fun c hf => ?_)
  · refine zW_sub [0] rfl ?_
    exact hx _ (Option.some.inj hf).symm
  · refine zW_aload_n 0 dX12_init_165 rfl ?_
    refine zW_getR (q' := (54, 0, 0)) lk_RX12_24 (hw.1 _ o) rfl rfl (hw.2.1 _ _ _ o rfl) dX12_init_166 ?_
    refine zW_iload_n 1 dX12_init_169 rfl ?_
    refine zW_iload_n 1 dX12_init_170 rfl ?_
    refine zC_Srl (As := [vi s.1]) (fun x hx => kX12_codeOf hw (v0 := s.1)  hx) ms_RX12_67 rfl rfl rfl rfl dX12_init_171 hf (fun r1 hf => ?_)
    obtain ⟨c2, hf⟩ := zgd hf
    refine zF_last (hw.1 _ (zokM (r' := 54) o rfl rfl)) rfl c2 rfl dX12_init_174 hf (fun I3 hf => ?_)
    refine zW_iinc 1 (lv' := [(1, vi (s.1 + 1)), (0, .ref (zad X (50, 0, 0)))]) dX12_init_175 rfl rfl rfl ?_
    refine zW_goto 158 dX12_init_178 rfl ?_
    refine zW_sub [1, 0] rfl ?_
    exact hk _ (Option.some.inj hf).symm
theorem tX12_init_l158 {X : zX} {e : Nat → Prop} (hw : zWf X e) {T : zT}  (o : zOk e (50, 0, 0)) {s0 : (Int × zMem)} {α : Type} {F : (Int × zMem) → Option α} {u : α} (hf : zb (zlp (fX12_init_l158 ) 5000 s0) F = some u) (kx : ∀ x, F x = some u → zW X T mX12_init 181 [(0, .ref (zad X (50, 0, 0)))] [] x.2) : zW X T mX12_init 158 [(0, .ref (zad X (50, 0, 0))), (1, vi s0.1)] [] s0.2 := by
  obtain ⟨x, h, hf⟩ := zb_inv hf
  exact zlp_W (P := fun s => zW X T mX12_init 158 [(0, .ref (zad X (50, 0, 0))), (1, vi s.1)] [] s.2) (E := fun x => zW X T mX12_init 181 [(0, .ref (zad X (50, 0, 0)))] [] x.2) (fun s u h hk hx => tX12_init_l158_y hw o s h hk hx) _ s0 x h (kx x hf)
set_option maxRecDepth 100000 in
theorem tX12_init_156 {X : zX} {e : Nat → Prop} (hw : zWf X e) (o : zOk e (50, 0, 0)) {I : zMem} {u : zMem} (hf : fX12_init I = some u) : zW X (none, u) mX12_init 156 [(0, .ref (zad X (50, 0, 0)))] [] I := by
  unfold fX12_init at hf
  refine zW_iconst dX12_init_156 ?_
  refine zW_istore_n (lv' := [(1, vi 0), (0, .ref (zad X (50, 0, 0)))]) dX12_init_157 rfl rfl ?_
  refine zW_sub [1, 0] rfl ?_
  refine tX12_init_l158 hw o (s0 := (0, I)) hf (fun x4 hf => ?_)
  refine zW_aload_n 0 dX12_init_181 rfl ?_
  refine zC_Vwv (As := []) (fun x hx => kX12_laysRing hw o hx) mv_RX12_71 (hw.1 _ o) rfl rfl rfl rfl rfl dX12_init_182 hf (fun r5 hf => ?_)
  refine zW_aload_n 0 dX12_init_185 rfl ?_
  refine zW_iconst dX12_init_186 ?_
  refine zW_iconst dX12_init_187 ?_
  refine zW_bipush dX12_init_188 rfl ?_
  refine zW_iconst dX12_init_190 ?_
  refine zW_bipush dX12_init_191 rfl ?_
  refine zC_Vwv (As := [vi 4, vi 4, vi 12, vi 4, vi 48]) (fun x hx => kX12_begins hw (v1 := 4) (v2 := 4) (v3 := 12) (v4 := 4) (v5 := 48) o hx) mv_RX12_74 (hw.1 _ o) rfl rfl rfl rfl rfl dX12_init_193 hf (fun r6 hf => ?_)
  exact zR_v hw rfl dX12_init_196 hf
