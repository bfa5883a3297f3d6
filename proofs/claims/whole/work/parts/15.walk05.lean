set_option maxRecDepth 100000 in
theorem tX11_count_b174 {X : zX} {e : Nat → Prop} (hw : zWf X e) {v1 : Int} {I : zMem} (o : zOk e (0, 0, 0)) (h1 : e 1) {u : Int} (hf : fX11_count_b174 v1 I = some u) : zW X (some (vi u), I) mX11_count 174 [(0, .ref (zad X (0, 0, 0))), (1, vi v1)] [] I := by
  unfold fX11_count_b174 at hf
  refine zW_aload_n 0 dX11_count_174 rfl ?_
  refine zW_getR (q' := (7, 1, 0)) lk_RX11_56 (hw.1 _ o) rfl rfl (hw.2.1 _ _ _ o rfl) dX11_count_175 ?_
  refine zW_getR (q' := (9, 1, 0)) lk_RX11_246 (hw.1 _ (zok1 (r' := 7) h1 rfl)) rfl rfl (hw.2.1 _ _ _ (zok1 (r' := 7) h1 rfl) rfl) dX11_count_178 ?_
  refine zW_iload_n 1 dX11_count_181 rfl ?_
  refine zC_Vri (As := [vi v1]) (fun x hx => kX5_tell hw (L := 1) (v1 := v1) (zokB (r' := 9) (zok1 (r' := 7) h1 rfl) rfl rfl) hx) mv_RX11_440 (hw.1 _ (zokB (r' := 9) (zok1 (r' := 7) h1 rfl) rfl rfl)) rfl rfl rfl rfl rfl dX11_count_182 hf (fun r1 hf => ?_)
  exact zS_i hw rfl dX11_count_185 hf
set_option maxRecDepth 100000 in
theorem tX11_count_0 {X : zX} {e : Nat → Prop} (hw : zWf X e) {v1 : Int} (o : zOk e (0, 0, 0)) (h1 : e 1) {I : zMem} {u : Int} (hf : fX11_count v1 I = some u) : zW X (some (vi u), I) mX11_count 0 [(0, .ref (zad X (0, 0, 0))), (1, vi v1)] [] I := by
  unfold fX11_count at hf
  refine zW_aload_n 0 dX11_count_0 rfl ?_
  refine zW_getR (q' := (7, 1, 0)) lk_RX11_56 (hw.1 _ o) rfl rfl (hw.2.1 _ _ _ o rfl) dX11_count_1 ?_
  refine zW_getR (q' := (8, 1, 0)) lk_RX11_188 (hw.1 _ (zok1 (r' := 7) h1 rfl)) rfl rfl (hw.2.1 _ _ _ (zok1 (r' := 7) h1 rfl) rfl) dX11_count_4 ?_
  refine zW_astore_n (lv' := [(2, .ref (zad X (8, 1, 0))), (0, .ref (zad X (0, 0, 0))), (1, vi v1)]) dX11_count_7 rfl rfl ?_
  refine zW_iload_n 2 dX11_count_8 rfl ?_
  rcases zif hf with ⟨ts0, hf⟩ | ⟨ts0, hf⟩
  · refine zW_tab 0 104 dX11_count_9 (by rw [ts0]; rfl) rfl rfl rfl ?_
    refine zW_aload_n 0 dX11_count_104 rfl ?_
    refine zW_getI lk_RX11_192 (hw.1 _ (zokB (r' := 8) (zok1 (r' := 7) h1 rfl) rfl rfl)) rfl rfl dX11_count_105 ?_
    exact zS_i hw rfl dX11_count_108 hf
  · rcases zif hf with ⟨ts1, hf⟩ | ⟨ts1, hf⟩
    · refine zW_tab 1 109 dX11_count_9 (by rw [ts1]; rfl) rfl rfl rfl ?_
      refine zW_aload_n 0 dX11_count_109 rfl ?_
      refine zW_getI lk_RX11_428 (hw.1 _ (zokB (r' := 8) (zok1 (r' := 7) h1 rfl) rfl rfl)) rfl rfl dX11_count_110 ?_
      exact zS_i hw rfl dX11_count_113 hf
    · rcases zif hf with ⟨ts2, hf⟩ | ⟨ts2, hf⟩
      · refine zW_tab 2 114 dX11_count_9 (by rw [ts2]; rfl) rfl rfl rfl ?_
        refine zW_aload_n 0 dX11_count_114 rfl ?_
        refine zW_getI lk_RX11_431 (hw.1 _ (zokB (r' := 8) (zok1 (r' := 7) h1 rfl) rfl rfl)) rfl rfl dX11_count_115 ?_
        exact zS_i hw rfl dX11_count_118 hf
      · rcases zif hf with ⟨ts3, hf⟩ | ⟨ts3, hf⟩
        · refine zW_tab 3 119 dX11_count_9 (by rw [ts3]; rfl) rfl rfl rfl ?_
          refine zW_aload_n 0 dX11_count_119 rfl ?_
          refine zW_getI lk_RX11_263 (hw.1 _ (zokB (r' := 8) (zok1 (r' := 7) h1 rfl) rfl rfl)) rfl rfl dX11_count_120 ?_
          exact zS_i hw rfl dX11_count_123 hf
        · rcases zif hf with ⟨ts4, hf⟩ | ⟨ts4, hf⟩
          · refine zW_tab 12 124 dX11_count_9 (by rw [ts4]; rfl) rfl rfl rfl ?_
            refine zW_aload_n 0 dX11_count_124 rfl ?_
            refine zW_getI lk_RX11_434 (hw.1 _ (zokB (r' := 8) (zok1 (r' := 7) h1 rfl) rfl rfl)) rfl rfl dX11_count_125 ?_
            exact zS_i hw rfl dX11_count_128 hf
          · rcases zif hf with ⟨ts5, hf⟩ | ⟨ts5, hf⟩
            · refine zW_tab 13 129 dX11_count_9 (by rw [ts5]; rfl) rfl rfl rfl ?_
              refine zW_aload_n 0 dX11_count_129 rfl ?_
              refine zW_getI lk_RX11_437 (hw.1 _ (zokB (r' := 8) (zok1 (r' := 7) h1 rfl) rfl rfl)) rfl rfl dX11_count_130 ?_
              exact zS_i hw rfl dX11_count_133 hf
            · rcases zif hf with ⟨ts6, hf⟩ | ⟨ts6, hf⟩
              · refine zW_tab 15 134 dX11_count_9 (by rw [ts6]; rfl) rfl rfl rfl ?_
                refine zW_aload_n 1 dX11_count_134 rfl ?_
                refine zW_getR (q' := (7, 1, 0)) lk_RX11_56 (hw.1 _ o) rfl rfl (hw.2.1 _ _ _ o rfl) dX11_count_135 ?_
                refine zW_getI lk_RX11_170 (hw.1 _ (zok1 (r' := 7) h1 rfl)) rfl rfl dX11_count_138 ?_
                exact zS_i hw rfl dX11_count_141 hf
              · rcases zif hf with ⟨ts7, hf⟩ | ⟨ts7, hf⟩
                · refine zW_tab 16 142 dX11_count_9 (by rw [ts7]; rfl) rfl rfl rfl ?_
                  refine zW_aload_n 1 dX11_count_142 rfl ?_
                  refine zW_getR (q' := (7, 1, 0)) lk_RX11_56 (hw.1 _ o) rfl rfl (hw.2.1 _ _ _ o rfl) dX11_count_143 ?_
                  refine zW_getI lk_RX11_173 (hw.1 _ (zok1 (r' := 7) h1 rfl)) rfl rfl dX11_count_146 ?_
                  exact zS_i hw rfl dX11_count_149 hf
                · rcases zif hf with ⟨ts8, hf⟩ | ⟨ts8, hf⟩
                  · refine zW_tab 17 150 dX11_count_9 (by rw [ts8]; rfl) rfl rfl rfl ?_
                    refine zW_aload_n 1 dX11_count_150 rfl ?_
                    refine zW_getR (q' := (7, 1, 0)) lk_RX11_56 (hw.1 _ o) rfl rfl (hw.2.1 _ _ _ o rfl) dX11_count_151 ?_
                    refine zW_getI lk_RX11_94 (hw.1 _ (zok1 (r' := 7) h1 rfl)) rfl rfl dX11_count_154 ?_
                    exact zS_i hw rfl dX11_count_157 hf
                  · rcases zif hf with ⟨ts9, hf⟩ | ⟨ts9, hf⟩
                    · refine zW_tab 18 158 dX11_count_9 (by rw [ts9]; rfl) rfl rfl rfl ?_
                      refine zW_aload_n 1 dX11_count_158 rfl ?_
                      refine zW_getR (q' := (7, 1, 0)) lk_RX11_56 (hw.1 _ o) rfl rfl (hw.2.1 _ _ _ o rfl) dX11_count_159 ?_
                      refine zW_getI lk_RX11_182 (hw.1 _ (zok1 (r' := 7) h1 rfl)) rfl rfl dX11_count_162 ?_
                      exact zS_i hw rfl dX11_count_165 hf
                    · rcases zif hf with ⟨ts10, hf⟩ | ⟨ts10, hf⟩
                      · refine zW_tab 19 166 dX11_count_9 (by rw [ts10]; rfl) rfl rfl rfl ?_
                        refine zW_aload_n 1 dX11_count_166 rfl ?_
                        refine zW_getR (q' := (7, 1, 0)) lk_RX11_56 (hw.1 _ o) rfl rfl (hw.2.1 _ _ _ o rfl) dX11_count_167 ?_
                        refine zW_getI lk_RX11_185 (hw.1 _ (zok1 (r' := 7) h1 rfl)) rfl rfl dX11_count_170 ?_
                        exact zS_i hw rfl dX11_count_173 hf
                      · by_cases g4 : w32 v1 = 4
                        · refine zW_tab 4 174 dX11_count_9 (by rw [g4]; rfl) rfl rfl rfl ?_
                          refine zW_sub [1, 2] rfl ?_
                          exact tX11_count_b174 hw o h1 hf
                        by_cases g5 : w32 v1 = 5
                        · refine zW_tab 5 174 dX11_count_9 (by rw [g5]; rfl) rfl rfl rfl ?_
                          refine zW_sub [1, 2] rfl ?_
                          exact tX11_count_b174 hw o h1 hf
                        by_cases g6 : w32 v1 = 6
                        · refine zW_tab 6 174 dX11_count_9 (by rw [g6]; rfl) rfl rfl rfl ?_
                          refine zW_sub [1, 2] rfl ?_
                          exact tX11_count_b174 hw o h1 hf
                        by_cases g7 : w32 v1 = 7
                        · refine zW_tab 7 174 dX11_count_9 (by rw [g7]; rfl) rfl rfl rfl ?_
                          refine zW_sub [1, 2] rfl ?_
                          exact tX11_count_b174 hw o h1 hf
                        by_cases g8 : w32 v1 = 8
                        · refine zW_tab 8 174 dX11_count_9 (by rw [g8]; rfl) rfl rfl rfl ?_
                          refine zW_sub [1, 2] rfl ?_
                          exact tX11_count_b174 hw o h1 hf
                        by_cases g9 : w32 v1 = 9
                        · refine zW_tab 9 174 dX11_count_9 (by rw [g9]; rfl) rfl rfl rfl ?_
                          refine zW_sub [1, 2] rfl ?_
                          exact tX11_count_b174 hw o h1 hf
                        by_cases g10 : w32 v1 = 10
                        · refine zW_tab 10 174 dX11_count_9 (by rw [g10]; rfl) rfl rfl rfl ?_
                          refine zW_sub [1, 2] rfl ?_
                          exact tX11_count_b174 hw o h1 hf
                        by_cases g11 : w32 v1 = 11
                        · refine zW_tab 11 174 dX11_count_9 (by rw [g11]; rfl) rfl rfl rfl ?_
                          refine zW_sub [1, 2] rfl ?_
                          exact tX11_count_b174 hw o h1 hf
                        by_cases g14 : w32 v1 = 14
                        · refine zW_tab 14 174 dX11_count_9 (by rw [g14]; rfl) rfl rfl rfl ?_
                          refine zW_sub [1, 2] rfl ?_
                          exact tX11_count_b174 hw o h1 hf
                        refine zW_tabd 174 dX11_count_9 (by omega) rfl ?_
                        refine zW_sub [1, 2] rfl ?_
                        exact tX11_count_b174 hw o h1 hf
theorem kX11_count {X : zX} {e : Nat → Prop} (hw : zWf X e) {v1 : Int} (o : zOk e (0, 0, 0)) (h1 : e 1) {I : zMem} {u : Int} (hf : fX11_count v1 I = some u) : zCn X mX11_count yX11_count [.ref (zad X (0, 0, 0)), vi v1] I (some (vi u), I) := zCn_of (by decide +kernel) rfl rfl ⟨rfl, rfl⟩ (tX11_count_0 hw.N o h1 hf)
set_option maxRecDepth 100000 in
theorem tX12_within_b17 {X : zX} {e : Nat → Prop} (hw : zWf X e) {I : zMem} {v0 : Int} {v2 : Int} {v4 : Int}  {u : Int} (hf : fX12_within_b17 v0 v2 v4 = some u) : zW X (some (vi u), I) mX12_within 17 [] [] I := by
  unfold fX12_within_b17 at hf
  refine zW_iconst dX12_within_17 ?_
  exact zS_z hw rfl (Or.inl rfl) dX12_within_18 hf
set_option maxRecDepth 100000 in
theorem tX12_within_0 {X : zX} {e : Nat → Prop} (hw : zWf X e) {v0 : Int} {v2 : Int} {v4 : Int}  {I : zMem} {u : Int} (hf : fX12_within v0 v2 v4 = some u) : zW X (some (vi u), I) mX12_within 0 [(0, vl v0), (2, vl v2), (4, vl v4)] [] I := by
  unfold fX12_within at hf
  refine zW_lload_n 0 dX12_within_0 rfl ?_
  refine zW_lload_n 1 dX12_within_1 rfl ?_
  refine zF_lcmp_lt 17 dX12_within_2 dX12_within_3 rfl rfl rfl hf (fun c hf => ?_) (fun c hf => ?_)
  · refine zW_sub [] rfl ?_
    exact tX12_within_b17 hw  hf
  · refine zW_lload_n 0 dX12_within_6 rfl ?_
    refine zW_lload 2 dX12_within_7 rfl ?_
    refine zF_lcmp_gt 17 dX12_within_9 dX12_within_10 rfl rfl rfl hf (fun c hf => ?_) (fun c hf => ?_)
    · refine zW_sub [] rfl ?_
      exact tX12_within_b17 hw  hf
    · refine zW_iconst dX12_within_13 ?_
      refine zW_goto 18 dX12_within_14 rfl ?_
      exact zS_z hw rfl (Or.inr rfl) dX12_within_18 hf
theorem kX12_within {X : zX} {e : Nat → Prop} (hw : zWf X e) {v0 : Int} {v2 : Int} {v4 : Int}  {I : zMem} {u : Int} (hf : fX12_within v0 v2 v4 = some u) : zCn X mX12_within yX12_within [vl v0, vl v2, vl v4] I (some (vi u), I) := zCn_of (by decide +kernel) rfl rfl ⟨rfl, rfl⟩ (tX12_within_0 hw.N  hf)
set_option maxRecDepth 100000 in
theorem tX12_begins_l3_y {X : zX} {e : Nat → Prop} (hw : zWf X e) {T : zT} {v1 : Int} {v2 : Int} {v3 : Int} {v4 : Int} {v5 : Int} (o : zOk e (50, 0, 0)) (s : (Int × zMem)) {u : ((Int × zMem) ⊕ (Int × zMem))} (hf : fX12_begins_l3 v1 v2 v3 v4 v5 s = some u) (hk : ∀ s', u = .inl s' → zW X T mX12_begins 3 [(0, .ref (zad X (50, 0, 0))), (1, vi v1), (2, vi v2), (3, vi v3), (4, vi v4), (5, vi v5), (6, vi s'.1)] [] s'.2) (hx : ∀ x, u = .inr x → zW X T mX12_begins 25 [(0, .ref (zad X (50, 0, 0))), (1, vi v1), (2, vi v2), (3, vi v3), (4, vi v4), (5, vi v5)] [] x.2) : zW X T mX12_begins 3 [(0, .ref (zad X (50, 0, 0))), (1, vi v1), (2, vi v2), (3, vi v3), (4, vi v4), (5, vi v5), (6, vi s.1)] [] s.2 := by
  unfold fX12_begins_l3 at hf
  refine zW_iload 6 dX12_begins_3 rfl ?_
  refine zW_sipush dX12_begins_5 rfl ?_
  refine zF_icmp_ge 25 dX12_begins_8 rfl rfl (w32_lit _ rfl) hf (fun c hf => ?_) (fun c hf => ?_)
  · refine zW_sub [0, 1, 2, 3, 4, 5] rfl ?_
    exact hx _ (Option.some.inj hf).symm
  · refine zW_aload_n 0 dX12_begins_11 rfl ?_
    refine zW_getR (q' := (51, 0, 0)) lk_RX12_13 (hw.1 _ o) rfl rfl (hw.2.1 _ _ _ o rfl) dX12_begins_12 ?_
    refine zW_iload 6 dX12_begins_15 rfl ?_
    refine zW_iconst dX12_begins_17 ?_
    obtain ⟨c1, hf⟩ := zgd hf
    refine zF_iast (hw.1 _ (zokM (r' := 51) o rfl rfl)) rfl c1 rfl dX12_begins_18 hf (fun I2 hf => ?_)
    refine zW_iinc 6 (lv' := [(6, vi (s.1 + 1)), (0, .ref (zad X (50, 0, 0))), (1, vi v1), (2, vi v2), (3, vi v3), (4, vi v4), (5, vi v5)]) dX12_begins_19 rfl rfl rfl ?_
    refine zW_goto 3 dX12_begins_22 rfl ?_
    refine zW_sub [1, 2, 3, 4, 5, 6, 0] rfl ?_
    exact hk _ (Option.some.inj hf).symm
theorem tX12_begins_l3 {X : zX} {e : Nat → Prop} (hw : zWf X e) {T : zT} {v1 : Int} {v2 : Int} {v3 : Int} {v4 : Int} {v5 : Int} (o : zOk e (50, 0, 0)) {s0 : (Int × zMem)} {α : Type} {F : (Int × zMem) → Option α} {u : α} (hf : zb (zlp (fX12_begins_l3 v1 v2 v3 v4 v5) 5000 s0) F = some u) (kx : ∀ x, F x = some u → zW X T mX12_begins 25 [(0, .ref (zad X (50, 0, 0))), (1, vi v1), (2, vi v2), (3, vi v3), (4, vi v4), (5, vi v5)] [] x.2) : zW X T mX12_begins 3 [(0, .ref (zad X (50, 0, 0))), (1, vi v1), (2, vi v2), (3, vi v3), (4, vi v4), (5, vi v5), (6, vi s0.1)] [] s0.2 := by
  obtain ⟨x, h, hf⟩ := zb_inv hf
  exact zlp_W (P := fun s => zW X T mX12_begins 3 [(0, .ref (zad X (50, 0, 0))), (1, vi v1), (2, vi v2), (3, vi v3), (4, vi v4), (5, vi v5), (6, vi s.1)] [] s.2) (E := fun x => zW X T mX12_begins 25 [(0, .ref (zad X (50, 0, 0))), (1, vi v1), (2, vi v2), (3, vi v3), (4, vi v4), (5, vi v5)] [] x.2) (fun s u h hk hx => tX12_begins_l3_y hw o s h hk hx) _ s0 x h (kx x hf)
set_option maxRecDepth 100000 in
theorem tX12_begins_l99_y {X : zX} {e : Nat → Prop} (hw : zWf X e) {T : zT} {v1 : Int} {v2 : Int} {v3 : Int} {v4 : Int} {v5 : Int} (o : zOk e (50, 0, 0)) (s : (Int × zMem)) {u : ((Int × zMem) ⊕ (Int × zMem))} (hf : fX12_begins_l99 v1 v2 v3 v4 v5 s = some u) (hk : ∀ s', u = .inl s' → zW X T mX12_begins 99 [(0, .ref (zad X (50, 0, 0))), (6, vi s'.1)] [] s'.2) (hx : ∀ x, u = .inr x → zW X T mX12_begins 169 [] [] x.2) : zW X T mX12_begins 99 [(0, .ref (zad X (50, 0, 0))), (6, vi s.1)] [] s.2 := by
  unfold fX12_begins_l99 at hf
  refine zW_iload 1 dX12_begins_99 rfl ?_
  refine zW_bipush dX12_begins_101 rfl ?_
  refine zF_icmp_ge 169 dX12_begins_103 rfl rfl (w32_lit _ rfl) hf (fun c hf => ?_) (fun c hf => ?_)
  · refine zW_sub [] rfl ?_
    exact hx _ (Option.some.inj hf).symm
  · refine zW_aload_n 0 dX12_begins_106 rfl ?_
    refine zW_getR (q' := (51, 0, 0)) lk_RX12_13 (hw.1 _ o) rfl rfl (hw.2.1 _ _ _ o rfl) dX12_begins_107 ?_
    refine zW_bipush dX12_begins_110 rfl ?_
    refine zW_iload 1 dX12_begins_112 rfl ?_
    refine zW_iadd dX12_begins_114 ?_
    refine zW_iconst dX12_begins_115 ?_
    obtain ⟨c13, hf⟩ := zgd hf
    refine zF_iast (hw.1 _ (zokM (r' := 51) o rfl rfl)) rfl c13 rfl dX12_begins_116 hf (fun I14 hf => ?_)
    refine zW_aload_n 0 dX12_begins_117 rfl ?_
    refine zW_getR (q' := (51, 0, 0)) lk_RX12_13 (hw.1 _ o) rfl rfl (hw.2.1 _ _ _ o rfl) dX12_begins_118 ?_
    refine zW_bipush dX12_begins_121 rfl ?_
    refine zW_iload 1 dX12_begins_123 rfl ?_
    refine zW_iadd dX12_begins_125 ?_
    refine zW_iconst dX12_begins_126 ?_
    obtain ⟨c15, hf⟩ := zgd hf
    refine zF_iast (hw.1 _ (zokM (r' := 51) o rfl rfl)) rfl c15 rfl dX12_begins_127 hf (fun I16 hf => ?_)
    refine zW_aload_n 0 dX12_begins_128 rfl ?_
    refine zW_getR (q' := (51, 0, 0)) lk_RX12_13 (hw.1 _ o) rfl rfl (hw.2.1 _ _ _ o rfl) dX12_begins_129 ?_
    refine zW_sipush dX12_begins_132 rfl ?_
    refine zW_bipush dX12_begins_135 rfl ?_
    refine zW_iload 1 dX12_begins_137 rfl ?_
    refine zW_imul dX12_begins_139 ?_
    refine zW_iadd dX12_begins_140 ?_
    refine zW_iconst dX12_begins_141 ?_
    refine zW_iadd dX12_begins_142 ?_
    refine zW_iconst dX12_begins_143 ?_
    obtain ⟨c17, hf⟩ := zgd hf
    refine zF_iast (hw.1 _ (zokM (r' := 51) o rfl rfl)) rfl c17 rfl dX12_begins_144 hf (fun I18 hf => ?_)
    refine zW_aload_n 0 dX12_begins_145 rfl ?_
    refine zW_getR (q' := (51, 0, 0)) lk_RX12_13 (hw.1 _ o) rfl rfl (hw.2.1 _ _ _ o rfl) dX12_begins_146 ?_
    refine zW_sipush dX12_begins_149 rfl ?_
    refine zW_bipush dX12_begins_152 rfl ?_
    refine zW_iload 1 dX12_begins_154 rfl ?_
    refine zW_imul dX12_begins_156 ?_
    refine zW_iadd dX12_begins_157 ?_
    refine zW_bipush dX12_begins_158 rfl ?_
    refine zW_iadd dX12_begins_160 ?_
    refine zW_iconst dX12_begins_161 ?_
    obtain ⟨c19, hf⟩ := zgd hf
    refine zF_iast (hw.1 _ (zokM (r' := 51) o rfl rfl)) rfl c19 rfl dX12_begins_162 hf (fun I20 hf => ?_)
    refine zW_iinc 1 (lv' := [(6, vi (s.1 + 1)), (0, .ref (zad X (50, 0, 0)))]) dX12_begins_163 rfl rfl rfl ?_
    refine zW_goto 99 dX12_begins_166 rfl ?_
    refine zW_sub [1, 0] rfl ?_
    exact hk _ (Option.some.inj hf).symm
theorem tX12_begins_l99 {X : zX} {e : Nat → Prop} (hw : zWf X e) {T : zT} {v1 : Int} {v2 : Int} {v3 : Int} {v4 : Int} {v5 : Int} (o : zOk e (50, 0, 0)) {s0 : (Int × zMem)} {α : Type} {F : (Int × zMem) → Option α} {u : α} (hf : zb (zlp (fX12_begins_l99 v1 v2 v3 v4 v5) 5000 s0) F = some u) (kx : ∀ x, F x = some u → zW X T mX12_begins 169 [] [] x.2) : zW X T mX12_begins 99 [(0, .ref (zad X (50, 0, 0))), (6, vi s0.1)] [] s0.2 := by
  obtain ⟨x, h, hf⟩ := zb_inv hf
  exact zlp_W (P := fun s => zW X T mX12_begins 99 [(0, .ref (zad X (50, 0, 0))), (6, vi s.1)] [] s.2) (E := fun x => zW X T mX12_begins 169 [] [] x.2) (fun s u h hk hx => tX12_begins_l99_y hw o s h hk hx) _ s0 x h (kx x hf)
set_option maxRecDepth 100000 in
theorem tX12_begins_0 {X : zX} {e : Nat → Prop} (hw : zWf X e) {v1 : Int} {v2 : Int} {v3 : Int} {v4 : Int} {v5 : Int} (o : zOk e (50, 0, 0)) {I : zMem} {u : zMem} (hf : fX12_begins v1 v2 v3 v4 v5 I = some u) : zW X (none, u) mX12_begins 0 [(0, .ref (zad X (50, 0, 0))), (1, vi v1), (2, vi v2), (3, vi v3), (4, vi v4), (5, vi v5)] [] I := by
  unfold fX12_begins at hf
  refine zW_iconst dX12_begins_0 ?_
  refine zW_istore (lv' := [(6, vi 0), (0, .ref (zad X (50, 0, 0))), (1, vi v1), (2, vi v2), (3, vi v3), (4, vi v4), (5, vi v5)]) dX12_begins_1 rfl rfl ?_
  refine zW_sub [1, 2, 3, 4, 5, 6, 0] rfl ?_
  refine tX12_begins_l3 hw o (s0 := (0, I)) hf (fun x3 hf => ?_)
  refine zW_aload_n 0 dX12_begins_25 rfl ?_
  refine zW_getR (q' := (51, 0, 0)) lk_RX12_13 (hw.1 _ o) rfl rfl (hw.2.1 _ _ _ o rfl) dX12_begins_26 ?_
  refine zW_iconst dX12_begins_29 ?_
  refine zW_iload_n 1 dX12_begins_30 rfl ?_
  refine zF_iast (hw.1 _ (zokM (r' := 51) o rfl rfl)) rfl (zin_lit _ _ rfl) (ix_lit _ rfl) dX12_begins_31 hf (fun I4 hf => ?_)
  refine zW_aload_n 0 dX12_begins_32 rfl ?_
  refine zW_getR (q' := (51, 0, 0)) lk_RX12_13 (hw.1 _ o) rfl rfl (hw.2.1 _ _ _ o rfl) dX12_begins_33 ?_
  refine zW_iconst dX12_begins_36 ?_
  refine zW_iload_n 2 dX12_begins_37 rfl ?_
  refine zF_iast (hw.1 _ (zokM (r' := 51) o rfl rfl)) rfl (zin_lit _ _ rfl) (ix_lit _ rfl) dX12_begins_38 hf (fun I5 hf => ?_)
  refine zW_aload_n 0 dX12_begins_39 rfl ?_
  refine zW_getR (q' := (51, 0, 0)) lk_RX12_13 (hw.1 _ o) rfl rfl (hw.2.1 _ _ _ o rfl) dX12_begins_40 ?_
  refine zW_iconst dX12_begins_43 ?_
  refine zW_iload_n 3 dX12_begins_44 rfl ?_
  refine zF_iast (hw.1 _ (zokM (r' := 51) o rfl rfl)) rfl (zin_lit _ _ rfl) (ix_lit _ rfl) dX12_begins_45 hf (fun I6 hf => ?_)
  refine zW_aload_n 0 dX12_begins_46 rfl ?_
  refine zW_getR (q' := (51, 0, 0)) lk_RX12_13 (hw.1 _ o) rfl rfl (hw.2.1 _ _ _ o rfl) dX12_begins_47 ?_
  refine zW_iconst dX12_begins_50 ?_
  refine zW_iload 4 dX12_begins_51 rfl ?_
  refine zF_iast (hw.1 _ (zokM (r' := 51) o rfl rfl)) rfl (zin_lit _ _ rfl) (ix_lit _ rfl) dX12_begins_53 hf (fun I7 hf => ?_)
  refine zW_aload_n 0 dX12_begins_54 rfl ?_
  refine zW_getR (q' := (51, 0, 0)) lk_RX12_13 (hw.1 _ o) rfl rfl (hw.2.1 _ _ _ o rfl) dX12_begins_55 ?_
  refine zW_iconst dX12_begins_58 ?_
  refine zW_iload 5 dX12_begins_59 rfl ?_
  refine zF_iast (hw.1 _ (zokM (r' := 51) o rfl rfl)) rfl (zin_lit _ _ rfl) (ix_lit _ rfl) dX12_begins_61 hf (fun I8 hf => ?_)
  refine zW_aload_n 0 dX12_begins_62 rfl ?_
  refine zW_getR (q' := (51, 0, 0)) lk_RX12_13 (hw.1 _ o) rfl rfl (hw.2.1 _ _ _ o rfl) dX12_begins_63 ?_
  refine zW_iconst dX12_begins_66 ?_
  refine zW_sipush dX12_begins_67 rfl ?_
  refine zF_iast (hw.1 _ (zokM (r' := 51) o rfl rfl)) rfl (zin_lit _ _ rfl) (ix_lit _ rfl) dX12_begins_70 hf (fun I9 hf => ?_)
  refine zW_aload_n 0 dX12_begins_71 rfl ?_
  refine zW_getR (q' := (51, 0, 0)) lk_RX12_13 (hw.1 _ o) rfl rfl (hw.2.1 _ _ _ o rfl) dX12_begins_72 ?_
  refine zW_bipush dX12_begins_75 rfl ?_
  refine zW_bipush dX12_begins_77 rfl ?_
  refine zF_iast (hw.1 _ (zokM (r' := 51) o rfl rfl)) rfl (zin_lit _ _ rfl) (ix_lit _ rfl) dX12_begins_79 hf (fun I10 hf => ?_)
  refine zW_aload_n 0 dX12_begins_80 rfl ?_
  refine zW_getR (q' := (51, 0, 0)) lk_RX12_13 (hw.1 _ o) rfl rfl (hw.2.1 _ _ _ o rfl) dX12_begins_81 ?_
  refine zW_bipush dX12_begins_84 rfl ?_
  refine zW_iconst dX12_begins_86 ?_
  refine zF_iast (hw.1 _ (zokM (r' := 51) o rfl rfl)) rfl (zin_lit _ _ rfl) (ix_lit _ rfl) dX12_begins_87 hf (fun I11 hf => ?_)
  refine zW_aload_n 0 dX12_begins_88 rfl ?_
  refine zW_getR (q' := (51, 0, 0)) lk_RX12_13 (hw.1 _ o) rfl rfl (hw.2.1 _ _ _ o rfl) dX12_begins_89 ?_
  refine zW_bipush dX12_begins_92 rfl ?_
  refine zW_iconst dX12_begins_94 ?_
  refine zF_iast (hw.1 _ (zokM (r' := 51) o rfl rfl)) rfl (zin_lit _ _ rfl) (ix_lit _ rfl) dX12_begins_95 hf (fun I12 hf => ?_)
  refine zW_iconst dX12_begins_96 ?_
  refine zW_istore (lv' := [(6, vi 0), (0, .ref (zad X (50, 0, 0))), (1, vi v1), (2, vi v2), (3, vi v3), (4, vi v4), (5, vi v5)]) dX12_begins_97 rfl rfl ?_
  refine zW_sub [1, 0] rfl ?_
  refine tX12_begins_l99 hw o (s0 := (0, I12)) hf (fun x21 hf => ?_)
  exact zR_v hw rfl dX12_begins_169 hf
theorem kX12_begins {X : zX} {e : Nat → Prop} (hw : zWf X e) {v1 : Int} {v2 : Int} {v3 : Int} {v4 : Int} {v5 : Int} (o : zOk e (50, 0, 0)) {I : zMem} {u : zMem} (hf : fX12_begins v1 v2 v3 v4 v5 I = some u) : zCn X mX12_begins yX12_begins [.ref (zad X (50, 0, 0)), vi v1, vi v2, vi v3, vi v4, vi v5] I (none, u) := zCn_of (by decide +kernel) rfl rfl ⟨rfl, rfl⟩ (tX12_begins_0 hw.N o hf)
set_option maxRecDepth 100000 in
theorem tX12_bitAt_b10 {X : zX} {e : Nat → Prop} (hw : zWf X e) {I : zMem} {v0 : Int} {v1 : Int}  {u : Int} (hf : fX12_bitAt_b10 v0 v1 = some u) : zW X (some (vi u), I) mX12_bitAt 10 [] [] I := by
  unfold fX12_bitAt_b10 at hf
  refine zW_iconst dX12_bitAt_10 ?_
  refine zW_goto 22 dX12_bitAt_11 rfl ?_
  exact zS_i hw rfl dX12_bitAt_22 hf
set_option maxRecDepth 100000 in
theorem tX12_bitAt_0 {X : zX} {e : Nat → Prop} (hw : zWf X e) {v0 : Int} {v1 : Int}  {I : zMem} {u : Int} (hf : fX12_bitAt v0 v1 = some u) : zW X (some (vi u), I) mX12_bitAt 0 [(0, vi v0), (1, vi v1)] [] I := by
  unfold fX12_bitAt at hf
  refine zW_iload_n 1 dX12_bitAt_0 rfl ?_
  refine zF_if_lt 10 dX12_bitAt_1 rfl rfl hf (fun c hf => ?_) (fun c hf => ?_)
  · refine zW_sub [] rfl ?_
    exact tX12_bitAt_b10 hw  hf
  · refine zW_iload_n 1 dX12_bitAt_4 rfl ?_
    refine zW_bipush dX12_bitAt_5 rfl ?_
    refine zF_icmp_le 14 dX12_bitAt_7 rfl rfl (w32_lit _ rfl) hf (fun c hf => ?_) (fun c hf => ?_)
    · refine zW_iload_n 0 dX12_bitAt_14 rfl ?_
      refine zW_bipush dX12_bitAt_15 rfl ?_
      refine zW_iload_n 1 dX12_bitAt_17 rfl ?_
      refine zW_isub dX12_bitAt_18 ?_
      refine zW_ishr dX12_bitAt_19 ?_
      refine zW_iconst dX12_bitAt_20 ?_
      refine zW_iand_1 dX12_bitAt_21 ?_
      exact zS_i hw rfl dX12_bitAt_22 hf
    · refine zW_sub [] rfl ?_
      exact tX12_bitAt_b10 hw  hf
theorem kX12_bitAt {X : zX} {e : Nat → Prop} (hw : zWf X e) {v0 : Int} {v1 : Int}  {I : zMem} {u : Int} (hf : fX12_bitAt v0 v1 = some u) : zCn X mX12_bitAt yX12_bitAt [vi v0, vi v1] I (some (vi u), I) := zCn_of (by decide +kernel) rfl rfl ⟨rfl, rfl⟩ (tX12_bitAt_0 hw.N  hf)
set_option maxRecDepth 100000 in
theorem tX12_codeBit_0 {X : zX} {e : Nat → Prop} (hw : zWf X e) {v0 : Int} {v1 : Int}  {I : zMem} {u : Int} (hf : fX12_codeBit v0 v1 = some u) : zW X (some (vi u), I) mX12_codeBit 0 [(0, vi v0), (1, vi v1)] [] I := by
  unfold fX12_codeBit at hf
  refine zW_iload_n 1 dX12_codeBit_0 rfl ?_
  refine zW_bipush dX12_codeBit_1 rfl ?_
  refine zW_irem dX12_codeBit_3 (w32_ne0 _ rfl) ?_
  refine zF_istore_n (lv' := fun a1 => [(2, vi a1), (0, vi v0), (1, vi v1)]) dX12_codeBit_4 hf (fun _ => rfl) rfl (fun a1 hf => ?_)
  refine zW_iload_n 1 dX12_codeBit_5 rfl ?_
  refine zW_iload_n 0 dX12_codeBit_6 rfl ?_
  refine zC_Sri (As := [vi v0, vi a1]) (fun x hx => kX12_bitAt hw (v0 := v0) (v1 := a1)  hx) ms_RX12_78 rfl rfl rfl rfl dX12_codeBit_7 hf (fun r2 hf => ?_)
  refine zW_istore_n (lv' := [(3, vi r2), (2, vi a1), (0, vi v0), (1, vi v1)]) dX12_codeBit_10 rfl rfl ?_
  refine zW_iload_n 2 dX12_codeBit_11 rfl ?_
  refine zW_iload_n 1 dX12_codeBit_12 rfl ?_
  refine zW_iconst dX12_codeBit_13 ?_
  refine zW_isub dX12_codeBit_14 ?_
  refine zC_Sri (As := [vi v0, vi (a1 - 2)]) (fun x hx => kX12_bitAt hw (v0 := v0) (v1 := a1 - 2)  hx) ms_RX12_78 rfl rfl rfl rfl dX12_codeBit_15 hf (fun r3 hf => ?_)
  refine zW_istore (lv' := [(4, vi r3), (3, vi r2), (2, vi a1), (0, vi v0), (1, vi v1)]) dX12_codeBit_18 rfl rfl ?_
  refine zW_iload_n 4 dX12_codeBit_20 rfl ?_
  refine zW_bipush dX12_codeBit_21 rfl ?_
  refine zF_icmp_ge 30 dX12_codeBit_23 rfl rfl (w32_lit _ rfl) hf (fun c hf => ?_) (fun c hf => ?_)
  · refine zW_iload_n 4 dX12_codeBit_30 rfl ?_
    refine zW_bipush dX12_codeBit_31 rfl ?_
    refine zF_icmp_ge 51 dX12_codeBit_33 rfl rfl (w32_lit _ rfl) hf (fun c hf => ?_) (fun c hf => ?_)
    · refine zW_iload_n 1 dX12_codeBit_51 rfl ?_
      refine zW_iload 0 dX12_codeBit_52 rfl ?_
      refine zW_ixor dX12_codeBit_54 ?_
      exact zS_i hw rfl dX12_codeBit_55 hf
    · refine zW_iload_n 1 dX12_codeBit_36 rfl ?_
      refine zW_iload_n 3 dX12_codeBit_37 rfl ?_
      refine zW_iload_n 2 dX12_codeBit_38 rfl ?_
      refine zW_iconst dX12_codeBit_39 ?_
      refine zW_isub dX12_codeBit_40 ?_
      refine zC_Sri (As := [vi v0, vi (a1 - 1)]) (fun x hx => kX12_bitAt hw (v0 := v0) (v1 := a1 - 1)  hx) ms_RX12_78 rfl rfl rfl rfl dX12_codeBit_41 hf (fun r4 hf => ?_)
      refine zW_ixor dX12_codeBit_44 ?_
      refine zW_iload 0 dX12_codeBit_45 rfl ?_
      refine zW_ixor dX12_codeBit_47 ?_
      refine zW_goto 55 dX12_codeBit_48 rfl ?_
      exact zS_i hw rfl dX12_codeBit_55 hf
  · refine zW_iload_n 1 dX12_codeBit_26 rfl ?_
    refine zW_goto 55 dX12_codeBit_27 rfl ?_
    exact zS_i hw rfl dX12_codeBit_55 hf
theorem kX12_codeBit {X : zX} {e : Nat → Prop} (hw : zWf X e) {v0 : Int} {v1 : Int}  {I : zMem} {u : Int} (hf : fX12_codeBit v0 v1 = some u) : zCn X mX12_codeBit yX12_codeBit [vi v0, vi v1] I (some (vi u), I) := zCn_of (by decide +kernel) rfl rfl ⟨rfl, rfl⟩ (tX12_codeBit_0 hw.N  hf)
set_option maxRecDepth 100000 in
theorem tX12_codeOf_l4_y {X : zX} {e : Nat → Prop} (hw : zWf X e) {T : zT} {I : zMem} {v0 : Int}  (s : (Int × Int)) {u : ((Int × Int) ⊕ (Int × Int))} (hf : fX12_codeOf_l4 v0 s = some u) (hk : ∀ s', u = .inl s' → zW X T mX12_codeOf 4 [(0, vi v0), (1, vl s'.1), (3, vi s'.2)] [] I) (hx : ∀ x, u = .inr x → zW X T mX12_codeOf 27 [(1, vl x.1)] [] I) : zW X T mX12_codeOf 4 [(0, vi v0), (1, vl s.1), (3, vi s.2)] [] I := by
  unfold fX12_codeOf_l4 at hf
  refine zW_iload_n 2 dX12_codeOf_4 rfl ?_
  refine zW_bipush dX12_codeOf_5 rfl ?_
  refine zF_icmp_ge 27 dX12_codeOf_7 rfl rfl (w32_lit _ rfl) hf (fun c hf => ?_) (fun c hf => ?_)
  · refine zW_sub [1] rfl ?_
    exact hx _ (Option.some.inj hf).symm
  · refine zW_lload_n 1 dX12_codeOf_10 rfl ?_
    refine zW_iload_n 0 dX12_codeOf_11 rfl ?_
    refine zW_iload_n 2 dX12_codeOf_12 rfl ?_
    refine zC_Sri (As := [vi v0, vi s.2]) (fun x hx => kX12_codeBit hw (v0 := v0) (v1 := s.2)  hx) ms_RX12_82 rfl rfl rfl rfl dX12_codeOf_13 hf (fun r1 hf => ?_)
    refine zW_i2l dX12_codeOf_16 ?_
    refine zW_iload_n 2 dX12_codeOf_17 rfl ?_
    refine zW_lshl dX12_codeOf_18 ?_
    refine zW_lor dX12_codeOf_19 ?_
    refine zF_lstore_n (lv' := fun a2 => [(1, vl a2), (0, vi v0), (3, vi s.2)]) dX12_codeOf_20 hf (fun _ => rfl) rfl (fun a2 hf => ?_)
    refine zW_iinc 2 (lv' := [(3, vi (s.2 + 1)), (1, vl a2), (0, vi v0)]) dX12_codeOf_21 rfl rfl rfl ?_
    refine zW_goto 4 dX12_codeOf_24 rfl ?_
    refine zW_sub [2, 1, 0] rfl ?_
    exact hk _ (Option.some.inj hf).symm
theorem tX12_codeOf_l4 {X : zX} {e : Nat → Prop} (hw : zWf X e) {T : zT} {I : zMem} {v0 : Int}  {s0 : (Int × Int)} {α : Type} {F : (Int × Int) → Option α} {u : α} (hf : zb (zlp (fX12_codeOf_l4 v0) 5000 s0) F = some u) (kx : ∀ x, F x = some u → zW X T mX12_codeOf 27 [(1, vl x.1)] [] I) : zW X T mX12_codeOf 4 [(0, vi v0), (1, vl s0.1), (3, vi s0.2)] [] I := by
  obtain ⟨x, h, hf⟩ := zb_inv hf
  exact zlp_W (P := fun s => zW X T mX12_codeOf 4 [(0, vi v0), (1, vl s.1), (3, vi s.2)] [] I) (E := fun x => zW X T mX12_codeOf 27 [(1, vl x.1)] [] I) (fun s u h hk hx => tX12_codeOf_l4_y hw  s h hk hx) _ s0 x h (kx x hf)
set_option maxRecDepth 100000 in
theorem tX12_codeOf_0 {X : zX} {e : Nat → Prop} (hw : zWf X e) {v0 : Int}  {I : zMem} {u : Int} (hf : fX12_codeOf v0 = some u) : zW X (some (vl u), I) mX12_codeOf 0 [(0, vi v0)] [] I := by
  unfold fX12_codeOf at hf
  refine zW_lconst0 dX12_codeOf_0 ?_
  refine zW_lstore_n (lv' := [(1, vl 0), (0, vi v0)]) dX12_codeOf_1 rfl rfl ?_
  refine zW_iconst dX12_codeOf_2 ?_
  refine zW_istore_n (lv' := [(3, vi 0), (1, vl 0), (0, vi v0)]) dX12_codeOf_3 rfl rfl ?_
  refine zW_sub [2, 1, 0] rfl ?_
  refine tX12_codeOf_l4 hw  (s0 := (0, 0)) hf (fun x3 hf => ?_)
  refine zW_lload_n 0 dX12_codeOf_27 rfl ?_
  exact zS_l hw rfl dX12_codeOf_28 hf
theorem kX12_codeOf {X : zX} {e : Nat → Prop} (hw : zWf X e) {v0 : Int}  {I : zMem} {u : Int} (hf : fX12_codeOf v0 = some u) : zCn X mX12_codeOf yX12_codeOf [vi v0] I (some (vl u), I) := zCn_of (by decide +kernel) rfl rfl ⟨rfl, rfl⟩ (tX12_codeOf_0 hw.N  hf)
set_option maxRecDepth 100000 in
theorem tX12_restOf_b5_28 {X : zX} {e : Nat → Prop} (hw : zWf X e) {T : zT} {I : zMem} {v0 : Int} {w1 : Int} {w2 : Int}  {u : ((Int × Int) ⊕ (Int × Int))} (hf : fX12_restOf_b5_28 v0 w1 w2 = some u) (hk : ∀ s', u = .inl s' → zW X T mX12_restOf 5 [(1, vi s'.1), (2, vi s'.2)] [] I) (hx : ∀ x, u = .inr x → zW X T mX12_restOf 34 [(1, vi x.1)] [] I) : zW X T mX12_restOf 28 [(1, vi w1), (2, vi w2)] [] I := by
  unfold fX12_restOf_b5_28 at hf
  refine zW_iinc 1 (lv' := [(2, vi (w2 + (-1))), (1, vi w1)]) dX12_restOf_28 rfl rfl rfl ?_
  refine zW_goto 5 dX12_restOf_31 rfl ?_
  refine zW_sub [1, 0] rfl ?_
  exact hk _ (Option.some.inj hf).symm
set_option maxRecDepth 100000 in
theorem tX12_restOf_l5_y {X : zX} {e : Nat → Prop} (hw : zWf X e) {T : zT} {I : zMem} {v0 : Int}  (s : (Int × Int)) {u : ((Int × Int) ⊕ (Int × Int))} (hf : fX12_restOf_l5 v0 s = some u) (hk : ∀ s', u = .inl s' → zW X T mX12_restOf 5 [(1, vi s'.1), (2, vi s'.2)] [] I) (hx : ∀ x, u = .inr x → zW X T mX12_restOf 34 [(1, vi x.1)] [] I) : zW X T mX12_restOf 5 [(1, vi s.1), (2, vi s.2)] [] I := by
  unfold fX12_restOf_l5 at hf
  refine zW_iload_n 1 dX12_restOf_5 rfl ?_
  refine zW_iconst dX12_restOf_6 ?_
  refine zF_icmp_lt 34 dX12_restOf_7 rfl rfl (w32_lit _ rfl) hf (fun c hf => ?_) (fun c hf => ?_)
  · refine zW_sub [0] rfl ?_
    exact hx _ (Option.some.inj hf).symm
  · refine zW_iload_n 0 dX12_restOf_10 rfl ?_
    refine zW_iload_n 1 dX12_restOf_11 rfl ?_
    refine zW_ishr dX12_restOf_12 ?_
    refine zW_iconst dX12_restOf_13 ?_
    refine zW_iand_1 dX12_restOf_14 ?_
    refine zW_iconst dX12_restOf_15 ?_
    refine zF_icmp_ne 28 dX12_restOf_16 rfl (w32_emod _ _ rfl) (w32_lit _ rfl) hf (fun c hf => ?_) (fun c hf => ?_)
    · refine zW_iload_n 0 dX12_restOf_19 rfl ?_
      refine zW_bipush dX12_restOf_20 rfl ?_
      refine zW_iload_n 1 dX12_restOf_22 rfl ?_
      refine zW_iconst dX12_restOf_23 ?_
      refine zW_isub dX12_restOf_24 ?_
      refine zW_ishl dX12_restOf_25 ?_
      refine zW_ixor dX12_restOf_26 ?_
      refine zF_istore_n (lv' := fun a1 => [(1, vi a1), (2, vi s.2)]) dX12_restOf_27 hf (fun _ => rfl) rfl (fun a1 hf => ?_)
      refine zW_sub [0, 1] rfl ?_
      exact tX12_restOf_b5_28 hw  hf hk hx
    · refine zW_sub [0, 1] rfl ?_
      exact tX12_restOf_b5_28 hw  hf hk hx
theorem tX12_restOf_l5 {X : zX} {e : Nat → Prop} (hw : zWf X e) {T : zT} {I : zMem} {v0 : Int}  {s0 : (Int × Int)} {α : Type} {F : (Int × Int) → Option α} {u : α} (hf : zb (zlp (fX12_restOf_l5 v0) 5000 s0) F = some u) (kx : ∀ x, F x = some u → zW X T mX12_restOf 34 [(1, vi x.1)] [] I) : zW X T mX12_restOf 5 [(1, vi s0.1), (2, vi s0.2)] [] I := by
  obtain ⟨x, h, hf⟩ := zb_inv hf
  exact zlp_W (P := fun s => zW X T mX12_restOf 5 [(1, vi s.1), (2, vi s.2)] [] I) (E := fun x => zW X T mX12_restOf 34 [(1, vi x.1)] [] I) (fun s u h hk hx => tX12_restOf_l5_y hw  s h hk hx) _ s0 x h (kx x hf)
set_option maxRecDepth 100000 in
theorem tX12_restOf_0 {X : zX} {e : Nat → Prop} (hw : zWf X e) {v0 : Int}  {I : zMem} {u : Int} (hf : fX12_restOf v0 = some u) : zW X (some (vi u), I) mX12_restOf 0 [(0, vi v0)] [] I := by
  unfold fX12_restOf at hf
  refine zW_iload_n 0 dX12_restOf_0 rfl ?_
  refine zW_istore_n (lv' := [(1, vi v0), (0, vi v0)]) dX12_restOf_1 rfl rfl ?_
  refine zW_bipush dX12_restOf_2 rfl ?_
  refine zW_istore_n (lv' := [(2, vi 10), (1, vi v0), (0, vi v0)]) dX12_restOf_4 rfl rfl ?_
  refine zW_sub [1, 0] rfl ?_
  refine tX12_restOf_l5 hw  (s0 := (v0, 10)) hf (fun x2 hf => ?_)
  refine zW_iload_n 0 dX12_restOf_34 rfl ?_
  exact zS_i hw rfl dX12_restOf_35 hf
theorem kX12_restOf {X : zX} {e : Nat → Prop} (hw : zWf X e) {v0 : Int}  {I : zMem} {u : Int} (hf : fX12_restOf v0 = some u) : zCn X mX12_restOf yX12_restOf [vi v0] I (some (vi u), I) := zCn_of (by decide +kernel) rfl rfl ⟨rfl, rfl⟩ (tX12_restOf_0 hw.N  hf)
set_option maxRecDepth 100000 in
theorem tX12_isWhole_0 {X : zX} {e : Nat → Prop} (hw : zWf X e) {v0 : Int}  {I : zMem} {u : Int} (hf : fX12_isWhole v0 = some u) : zW X (some (vi u), I) mX12_isWhole 0 [(0, vi v0)] [] I := by
  unfold fX12_isWhole at hf
  refine zW_iload_n 0 dX12_isWhole_0 rfl ?_
  refine zC_Sri (As := [vi v0]) (fun x hx => kX12_restOf hw (v0 := v0)  hx) ms_RX12_85 rfl rfl rfl rfl dX12_isWhole_1 hf (fun r1 hf => ?_)
  refine zW_iconst dX12_isWhole_4 ?_
  refine zF_icmp_ne 12 dX12_isWhole_5 rfl rfl (w32_lit _ rfl) hf (fun c hf => ?_) (fun c hf => ?_)
  · refine zW_iconst dX12_isWhole_8 ?_
    refine zW_goto 13 dX12_isWhole_9 rfl ?_
    exact zS_z hw rfl (Or.inr rfl) dX12_isWhole_13 hf
  · refine zW_iconst dX12_isWhole_12 ?_
    exact zS_z hw rfl (Or.inl rfl) dX12_isWhole_13 hf
theorem kX12_isWhole {X : zX} {e : Nat → Prop} (hw : zWf X e) {v0 : Int}  {I : zMem} {u : Int} (hf : fX12_isWhole v0 = some u) : zCn X mX12_isWhole yX12_isWhole [vi v0] I (some (vi u), I) := zCn_of (by decide +kernel) rfl rfl ⟨rfl, rfl⟩ (tX12_isWhole_0 hw.N  hf)
set_option maxRecDepth 100000 in
theorem tX12_wordOf_0 {X : zX} {e : Nat → Prop} (hw : zWf X e) {v0 : Int} {v1 : Int}  {I : zMem} {u : Int} (hf : fX12_wordOf v0 v1 = some u) : zW X (some (vi u), I) mX12_wordOf 0 [(0, vi v0), (1, vi v1)] [] I := by
  unfold fX12_wordOf at hf
  refine zW_iload_n 0 dX12_wordOf_0 rfl ?_
  refine zW_bipush dX12_wordOf_1 rfl ?_
  refine zW_ishl dX12_wordOf_3 ?_
  refine zW_iload_n 1 dX12_wordOf_4 rfl ?_
  refine zW_iconst dX12_wordOf_5 ?_
  refine zW_ishl dX12_wordOf_6 ?_
  refine zW_ior dX12_wordOf_7 ?_
  refine zF_istore_n (lv' := fun a1 => [(2, vi a1), (0, vi v0), (1, vi v1)]) dX12_wordOf_8 hf (fun _ => rfl) rfl (fun a1 hf => ?_)
  refine zW_iload_n 0 dX12_wordOf_9 rfl ?_
  refine zW_iload_n 0 dX12_wordOf_10 rfl ?_
  refine zC_Sri (As := [vi a1]) (fun x hx => kX12_restOf hw (v0 := a1)  hx) ms_RX12_85 rfl rfl rfl rfl dX12_wordOf_11 hf (fun r2 hf => ?_)
  refine zW_iconst dX12_wordOf_14 ?_
  refine zW_ixor dX12_wordOf_15 ?_
  refine zW_ior dX12_wordOf_16 ?_
  exact zS_i hw rfl dX12_wordOf_17 hf
theorem kX12_wordOf {X : zX} {e : Nat → Prop} (hw : zWf X e) {v0 : Int} {v1 : Int}  {I : zMem} {u : Int} (hf : fX12_wordOf v0 v1 = some u) : zCn X mX12_wordOf yX12_wordOf [vi v0, vi v1] I (some (vi u), I) := zCn_of (by decide +kernel) rfl rfl ⟨rfl, rfl⟩ (tX12_wordOf_0 hw.N  hf)
set_option maxRecDepth 100000 in
theorem tX12_readAt_b25 {X : zX} {e : Nat → Prop} (hw : zWf X e) {I : zMem} {v0 : Int} {k0 : Int}  {u : Int} (hf : fX12_readAt_b25 v0 k0 = some u) : zW X (some (vi u), I) mX12_readAt 25 [(0, vi v0)] [vi k0] I := by
  unfold fX12_readAt_b25 at hf
  refine zW_istore_n (lv' := [(1, vi k0), (0, vi v0)]) dX12_readAt_25 rfl rfl ?_
  refine zW_iconst dX12_readAt_26 ?_
  refine zW_iload_n 1 dX12_readAt_27 rfl ?_
  refine zW_iconst dX12_readAt_28 ?_
  refine zW_irem dX12_readAt_29 (w32_ne0 _ rfl) ?_
  refine zW_imul dX12_readAt_30 ?_
  refine zW_iload_n 0 dX12_readAt_31 rfl ?_
  refine zW_iadd dX12_readAt_32 ?_
  exact zS_i hw rfl dX12_readAt_33 hf
set_option maxRecDepth 100000 in
theorem tX12_readAt_0 {X : zX} {e : Nat → Prop} (hw : zWf X e) {v0 : Int}  {I : zMem} {u : Int} (hf : fX12_readAt v0 = some u) : zW X (some (vi u), I) mX12_readAt 0 [(0, vi v0)] [] I := by
  unfold fX12_readAt at hf
  refine zW_iload_n 0 dX12_readAt_0 rfl ?_
  refine zW_iconst dX12_readAt_1 ?_
  refine zW_idiv dX12_readAt_2 (w32_ne0 _ rfl) ?_
  refine zW_iconst dX12_readAt_3 ?_
  refine zF_icmp_ne 11 dX12_readAt_4 rfl rfl (w32_lit _ rfl) hf (fun c hf => ?_) (fun c hf => ?_)
  · refine zW_iconst dX12_readAt_7 ?_
    refine zW_goto 25 dX12_readAt_8 rfl ?_
    refine zW_sub [0] rfl ?_
    exact tX12_readAt_b25 hw  hf
  · refine zW_iload_n 0 dX12_readAt_11 rfl ?_
    refine zW_iconst dX12_readAt_12 ?_
    refine zW_idiv dX12_readAt_13 (w32_ne0 _ rfl) ?_
    refine zW_iconst dX12_readAt_14 ?_
    refine zF_icmp_ne 22 dX12_readAt_15 rfl rfl (w32_lit _ rfl) hf (fun c hf => ?_) (fun c hf => ?_)
    · refine zW_iconst dX12_readAt_18 ?_
      refine zW_goto 25 dX12_readAt_19 rfl ?_
      refine zW_sub [0] rfl ?_
      exact tX12_readAt_b25 hw  hf
    · refine zW_iload_n 0 dX12_readAt_22 rfl ?_
      refine zW_iconst dX12_readAt_23 ?_
      refine zW_idiv dX12_readAt_24 (w32_ne0 _ rfl) ?_
      refine zW_sub [0] rfl ?_
      exact tX12_readAt_b25 hw  hf
theorem kX12_readAt {X : zX} {e : Nat → Prop} (hw : zWf X e) {v0 : Int}  {I : zMem} {u : Int} (hf : fX12_readAt v0 = some u) : zCn X mX12_readAt yX12_readAt [vi v0] I (some (vi u), I) := zCn_of (by decide +kernel) rfl rfl ⟨rfl, rfl⟩ (tX12_readAt_0 hw.N  hf)
set_option maxRecDepth 100000 in
theorem tX12_laysRing_b2_75 {X : zX} {e : Nat → Prop} (hw : zWf X e) {T : zT} {w1 : Int} {k0 : Int} {k1 : Int} {I : zMem} (o : zOk e (50, 0, 0)) (ko2 : zOk e (55, 0, 0)) {u : ((Int × zMem) ⊕ (Int × zMem))} (hf : fX12_laysRing_b2_75 w1 k0 k1 I = some u) (hk : ∀ s', u = .inl s' → zW X T mX12_laysRing 2 [(0, .ref (zad X (50, 0, 0))), (1, vi s'.1)] [] s'.2) (hx : ∀ x, u = .inr x → zW X T mX12_laysRing 82 [] [] x.2) : zW X T mX12_laysRing 75 [(0, .ref (zad X (50, 0, 0))), (1, vi w1)] [vi k0, vi k1, .ref (zad X (55, 0, 0))] I := by
  unfold fX12_laysRing_b2_75 at hf
  obtain ⟨c7, hf⟩ := zgd hf
  refine zF_iast (hw.1 _ ko2) rfl c7 rfl dX12_laysRing_75 hf (fun I8 hf => ?_)
  refine zW_iinc 1 (lv' := [(1, vi (w1 + 1)), (0, .ref (zad X (50, 0, 0)))]) dX12_laysRing_76 rfl rfl rfl ?_
  refine zW_goto 2 dX12_laysRing_79 rfl ?_
  refine zW_sub [1, 0] rfl ?_
  exact hk _ (Option.some.inj hf).symm
set_option maxRecDepth 100000 in
theorem tX12_laysRing_b2_52 {X : zX} {e : Nat → Prop} (hw : zWf X e) {T : zT} {w1 : Int} {w2 : Int} {k0 : Int} {k1 : Int} {I : zMem} (o : zOk e (50, 0, 0)) (ko2 : zOk e (55, 0, 0)) {u : ((Int × zMem) ⊕ (Int × zMem))} (hf : fX12_laysRing_b2_52 w1 w2 k0 k1 I = some u) (hk : ∀ s', u = .inl s' → zW X T mX12_laysRing 2 [(0, .ref (zad X (50, 0, 0))), (1, vi s'.1)] [] s'.2) (hx : ∀ x, u = .inr x → zW X T mX12_laysRing 82 [] [] x.2) : zW X T mX12_laysRing 52 [(0, .ref (zad X (50, 0, 0))), (1, vi w1), (2, vi w2)] [vi k0, vi k1, .ref (zad X (55, 0, 0))] I := by
  unfold fX12_laysRing_b2_52 at hf
  obtain ⟨c5, hf⟩ := zgd hf
  refine zF_iast (hw.1 _ ko2) rfl c5 rfl dX12_laysRing_52 hf (fun I6 hf => ?_)
  refine zW_aload_n 0 dX12_laysRing_53 rfl ?_
  refine zW_getR (q' := (55, 0, 0)) lk_RX12_28 (hw.1 _ o) rfl rfl (hw.2.1 _ _ _ o rfl) dX12_laysRing_54 ?_
  refine zW_bipush dX12_laysRing_57 rfl ?_
  refine zW_iconst dX12_laysRing_59 ?_
  refine zW_iload_n 1 dX12_laysRing_60 rfl ?_
  refine zW_imul dX12_laysRing_61 ?_
  refine zW_iadd dX12_laysRing_62 ?_
  refine zW_iload_n 2 dX12_laysRing_63 rfl ?_
  refine zF_if_ge 71 dX12_laysRing_64 rfl rfl hf (fun c hf => ?_) (fun c hf => ?_)
  · refine zW_bipush dX12_laysRing_71 rfl ?_
    refine zW_iload_n 2 dX12_laysRing_73 rfl ?_
    refine zW_iadd dX12_laysRing_74 ?_
    refine zW_sub [0, 1] rfl ?_
    exact tX12_laysRing_b2_75 hw o (zokM (r' := 55) o rfl rfl) hf hk hx
  · refine zW_iconst dX12_laysRing_67 ?_
    refine zW_goto 75 dX12_laysRing_68 rfl ?_
    refine zW_sub [0, 1] rfl ?_
    exact tX12_laysRing_b2_75 hw o (zokM (r' := 55) o rfl rfl) hf hk hx
set_option maxRecDepth 100000 in
theorem tX12_laysRing_b2_29 {X : zX} {e : Nat → Prop} (hw : zWf X e) {T : zT} {w1 : Int} {w2 : Int} {k0 : Int} {k1 : Int} {I : zMem} (o : zOk e (50, 0, 0)) (ko2 : zOk e (55, 0, 0)) {u : ((Int × zMem) ⊕ (Int × zMem))} (hf : fX12_laysRing_b2_29 w1 w2 k0 k1 I = some u) (hk : ∀ s', u = .inl s' → zW X T mX12_laysRing 2 [(0, .ref (zad X (50, 0, 0))), (1, vi s'.1)] [] s'.2) (hx : ∀ x, u = .inr x → zW X T mX12_laysRing 82 [] [] x.2) : zW X T mX12_laysRing 29 [(0, .ref (zad X (50, 0, 0))), (1, vi w1), (2, vi w2)] [vi k0, vi k1, .ref (zad X (55, 0, 0))] I := by
  unfold fX12_laysRing_b2_29 at hf
  obtain ⟨c3, hf⟩ := zgd hf
  refine zF_iast (hw.1 _ ko2) rfl c3 rfl dX12_laysRing_29 hf (fun I4 hf => ?_)
  refine zW_aload_n 0 dX12_laysRing_30 rfl ?_
  refine zW_getR (q' := (55, 0, 0)) lk_RX12_28 (hw.1 _ o) rfl rfl (hw.2.1 _ _ _ o rfl) dX12_laysRing_31 ?_
  refine zW_bipush dX12_laysRing_34 rfl ?_
  refine zW_iconst dX12_laysRing_36 ?_
  refine zW_iload_n 1 dX12_laysRing_37 rfl ?_
  refine zW_imul dX12_laysRing_38 ?_
  refine zW_iadd dX12_laysRing_39 ?_
  refine zW_iload_n 2 dX12_laysRing_40 rfl ?_
  refine zF_if_ge 48 dX12_laysRing_41 rfl rfl hf (fun c hf => ?_) (fun c hf => ?_)
  · refine zW_bipush dX12_laysRing_48 rfl ?_
    refine zW_iload_n 2 dX12_laysRing_50 rfl ?_
    refine zW_iadd dX12_laysRing_51 ?_
    refine zW_sub [0, 1, 2] rfl ?_
    exact tX12_laysRing_b2_52 hw o (zokM (r' := 55) o rfl rfl) hf hk hx
  · refine zW_iconst dX12_laysRing_44 ?_
    refine zW_goto 52 dX12_laysRing_45 rfl ?_
    refine zW_sub [0, 1, 2] rfl ?_
    exact tX12_laysRing_b2_52 hw o (zokM (r' := 55) o rfl rfl) hf hk hx
set_option maxRecDepth 100000 in
theorem tX12_laysRing_l2_y {X : zX} {e : Nat → Prop} (hw : zWf X e) {T : zT}  (o : zOk e (50, 0, 0)) (s : (Int × zMem)) {u : ((Int × zMem) ⊕ (Int × zMem))} (hf : fX12_laysRing_l2  s = some u) (hk : ∀ s', u = .inl s' → zW X T mX12_laysRing 2 [(0, .ref (zad X (50, 0, 0))), (1, vi s'.1)] [] s'.2) (hx : ∀ x, u = .inr x → zW X T mX12_laysRing 82 [] [] x.2) : zW X T mX12_laysRing 2 [(0, .ref (zad X (50, 0, 0))), (1, vi s.1)] [] s.2 := by
  unfold fX12_laysRing_l2 at hf
  refine zW_iload_n 1 dX12_laysRing_2 rfl ?_
  refine zW_bipush dX12_laysRing_3 rfl ?_
  refine zF_icmp_ge 82 dX12_laysRing_5 rfl rfl (w32_lit _ rfl) hf (fun c hf => ?_) (fun c hf => ?_)
  · refine zW_sub [] rfl ?_
    exact hx _ (Option.some.inj hf).symm
  · refine zW_iload_n 1 dX12_laysRing_8 rfl ?_
    refine zC_Sri (As := [vi s.1]) (fun x hx => kX12_readAt hw (v0 := s.1)  hx) ms_RX12_89 rfl rfl rfl rfl dX12_laysRing_9 hf (fun r1 hf => ?_)
    refine zW_iconst dX12_laysRing_12 ?_
    refine zW_isub dX12_laysRing_13 ?_
    refine zF_istore_n (lv' := fun a2 => [(2, vi a2), (0, .ref (zad X (50, 0, 0))), (1, vi s.1)]) dX12_laysRing_14 hf (fun _ => rfl) rfl (fun a2 hf => ?_)
    refine zW_aload_n 1 dX12_laysRing_15 rfl ?_
    refine zW_getR (q' := (55, 0, 0)) lk_RX12_28 (hw.1 _ o) rfl rfl (hw.2.1 _ _ _ o rfl) dX12_laysRing_16 ?_
    refine zW_iload_n 2 dX12_laysRing_19 rfl ?_
    refine zW_iload_n 0 dX12_laysRing_20 rfl ?_
    refine zF_if_ge 28 dX12_laysRing_21 rfl rfl hf (fun c hf => ?_) (fun c hf => ?_)
    · refine zW_iload_n 0 dX12_laysRing_28 rfl ?_
      refine zW_sub [1, 2, 0] rfl ?_
      exact tX12_laysRing_b2_29 hw o (zokM (r' := 55) o rfl rfl) hf hk hx
    · refine zW_iconst dX12_laysRing_24 ?_
      refine zW_goto 29 dX12_laysRing_25 rfl ?_
      refine zW_sub [1, 2, 0] rfl ?_
      exact tX12_laysRing_b2_29 hw o (zokM (r' := 55) o rfl rfl) hf hk hx
theorem tX12_laysRing_l2 {X : zX} {e : Nat → Prop} (hw : zWf X e) {T : zT}  (o : zOk e (50, 0, 0)) {s0 : (Int × zMem)} {α : Type} {F : (Int × zMem) → Option α} {u : α} (hf : zb (zlp (fX12_laysRing_l2 ) 5000 s0) F = some u) (kx : ∀ x, F x = some u → zW X T mX12_laysRing 82 [] [] x.2) : zW X T mX12_laysRing 2 [(0, .ref (zad X (50, 0, 0))), (1, vi s0.1)] [] s0.2 := by
  obtain ⟨x, h, hf⟩ := zb_inv hf
  exact zlp_W (P := fun s => zW X T mX12_laysRing 2 [(0, .ref (zad X (50, 0, 0))), (1, vi s.1)] [] s.2) (E := fun x => zW X T mX12_laysRing 82 [] [] x.2) (fun s u h hk hx => tX12_laysRing_l2_y hw o s h hk hx) _ s0 x h (kx x hf)
set_option maxRecDepth 100000 in
theorem tX12_laysRing_0 {X : zX} {e : Nat → Prop} (hw : zWf X e)  (o : zOk e (50, 0, 0)) {I : zMem} {u : zMem} (hf : fX12_laysRing  I = some u) : zW X (none, u) mX12_laysRing 0 [(0, .ref (zad X (50, 0, 0)))] [] I := by
  unfold fX12_laysRing at hf
  refine zW_iconst dX12_laysRing_0 ?_
  refine zW_istore_n (lv' := [(1, vi 0), (0, .ref (zad X (50, 0, 0)))]) dX12_laysRing_1 rfl rfl ?_
  refine zW_sub [1, 0] rfl ?_
  refine tX12_laysRing_l2 hw o (s0 := (0, I)) hf (fun x9 hf => ?_)
  exact zR_v hw rfl dX12_laysRing_82 hf
theorem kX12_laysRing {X : zX} {e : Nat → Prop} (hw : zWf X e)  (o : zOk e (50, 0, 0)) {I : zMem} {u : zMem} (hf : fX12_laysRing  I = some u) : zCn X mX12_laysRing yX12_laysRing [.ref (zad X (50, 0, 0))] I (none, u) := zCn_of (by decide +kernel) rfl rfl ⟨rfl, rfl⟩ (tX12_laysRing_0 hw.N o hf)
set_option maxRecDepth 100000 in
theorem tX12_laysSending_b14_65 {X : zX} {e : Nat → Prop} (hw : zWf X e) {T : zT} {v1 : Int} {v2 : Int} {w4 : Int} {k0 : Int} {I : zMem} (o : zOk e (50, 0, 0)) {u : ((Int × Int × zMem) ⊕ (Int × Int × zMem))} (hf : fX12_laysSending_b14_65 v1 v2 w4 k0 I = some u) (hk : ∀ s', u = .inl s' → zW X T mX12_laysSending 14 [(0, .ref (zad X (50, 0, 0))), (2, vi v2), (3, vi s'.1), (4, vi s'.2.1)] [] s'.2.2) (hx : ∀ x, u = .inr x → zW X T mX12_laysSending 69 [] [] x.2.2) : zW X T mX12_laysSending 65 [(0, .ref (zad X (50, 0, 0))), (2, vi v2), (4, vi w4)] [vi k0] I := by
  unfold fX12_laysSending_b14_65 at hf
  refine zW_istore_n (lv' := [(3, vi k0), (0, .ref (zad X (50, 0, 0))), (2, vi v2), (4, vi w4)]) dX12_laysSending_65 rfl rfl ?_
  refine zW_goto 14 dX12_laysSending_66 rfl ?_
  refine zW_sub [1, 2, 0, 3] rfl ?_
  exact hk _ (Option.some.inj hf).symm
set_option maxRecDepth 100000 in
theorem tX12_laysSending_b14_46 {X : zX} {e : Nat → Prop} (hw : zWf X e) {T : zT} {v1 : Int} {v2 : Int} {w3 : Int} {w4 : Int} {I : zMem} (o : zOk e (50, 0, 0)) {u : ((Int × Int × zMem) ⊕ (Int × Int × zMem))} (hf : fX12_laysSending_b14_46 v1 v2 w3 w4 I = some u) (hk : ∀ s', u = .inl s' → zW X T mX12_laysSending 14 [(0, .ref (zad X (50, 0, 0))), (2, vi v2), (3, vi s'.1), (4, vi s'.2.1)] [] s'.2.2) (hx : ∀ x, u = .inr x → zW X T mX12_laysSending 69 [] [] x.2.2) : zW X T mX12_laysSending 46 [(0, .ref (zad X (50, 0, 0))), (2, vi v2), (3, vi w3), (4, vi w4)] [] I := by
  unfold fX12_laysSending_b14_46 at hf
  refine zW_iload_n 2 dX12_laysSending_46 rfl ?_
  refine zW_iconst dX12_laysSending_47 ?_
  refine zW_iadd dX12_laysSending_48 ?_
  refine zW_aload_n 0 dX12_laysSending_49 rfl ?_
  refine zW_getR (q' := (51, 0, 0)) lk_RX12_13 (hw.1 _ o) rfl rfl (hw.2.1 _ _ _ o rfl) dX12_laysSending_50 ?_
  refine zW_iconst dX12_laysSending_53 ?_
  refine zF_iald (hw.1 _ (zokM (r' := 51) o rfl rfl)) rfl (zin_lit _ _ rfl) (ix_lit _ rfl) dX12_laysSending_54 ?_
  refine zF_icmp_ne 62 dX12_laysSending_55 rfl rfl rfl hf (fun c hf => ?_) (fun c hf => ?_)
  · refine zW_iconst dX12_laysSending_58 ?_
    refine zW_goto 65 dX12_laysSending_59 rfl ?_
    refine zW_sub [0, 1, 3] rfl ?_
    exact tX12_laysSending_b14_65 hw o hf hk hx
  · refine zW_iload_n 2 dX12_laysSending_62 rfl ?_
    refine zW_iconst dX12_laysSending_63 ?_
    refine zW_iadd dX12_laysSending_64 ?_
    refine zW_sub [0, 1, 3] rfl ?_
    exact tX12_laysSending_b14_65 hw o hf hk hx
set_option maxRecDepth 100000 in
theorem tX12_laysSending_l14_y {X : zX} {e : Nat → Prop} (hw : zWf X e) {T : zT} {v1 : Int} {v2 : Int} (o : zOk e (50, 0, 0)) (s : (Int × Int × zMem)) {u : ((Int × Int × zMem) ⊕ (Int × Int × zMem))} (hf : fX12_laysSending_l14 v1 v2 s = some u) (hk : ∀ s', u = .inl s' → zW X T mX12_laysSending 14 [(0, .ref (zad X (50, 0, 0))), (2, vi v2), (3, vi s'.1), (4, vi s'.2.1)] [] s'.2.2) (hx : ∀ x, u = .inr x → zW X T mX12_laysSending 69 [] [] x.2.2) : zW X T mX12_laysSending 14 [(0, .ref (zad X (50, 0, 0))), (2, vi v2), (3, vi s.1), (4, vi s.2.1)] [] s.2.2 := by
  unfold fX12_laysSending_l14 at hf
  refine zW_iload 3 dX12_laysSending_14 rfl ?_
  refine zW_iload_n 1 dX12_laysSending_16 rfl ?_
  refine zF_icmp_ge 69 dX12_laysSending_17 rfl rfl rfl hf (fun c hf => ?_) (fun c hf => ?_)
  · refine zW_sub [] rfl ?_
    exact hx _ (Option.some.inj hf).symm
  · refine zW_aload_n 0 dX12_laysSending_20 rfl ?_
    refine zW_getR (q' := (55, 0, 0)) lk_RX12_28 (hw.1 _ o) rfl rfl (hw.2.1 _ _ _ o rfl) dX12_laysSending_21 ?_
    refine zW_iload_n 2 dX12_laysSending_24 rfl ?_
    obtain ⟨c2, hf⟩ := zgd hf
    refine zF_iald (hw.1 _ (zokM (r' := 55) o rfl rfl)) rfl c2 rfl dX12_laysSending_25 ?_
    refine zW_iconst dX12_laysSending_26 ?_
    refine zF_icmp_eq 46 dX12_laysSending_27 rfl rfl (w32_lit _ rfl) hf (fun c hf => ?_) (fun c hf => ?_)
    · refine zW_sub [0, 1, 2, 3] rfl ?_
      exact tX12_laysSending_b14_46 hw o hf hk hx
    · refine zW_aload_n 0 dX12_laysSending_30 rfl ?_
      refine zW_getR (q' := (56, 0, 0)) lk_RX12_31 (hw.1 _ o) rfl rfl (hw.2.1 _ _ _ o rfl) dX12_laysSending_31 ?_
      refine zW_iload 3 dX12_laysSending_34 rfl ?_
      refine zW_aload_n 0 dX12_laysSending_36 rfl ?_
      refine zW_getR (q' := (55, 0, 0)) lk_RX12_28 (hw.1 _ o) rfl rfl (hw.2.1 _ _ _ o rfl) dX12_laysSending_37 ?_
      refine zW_iload_n 2 dX12_laysSending_40 rfl ?_
      refine zF_iald (hw.1 _ (zokM (r' := 55) o rfl rfl)) rfl c2 rfl dX12_laysSending_41 ?_
      obtain ⟨c3, hf⟩ := zgd hf
      refine zF_iast (hw.1 _ (zokM (r' := 56) o rfl rfl)) rfl c3 rfl dX12_laysSending_42 hf (fun I4 hf => ?_)
      refine zW_iinc 3 (lv' := [(4, vi (s.2.1 + 1)), (0, .ref (zad X (50, 0, 0))), (2, vi v2), (3, vi s.1)]) dX12_laysSending_43 rfl rfl rfl ?_
      refine zW_sub [1, 2, 3, 0] rfl ?_
      exact tX12_laysSending_b14_46 hw o hf hk hx
theorem tX12_laysSending_l14 {X : zX} {e : Nat → Prop} (hw : zWf X e) {T : zT} {v1 : Int} {v2 : Int} (o : zOk e (50, 0, 0)) {s0 : (Int × Int × zMem)} {α : Type} {F : (Int × Int × zMem) → Option α} {u : α} (hf : zb (zlp (fX12_laysSending_l14 v1 v2) 5000 s0) F = some u) (kx : ∀ x, F x = some u → zW X T mX12_laysSending 69 [] [] x.2.2) : zW X T mX12_laysSending 14 [(0, .ref (zad X (50, 0, 0))), (2, vi v2), (3, vi s0.1), (4, vi s0.2.1)] [] s0.2.2 := by
  obtain ⟨x, h, hf⟩ := zb_inv hf
  exact zlp_W (P := fun s => zW X T mX12_laysSending 14 [(0, .ref (zad X (50, 0, 0))), (2, vi v2), (3, vi s.1), (4, vi s.2.1)] [] s.2.2) (E := fun x => zW X T mX12_laysSending 69 [] [] x.2.2) (fun s u h hk hx => tX12_laysSending_l14_y hw o s h hk hx) _ s0 x h (kx x hf)
set_option maxRecDepth 100000 in
theorem tX12_laysSending_0 {X : zX} {e : Nat → Prop} (hw : zWf X e) {v1 : Int} {v2 : Int} (o : zOk e (50, 0, 0)) {I : zMem} {u : zMem} (hf : fX12_laysSending v1 v2 I = some u) : zW X (none, u) mX12_laysSending 0 [(0, .ref (zad X (50, 0, 0))), (1, vi v1), (2, vi v2)] [] I := by
  unfold fX12_laysSending at hf
  refine zW_iload_n 1 dX12_laysSending_0 rfl ?_
  refine zW_aload_n 0 dX12_laysSending_1 rfl ?_
  refine zW_getR (q' := (51, 0, 0)) lk_RX12_13 (hw.1 _ o) rfl rfl (hw.2.1 _ _ _ o rfl) dX12_laysSending_2 ?_
  refine zW_iconst dX12_laysSending_5 ?_
  refine zF_iald (hw.1 _ (zokM (r' := 51) o rfl rfl)) rfl (zin_lit _ _ rfl) (ix_lit _ rfl) dX12_laysSending_6 ?_
  refine zW_imul dX12_laysSending_7 ?_
  refine zW_iconst dX12_laysSending_8 ?_
  refine zW_idiv dX12_laysSending_9 (w32_ne0 _ rfl) ?_
  refine zF_istore_n (lv' := fun a1 => [(3, vi a1), (0, .ref (zad X (50, 0, 0))), (1, vi v1), (2, vi v2)]) dX12_laysSending_10 hf (fun _ => rfl) rfl (fun a1 hf => ?_)
  refine zW_iconst dX12_laysSending_11 ?_
  refine zW_istore (lv' := [(4, vi 0), (3, vi a1), (0, .ref (zad X (50, 0, 0))), (1, vi v1), (2, vi v2)]) dX12_laysSending_12 rfl rfl ?_
  refine zW_sub [2, 4, 1, 0] rfl ?_
  refine tX12_laysSending_l14 hw o (s0 := (a1, 0, I)) hf (fun x5 hf => ?_)
  exact zR_v hw rfl dX12_laysSending_69 hf
theorem kX12_laysSending {X : zX} {e : Nat → Prop} (hw : zWf X e) {v1 : Int} {v2 : Int} (o : zOk e (50, 0, 0)) {I : zMem} {u : zMem} (hf : fX12_laysSending v1 v2 I = some u) : zCn X mX12_laysSending yX12_laysSending [.ref (zad X (50, 0, 0)), vi v1, vi v2] I (none, u) := zCn_of (by decide +kernel) rfl rfl ⟨rfl, rfl⟩ (tX12_laysSending_0 hw.N o hf)
set_option maxRecDepth 100000 in
theorem tX12_isWord_0 {X : zX} {e : Nat → Prop} (hw : zWf X e) {v0 : Int}  {I : zMem} {u : Int} (hf : fX12_isWord v0 = some u) : zW X (some (vi u), I) mX12_isWord 0 [(0, vi v0)] [] I := by
  unfold fX12_isWord at hf
  refine zW_iload_n 0 dX12_isWord_0 rfl ?_
  refine zW_i2l dX12_isWord_1 ?_
  refine zW_lconst0 dX12_isWord_2 ?_
  refine zW_ldc2 dX12_isWord_3 wc_RX12_92 ?_
  refine zC_Sri (As := [vl (w32 v0), vl 0, vl 2047]) (fun x hx => kX12_within hw (v0 := w32 v0) (v2 := 0) (v4 := 2047)  hx) ms_RX12_94 rfl rfl rfl rfl dX12_isWord_6 hf (fun r1 hf => ?_)
  obtain ⟨c, hf⟩ := zgd hf
  exact zS_z hw rfl c dX12_isWord_9 hf
theorem kX12_isWord {X : zX} {e : Nat → Prop} (hw : zWf X e) {v0 : Int}  {I : zMem} {u : Int} (hf : fX12_isWord v0 = some u) : zCn X mX12_isWord yX12_isWord [vi v0] I (some (vi u), I) := zCn_of (by decide +kernel) rfl rfl ⟨rfl, rfl⟩ (tX12_isWord_0 hw.N  hf)
set_option maxRecDepth 100000 in
theorem tX12_isLength_0 {X : zX} {e : Nat → Prop} (hw : zWf X e) {v0 : Int}  {I : zMem} {u : Int} (hf : fX12_isLength v0 = some u) : zW X (some (vi u), I) mX12_isLength 0 [(0, vi v0)] [] I := by
  unfold fX12_isLength at hf
  refine zW_iload_n 0 dX12_isLength_0 rfl ?_
  refine zW_i2l dX12_isLength_1 ?_
  refine zW_lconst1 dX12_isLength_2 ?_
  refine zW_ldc2 dX12_isLength_3 wc_RX12_98 ?_
  refine zC_Sri (As := [vl (w32 v0), vl 1, vl 60]) (fun x hx => kX12_within hw (v0 := w32 v0) (v2 := 1) (v4 := 60)  hx) ms_RX12_94 rfl rfl rfl rfl dX12_isLength_6 hf (fun r1 hf => ?_)
  obtain ⟨c, hf⟩ := zgd hf
  exact zS_z hw rfl c dX12_isLength_9 hf
theorem kX12_isLength {X : zX} {e : Nat → Prop} (hw : zWf X e) {v0 : Int}  {I : zMem} {u : Int} (hf : fX12_isLength v0 = some u) : zCn X mX12_isLength yX12_isLength [vi v0] I (some (vi u), I) := zCn_of (by decide +kernel) rfl rfl ⟨rfl, rfl⟩ (tX12_isLength_0 hw.N  hf)
set_option maxRecDepth 100000 in
theorem tX12_isSet_0 {X : zX} {e : Nat → Prop} (hw : zWf X e) {v0 : Int}  {I : zMem} {u : Int} (hf : fX12_isSet v0 = some u) : zW X (some (vi u), I) mX12_isSet 0 [(0, vi v0)] [] I := by
  unfold fX12_isSet at hf
  refine zW_iload_n 0 dX12_isSet_0 rfl ?_
  refine zW_i2l dX12_isSet_1 ?_
  refine zW_lconst0 dX12_isSet_2 ?_
  refine zW_ldc2 dX12_isSet_3 wc_RX12_100 ?_
  refine zC_Sri (As := [vl (w32 v0), vl 0, vl 15]) (fun x hx => kX12_within hw (v0 := w32 v0) (v2 := 0) (v4 := 15)  hx) ms_RX12_94 rfl rfl rfl rfl dX12_isSet_6 hf (fun r1 hf => ?_)
  obtain ⟨c, hf⟩ := zgd hf
  exact zS_z hw rfl c dX12_isSet_9 hf
theorem kX12_isSet {X : zX} {e : Nat → Prop} (hw : zWf X e) {v0 : Int}  {I : zMem} {u : Int} (hf : fX12_isSet v0 = some u) : zCn X mX12_isSet yX12_isSet [vi v0] I (some (vi u), I) := zCn_of (by decide +kernel) rfl rfl ⟨rfl, rfl⟩ (tX12_isSet_0 hw.N  hf)
set_option maxRecDepth 100000 in
theorem tX12_clearsOften_l2_y {X : zX} {e : Nat → Prop} (hw : zWf X e) {T : zT}  (o : zOk e (50, 0, 0)) (s : (Int × zMem)) {u : ((Int × zMem) ⊕ (Int × zMem))} (hf : fX12_clearsOften_l2  s = some u) (hk : ∀ s', u = .inl s' → zW X T mX12_clearsOften 2 [(0, .ref (zad X (50, 0, 0))), (1, vi s'.1)] [] s'.2) (hx : ∀ x, u = .inr x → zW X T mX12_clearsOften 21 [] [] x.2) : zW X T mX12_clearsOften 2 [(0, .ref (zad X (50, 0, 0))), (1, vi s.1)] [] s.2 := by
  unfold fX12_clearsOften_l2 at hf
  refine zW_iload_n 1 dX12_clearsOften_2 rfl ?_
  refine zW_bipush dX12_clearsOften_3 rfl ?_
  refine zF_icmp_ge 21 dX12_clearsOften_5 rfl rfl (w32_lit _ rfl) hf (fun c hf => ?_) (fun c hf => ?_)
  · refine zW_sub [] rfl ?_
    exact hx _ (Option.some.inj hf).symm
  · refine zW_aload_n 0 dX12_clearsOften_8 rfl ?_
    refine zW_getR (q' := (57, 0, 0)) lk_RX12_34 (hw.1 _ o) rfl rfl (hw.2.1 _ _ _ o rfl) dX12_clearsOften_9 ?_
    refine zW_iload_n 1 dX12_clearsOften_12 rfl ?_
    refine zW_iconst dX12_clearsOften_13 ?_
    obtain ⟨c1, hf⟩ := zgd hf
    refine zF_iast (hw.1 _ (zokM (r' := 57) o rfl rfl)) rfl c1 rfl dX12_clearsOften_14 hf (fun I2 hf => ?_)
    refine zW_iinc 1 (lv' := [(1, vi (s.1 + 1)), (0, .ref (zad X (50, 0, 0)))]) dX12_clearsOften_15 rfl rfl rfl ?_
    refine zW_goto 2 dX12_clearsOften_18 rfl ?_
    refine zW_sub [1, 0] rfl ?_
    exact hk _ (Option.some.inj hf).symm
theorem tX12_clearsOften_l2 {X : zX} {e : Nat → Prop} (hw : zWf X e) {T : zT}  (o : zOk e (50, 0, 0)) {s0 : (Int × zMem)} {α : Type} {F : (Int × zMem) → Option α} {u : α} (hf : zb (zlp (fX12_clearsOften_l2 ) 5000 s0) F = some u) (kx : ∀ x, F x = some u → zW X T mX12_clearsOften 21 [] [] x.2) : zW X T mX12_clearsOften 2 [(0, .ref (zad X (50, 0, 0))), (1, vi s0.1)] [] s0.2 := by
  obtain ⟨x, h, hf⟩ := zb_inv hf
  exact zlp_W (P := fun s => zW X T mX12_clearsOften 2 [(0, .ref (zad X (50, 0, 0))), (1, vi s.1)] [] s.2) (E := fun x => zW X T mX12_clearsOften 21 [] [] x.2) (fun s u h hk hx => tX12_clearsOften_l2_y hw o s h hk hx) _ s0 x h (kx x hf)
set_option maxRecDepth 100000 in
theorem tX12_clearsOften_0 {X : zX} {e : Nat → Prop} (hw : zWf X e)  (o : zOk e (50, 0, 0)) {I : zMem} {u : zMem} (hf : fX12_clearsOften  I = some u) : zW X (none, u) mX12_clearsOften 0 [(0, .ref (zad X (50, 0, 0)))] [] I := by
  unfold fX12_clearsOften at hf
  refine zW_iconst dX12_clearsOften_0 ?_
  refine zW_istore_n (lv' := [(1, vi 0), (0, .ref (zad X (50, 0, 0)))]) dX12_clearsOften_1 rfl rfl ?_
  refine zW_sub [1, 0] rfl ?_
  refine tX12_clearsOften_l2 hw o (s0 := (0, I)) hf (fun x3 hf => ?_)
  exact zR_v hw rfl dX12_clearsOften_21 hf
theorem kX12_clearsOften {X : zX} {e : Nat → Prop} (hw : zWf X e)  (o : zOk e (50, 0, 0)) {I : zMem} {u : zMem} (hf : fX12_clearsOften  I = some u) : zCn X mX12_clearsOften yX12_clearsOften [.ref (zad X (50, 0, 0))] I (none, u) := zCn_of (by decide +kernel) rfl rfl ⟨rfl, rfl⟩ (tX12_clearsOften_0 hw.N o hf)
set_option maxRecDepth 100000 in
theorem tX12_addsOften_l8_y {X : zX} {e : Nat → Prop} (hw : zWf X e) {T : zT} {v1 : Int} {v2 : Int} (o : zOk e (50, 0, 0)) (s : (Int × zMem)) {u : ((Int × zMem) ⊕ (Int × zMem))} (hf : fX12_addsOften_l8 v1 v2 s = some u) (hk : ∀ s', u = .inl s' → zW X T mX12_addsOften 8 [(0, .ref (zad X (50, 0, 0))), (2, vi v2), (3, vi s'.1)] [] s'.2) (hx : ∀ x, u = .inr x → zW X T mX12_addsOften 34 [] [] x.2) : zW X T mX12_addsOften 8 [(0, .ref (zad X (50, 0, 0))), (2, vi v2), (3, vi s.1)] [] s.2 := by
  unfold fX12_addsOften_l8 at hf
  refine zW_iload_n 2 dX12_addsOften_8 rfl ?_
  refine zW_iload_n 1 dX12_addsOften_9 rfl ?_
  refine zF_icmp_ge 34 dX12_addsOften_10 rfl rfl rfl hf (fun c hf => ?_) (fun c hf => ?_)
  · refine zW_sub [] rfl ?_
    exact hx _ (Option.some.inj hf).symm
  · refine zW_aload_n 0 dX12_addsOften_13 rfl ?_
    refine zW_getR (q' := (57, 0, 0)) lk_RX12_34 (hw.1 _ o) rfl rfl (hw.2.1 _ _ _ o rfl) dX12_addsOften_14 ?_
    refine zW_aload_n 0 dX12_addsOften_17 rfl ?_
    refine zW_getR (q' := (56, 0, 0)) lk_RX12_31 (hw.1 _ o) rfl rfl (hw.2.1 _ _ _ o rfl) dX12_addsOften_18 ?_
    refine zW_iload_n 2 dX12_addsOften_21 rfl ?_
    obtain ⟨c2, hf⟩ := zgd hf
    refine zF_iald (hw.1 _ (zokM (r' := 56) o rfl rfl)) rfl c2 rfl dX12_addsOften_22 ?_
    refine zW_dup2 dX12_addsOften_23 rfl rfl ?_
    obtain ⟨c3, hf⟩ := zgd hf
    refine zF_iald (hw.1 _ (zokM (r' := 57) o rfl rfl)) rfl c3 rfl dX12_addsOften_24 ?_
    refine zW_iconst dX12_addsOften_25 ?_
    refine zW_iadd dX12_addsOften_26 ?_
    refine zF_iast (hw.1 _ (zokM (r' := 57) o rfl rfl)) rfl c3 rfl dX12_addsOften_27 hf (fun I4 hf => ?_)
    refine zW_iinc 2 (lv' := [(3, vi (s.1 + 1)), (0, .ref (zad X (50, 0, 0))), (2, vi v2)]) dX12_addsOften_28 rfl rfl rfl ?_
    refine zW_goto 8 dX12_addsOften_31 rfl ?_
    refine zW_sub [1, 2, 0] rfl ?_
    exact hk _ (Option.some.inj hf).symm
theorem tX12_addsOften_l8 {X : zX} {e : Nat → Prop} (hw : zWf X e) {T : zT} {v1 : Int} {v2 : Int} (o : zOk e (50, 0, 0)) {s0 : (Int × zMem)} {α : Type} {F : (Int × zMem) → Option α} {u : α} (hf : zb (zlp (fX12_addsOften_l8 v1 v2) 5000 s0) F = some u) (kx : ∀ x, F x = some u → zW X T mX12_addsOften 34 [] [] x.2) : zW X T mX12_addsOften 8 [(0, .ref (zad X (50, 0, 0))), (2, vi v2), (3, vi s0.1)] [] s0.2 := by
  obtain ⟨x, h, hf⟩ := zb_inv hf
  exact zlp_W (P := fun s => zW X T mX12_addsOften 8 [(0, .ref (zad X (50, 0, 0))), (2, vi v2), (3, vi s.1)] [] s.2) (E := fun x => zW X T mX12_addsOften 34 [] [] x.2) (fun s u h hk hx => tX12_addsOften_l8_y hw o s h hk hx) _ s0 x h (kx x hf)
set_option maxRecDepth 100000 in
theorem tX12_addsOften_0 {X : zX} {e : Nat → Prop} (hw : zWf X e) {v1 : Int} {v2 : Int} (o : zOk e (50, 0, 0)) {I : zMem} {u : zMem} (hf : fX12_addsOften v1 v2 I = some u) : zW X (none, u) mX12_addsOften 0 [(0, .ref (zad X (50, 0, 0))), (1, vi v1), (2, vi v2)] [] I := by
  unfold fX12_addsOften at hf
  refine zW_aload_n 0 dX12_addsOften_0 rfl ?_
  refine zW_iload_n 1 dX12_addsOften_1 rfl ?_
  refine zW_iload_n 2 dX12_addsOften_2 rfl ?_
  refine zC_Vwv (As := [vi v1, vi v2]) (fun x hx => kX12_laysSending hw (v1 := v1) (v2 := v2) o hx) mv_RX12_102 (hw.1 _ o) rfl rfl rfl rfl rfl dX12_addsOften_3 hf (fun r1 hf => ?_)
  refine zW_iconst dX12_addsOften_6 ?_
  refine zW_istore_n (lv' := [(3, vi 0), (0, .ref (zad X (50, 0, 0))), (1, vi v1), (2, vi v2)]) dX12_addsOften_7 rfl rfl ?_
  refine zW_sub [1, 3, 0] rfl ?_
  refine tX12_addsOften_l8 hw o (s0 := (0, r1)) hf (fun x5 hf => ?_)
  exact zR_v hw rfl dX12_addsOften_34 hf
theorem kX12_addsOften {X : zX} {e : Nat → Prop} (hw : zWf X e) {v1 : Int} {v2 : Int} (o : zOk e (50, 0, 0)) {I : zMem} {u : zMem} (hf : fX12_addsOften v1 v2 I = some u) : zCn X mX12_addsOften yX12_addsOften [.ref (zad X (50, 0, 0)), vi v1, vi v2] I (none, u) := zCn_of (by decide +kernel) rfl rfl ⟨rfl, rfl⟩ (tX12_addsOften_0 hw.N o hf)
set_option maxRecDepth 100000 in
theorem tX12_laysOften_b6_26 {X : zX} {e : Nat → Prop} (hw : zWf X e) {T : zT} {v1 : Int} {v2 : Int} {w3 : Int} {I : zMem} (o : zOk e (50, 0, 0)) {u : ((Int × zMem) ⊕ (Int × zMem))} (hf : fX12_laysOften_b6_26 v1 v2 w3 I = some u) (hk : ∀ s', u = .inl s' → zW X T mX12_laysOften 6 [(0, .ref (zad X (50, 0, 0))), (1, vi v1), (2, vi v2), (3, vi s'.1)] [] s'.2) (hx : ∀ x, u = .inr x → zW X T mX12_laysOften 32 [] [] x.2) : zW X T mX12_laysOften 26 [(0, .ref (zad X (50, 0, 0))), (1, vi v1), (2, vi v2), (3, vi w3)] [] I := by
  unfold fX12_laysOften_b6_26 at hf
  refine zW_iinc 3 (lv' := [(3, vi (w3 + 1)), (0, .ref (zad X (50, 0, 0))), (1, vi v1), (2, vi v2)]) dX12_laysOften_26 rfl rfl rfl ?_
  refine zW_goto 6 dX12_laysOften_29 rfl ?_
  refine zW_sub [1, 2, 3, 0] rfl ?_
  exact hk _ (Option.some.inj hf).symm
set_option maxRecDepth 100000 in
theorem tX12_laysOften_l6_y {X : zX} {e : Nat → Prop} (hw : zWf X e) {T : zT} {v1 : Int} {v2 : Int} (o : zOk e (50, 0, 0)) (s : (Int × zMem)) {u : ((Int × zMem) ⊕ (Int × zMem))} (hf : fX12_laysOften_l6 v1 v2 s = some u) (hk : ∀ s', u = .inl s' → zW X T mX12_laysOften 6 [(0, .ref (zad X (50, 0, 0))), (1, vi v1), (2, vi v2), (3, vi s'.1)] [] s'.2) (hx : ∀ x, u = .inr x → zW X T mX12_laysOften 32 [] [] x.2) : zW X T mX12_laysOften 6 [(0, .ref (zad X (50, 0, 0))), (1, vi v1), (2, vi v2), (3, vi s.1)] [] s.2 := by
  unfold fX12_laysOften_l6 at hf
  refine zW_iload_n 3 dX12_laysOften_6 rfl ?_
  refine zW_iconst dX12_laysOften_7 ?_
  refine zF_icmp_ge 32 dX12_laysOften_8 rfl rfl (w32_lit _ rfl) hf (fun c hf => ?_) (fun c hf => ?_)
  · refine zW_sub [] rfl ?_
    exact hx _ (Option.some.inj hf).symm
  · refine zW_iload_n 1 dX12_laysOften_11 rfl ?_
    refine zW_iload_n 3 dX12_laysOften_12 rfl ?_
    refine zW_ishr dX12_laysOften_13 ?_
    refine zW_iconst dX12_laysOften_14 ?_
    refine zW_iand_1 dX12_laysOften_15 ?_
    refine zW_iconst dX12_laysOften_16 ?_
    refine zF_icmp_ne 26 dX12_laysOften_17 rfl (w32_emod _ _ rfl) (w32_lit _ rfl) hf (fun c hf => ?_) (fun c hf => ?_)
    · refine zW_aload_n 0 dX12_laysOften_20 rfl ?_
      refine zW_iload_n 3 dX12_laysOften_21 rfl ?_
      refine zW_iload_n 2 dX12_laysOften_22 rfl ?_
      refine zC_Vwv (As := [vi s.1, vi v2]) (fun x hx => kX12_addsOften hw (v1 := s.1) (v2 := v2) o hx) mv_RX12_109 (hw.1 _ o) rfl rfl rfl rfl rfl dX12_laysOften_23 hf (fun r2 hf => ?_)
      refine zW_sub [0, 1, 2, 3] rfl ?_
      exact tX12_laysOften_b6_26 hw o hf hk hx
    · refine zW_sub [0, 1, 2, 3] rfl ?_
      exact tX12_laysOften_b6_26 hw o hf hk hx
theorem tX12_laysOften_l6 {X : zX} {e : Nat → Prop} (hw : zWf X e) {T : zT} {v1 : Int} {v2 : Int} (o : zOk e (50, 0, 0)) {s0 : (Int × zMem)} {α : Type} {F : (Int × zMem) → Option α} {u : α} (hf : zb (zlp (fX12_laysOften_l6 v1 v2) 5000 s0) F = some u) (kx : ∀ x, F x = some u → zW X T mX12_laysOften 32 [] [] x.2) : zW X T mX12_laysOften 6 [(0, .ref (zad X (50, 0, 0))), (1, vi v1), (2, vi v2), (3, vi s0.1)] [] s0.2 := by
  obtain ⟨x, h, hf⟩ := zb_inv hf
  exact zlp_W (P := fun s => zW X T mX12_laysOften 6 [(0, .ref (zad X (50, 0, 0))), (1, vi v1), (2, vi v2), (3, vi s.1)] [] s.2) (E := fun x => zW X T mX12_laysOften 32 [] [] x.2) (fun s u h hk hx => tX12_laysOften_l6_y hw o s h hk hx) _ s0 x h (kx x hf)
set_option maxRecDepth 100000 in
theorem tX12_laysOften_0 {X : zX} {e : Nat → Prop} (hw : zWf X e) {v1 : Int} {v2 : Int} (o : zOk e (50, 0, 0)) {I : zMem} {u : zMem} (hf : fX12_laysOften v1 v2 I = some u) : zW X (none, u) mX12_laysOften 0 [(0, .ref (zad X (50, 0, 0))), (1, vi v1), (2, vi v2)] [] I := by
  unfold fX12_laysOften at hf
  refine zW_aload_n 0 dX12_laysOften_0 rfl ?_
  refine zC_Vwv (As := []) (fun x hx => kX12_clearsOften hw o hx) mv_RX12_106 (hw.1 _ o) rfl rfl rfl rfl rfl dX12_laysOften_1 hf (fun r1 hf => ?_)
  refine zW_iconst dX12_laysOften_4 ?_
  refine zW_istore_n (lv' := [(3, vi 0), (0, .ref (zad X (50, 0, 0))), (1, vi v1), (2, vi v2)]) dX12_laysOften_5 rfl rfl ?_
  refine zW_sub [1, 2, 3, 0] rfl ?_
  refine tX12_laysOften_l6 hw o (s0 := (0, r1)) hf (fun x3 hf => ?_)
  exact zR_v hw rfl dX12_laysOften_32 hf
theorem kX12_laysOften {X : zX} {e : Nat → Prop} (hw : zWf X e) {v1 : Int} {v2 : Int} (o : zOk e (50, 0, 0)) {I : zMem} {u : zMem} (hf : fX12_laysOften v1 v2 I = some u) : zCn X mX12_laysOften yX12_laysOften [.ref (zad X (50, 0, 0)), vi v1, vi v2] I (none, u) := zCn_of (by decide +kernel) rfl rfl ⟨rfl, rfl⟩ (tX12_laysOften_0 hw.N o hf)
set_option maxRecDepth 100000 in
theorem tX12_apart_b20_50 {X : zX} {e : Nat → Prop} (hw : zWf X e) {T : zT} {v1 : Int} {v2 : Int} {I : zMem} {w3 : Int} {w5 : Int} {w6 : Int} (o : zOk e (50, 0, 0)) {u : ((Int × Int) ⊕ (Int × Int))} (hf : fX12_apart_b20_50 v1 v2 I w3 w5 w6 = some u) (hk : ∀ s', u = .inl s' → zW X T mX12_apart 20 [(0, .ref (zad X (50, 0, 0))), (3, vl w3), (5, vi s'.1), (6, vi s'.2)] [] I) (hx : ∀ x, u = .inr x → zW X T mX12_apart 56 [(5, vi x.1)] [] I) : zW X T mX12_apart 50 [(0, .ref (zad X (50, 0, 0))), (3, vl w3), (5, vi w5), (6, vi w6)] [] I := by
  unfold fX12_apart_b20_50 at hf
  refine zW_iinc 3 (lv' := [(6, vi (w6 + 1)), (0, .ref (zad X (50, 0, 0))), (3, vl w3), (5, vi w5)]) dX12_apart_50 rfl rfl rfl ?_
  refine zW_goto 20 dX12_apart_53 rfl ?_
  refine zW_sub [1, 2, 3, 0] rfl ?_
  exact hk _ (Option.some.inj hf).symm
set_option maxRecDepth 100000 in
theorem tX12_apart_l20_y {X : zX} {e : Nat → Prop} (hw : zWf X e) {T : zT} {v1 : Int} {v2 : Int} {I : zMem} {w3 : Int} (o : zOk e (50, 0, 0)) (s : (Int × Int)) {u : ((Int × Int) ⊕ (Int × Int))} (hf : fX12_apart_l20 v1 v2 I w3 s = some u) (hk : ∀ s', u = .inl s' → zW X T mX12_apart 20 [(0, .ref (zad X (50, 0, 0))), (3, vl w3), (5, vi s'.1), (6, vi s'.2)] [] I) (hx : ∀ x, u = .inr x → zW X T mX12_apart 56 [(5, vi x.1)] [] I) : zW X T mX12_apart 20 [(0, .ref (zad X (50, 0, 0))), (3, vl w3), (5, vi s.1), (6, vi s.2)] [] I := by
  unfold fX12_apart_l20 at hf
  refine zW_iload 3 dX12_apart_20 rfl ?_
  refine zW_bipush dX12_apart_22 rfl ?_
  refine zF_icmp_ge 56 dX12_apart_24 rfl rfl (w32_lit _ rfl) hf (fun c hf => ?_) (fun c hf => ?_)
  · refine zW_sub [2] rfl ?_
    exact hx _ (Option.some.inj hf).symm
  · refine zW_lload_n 1 dX12_apart_27 rfl ?_
    refine zW_iload 3 dX12_apart_28 rfl ?_
    refine zW_lshr dX12_apart_30 ?_
    refine zW_lconst1 dX12_apart_31 ?_
    refine zW_land dX12_apart_32 ?_
    refine zW_lconst1 dX12_apart_33 ?_
    refine zF_lcmp_ne 50 dX12_apart_34 dX12_apart_35 rfl rfl (w64_lit _ rfl) hf (fun c hf => ?_) (fun c hf => ?_)
    · refine zW_iload 2 dX12_apart_38 rfl ?_
      refine zW_aload_n 0 dX12_apart_40 rfl ?_
      refine zW_getR (q' := (57, 0, 0)) lk_RX12_34 (hw.1 _ o) rfl rfl (hw.2.1 _ _ _ o rfl) dX12_apart_41 ?_
      refine zW_iload 3 dX12_apart_44 rfl ?_
      obtain ⟨c4, hf⟩ := zgd hf
      refine zF_iald (hw.1 _ (zokM (r' := 57) o rfl rfl)) rfl c4 rfl dX12_apart_46 ?_
      refine zW_iadd dX12_apart_47 ?_
      refine zF_istore (lv' := fun a5 => [(5, vi a5), (0, .ref (zad X (50, 0, 0))), (3, vl w3), (6, vi s.2)]) dX12_apart_48 hf (fun _ => rfl) rfl (fun a5 hf => ?_)
      refine zW_sub [1, 2, 0, 3] rfl ?_
      exact tX12_apart_b20_50 hw o hf hk hx
    · refine zW_sub [0, 1, 2, 3] rfl ?_
      exact tX12_apart_b20_50 hw o hf hk hx
theorem tX12_apart_l20 {X : zX} {e : Nat → Prop} (hw : zWf X e) {T : zT} {v1 : Int} {v2 : Int} {I : zMem} {w3 : Int} (o : zOk e (50, 0, 0)) {s0 : (Int × Int)} {α : Type} {F : (Int × Int) → Option α} {u : α} (hf : zb (zlp (fX12_apart_l20 v1 v2 I w3) 5000 s0) F = some u) (kx : ∀ x, F x = some u → zW X T mX12_apart 56 [(5, vi x.1)] [] I) : zW X T mX12_apart 20 [(0, .ref (zad X (50, 0, 0))), (3, vl w3), (5, vi s0.1), (6, vi s0.2)] [] I := by
  obtain ⟨x, h, hf⟩ := zb_inv hf
  exact zlp_W (P := fun s => zW X T mX12_apart 20 [(0, .ref (zad X (50, 0, 0))), (3, vl w3), (5, vi s.1), (6, vi s.2)] [] I) (E := fun x => zW X T mX12_apart 56 [(5, vi x.1)] [] I) (fun s u h hk hx => tX12_apart_l20_y hw o s h hk hx) _ s0 x h (kx x hf)
set_option maxRecDepth 100000 in
theorem tX12_apart_0 {X : zX} {e : Nat → Prop} (hw : zWf X e) {v1 : Int} {v2 : Int} (o : zOk e (50, 0, 0)) {I : zMem} {u : Int} (hf : fX12_apart v1 v2 I = some u) : zW X (some (vi u), I) mX12_apart 0 [(0, .ref (zad X (50, 0, 0))), (1, vi v1), (2, vi v2)] [] I := by
  unfold fX12_apart at hf
  refine zW_aload_n 0 dX12_apart_0 rfl ?_
  refine zW_getR (q' := (54, 0, 0)) lk_RX12_24 (hw.1 _ o) rfl rfl (hw.2.1 _ _ _ o rfl) dX12_apart_1 ?_
  refine zW_iload_n 1 dX12_apart_4 rfl ?_
  obtain ⟨c1, hf⟩ := zgd hf
  refine zF_lald (hw.1 _ (zokM (r' := 54) o rfl rfl)) rfl c1 rfl dX12_apart_5 ?_
  refine zW_aload_n 0 dX12_apart_6 rfl ?_
  refine zW_getR (q' := (54, 0, 0)) lk_RX12_24 (hw.1 _ o) rfl rfl (hw.2.1 _ _ _ o rfl) dX12_apart_7 ?_
  refine zW_iload_n 2 dX12_apart_10 rfl ?_
  obtain ⟨c2, hf⟩ := zgd hf
  refine zF_lald (hw.1 _ (zokM (r' := 54) o rfl rfl)) rfl c2 rfl dX12_apart_11 ?_
  refine zW_lxor dX12_apart_12 ?_
  refine zF_lstore_n (lv' := fun a3 => [(3, vl a3), (0, .ref (zad X (50, 0, 0))), (1, vi v1), (2, vi v2)]) dX12_apart_13 hf (fun _ => rfl) rfl (fun a3 hf => ?_)
  refine zW_iconst dX12_apart_14 ?_
  refine zW_istore (lv' := [(5, vi 0), (3, vl a3), (0, .ref (zad X (50, 0, 0))), (1, vi v1), (2, vi v2)]) dX12_apart_15 rfl rfl ?_
  refine zW_iconst dX12_apart_17 ?_
  refine zW_istore (lv' := [(6, vi 0), (5, vi 0), (3, vl a3), (0, .ref (zad X (50, 0, 0))), (1, vi v1), (2, vi v2)]) dX12_apart_18 rfl rfl ?_
  refine zW_sub [3, 2, 1, 0] rfl ?_
  refine tX12_apart_l20 hw o (s0 := (0, 0)) hf (fun x6 hf => ?_)
  refine zW_iload 0 dX12_apart_56 rfl ?_
  exact zS_i hw rfl dX12_apart_58 hf
theorem kX12_apart {X : zX} {e : Nat → Prop} (hw : zWf X e) {v1 : Int} {v2 : Int} (o : zOk e (50, 0, 0)) {I : zMem} {u : Int} (hf : fX12_apart v1 v2 I = some u) : zCn X mX12_apart yX12_apart [.ref (zad X (50, 0, 0)), vi v1, vi v2] I (some (vi u), I) := zCn_of (by decide +kernel) rfl rfl ⟨rfl, rfl⟩ (tX12_apart_0 hw.N o hf)
set_option maxRecDepth 100000 in
theorem tX12_leastApart_b20_71 {X : zX} {e : Nat → Prop} (hw : zWf X e) {T : zT} {v1 : Int} {I : zMem} {w2 : Int} {w3 : Int} {w4 : Int} (o : zOk e (50, 0, 0)) {u : ((Int × Int) ⊕ (Int × Int))} (hf : fX12_leastApart_b20_71 v1 I w2 w3 w4 = some u) (hk : ∀ s', u = .inl s' → zW X T mX12_leastApart 20 [(0, .ref (zad X (50, 0, 0))), (1, vi v1), (2, vi w2), (3, vi s'.1), (4, vi s'.2)] [] I) (hx : ∀ x, u = .inr x → zW X T mX12_leastApart 77 [(3, vi x.1)] [] I) : zW X T mX12_leastApart 71 [(0, .ref (zad X (50, 0, 0))), (1, vi v1), (2, vi w2), (3, vi w3), (4, vi w4)] [] I := by
  unfold fX12_leastApart_b20_71 at hf
  refine zW_iinc 4 (lv' := [(4, vi (w4 + 1)), (0, .ref (zad X (50, 0, 0))), (1, vi v1), (2, vi w2), (3, vi w3)]) dX12_leastApart_71 rfl rfl rfl ?_
  refine zW_goto 20 dX12_leastApart_74 rfl ?_
  refine zW_sub [1, 2, 3, 4, 0] rfl ?_
  exact hk _ (Option.some.inj hf).symm
set_option maxRecDepth 100000 in
theorem tX12_leastApart_b20_70 {X : zX} {e : Nat → Prop} (hw : zWf X e) {T : zT} {v1 : Int} {I : zMem} {w2 : Int} {w4 : Int} {k0 : Int} (o : zOk e (50, 0, 0)) {u : ((Int × Int) ⊕ (Int × Int))} (hf : fX12_leastApart_b20_70 v1 I w2 w4 k0 = some u) (hk : ∀ s', u = .inl s' → zW X T mX12_leastApart 20 [(0, .ref (zad X (50, 0, 0))), (1, vi v1), (2, vi w2), (3, vi s'.1), (4, vi s'.2)] [] I) (hx : ∀ x, u = .inr x → zW X T mX12_leastApart 77 [(3, vi x.1)] [] I) : zW X T mX12_leastApart 70 [(0, .ref (zad X (50, 0, 0))), (1, vi v1), (2, vi w2), (4, vi w4)] [vi k0] I := by
  unfold fX12_leastApart_b20_70 at hf
  refine zW_istore_n (lv' := [(3, vi k0), (0, .ref (zad X (50, 0, 0))), (1, vi v1), (2, vi w2), (4, vi w4)]) dX12_leastApart_70 rfl rfl ?_
  refine zW_sub [1, 2, 3, 0, 4] rfl ?_
  exact tX12_leastApart_b20_71 hw o hf hk hx
set_option maxRecDepth 100000 in
theorem tX12_leastApart_b20_49 {X : zX} {e : Nat → Prop} (hw : zWf X e) {T : zT} {v1 : Int} {I : zMem} {w2 : Int} {w3 : Int} {w4 : Int} (o : zOk e (50, 0, 0)) {u : ((Int × Int) ⊕ (Int × Int))} (hf : fX12_leastApart_b20_49 v1 I w2 w3 w4 = some u) (hk : ∀ s', u = .inl s' → zW X T mX12_leastApart 20 [(0, .ref (zad X (50, 0, 0))), (1, vi v1), (2, vi w2), (3, vi s'.1), (4, vi s'.2)] [] I) (hx : ∀ x, u = .inr x → zW X T mX12_leastApart 77 [(3, vi x.1)] [] I) : zW X T mX12_leastApart 49 [(0, .ref (zad X (50, 0, 0))), (1, vi v1), (2, vi w2), (3, vi w3), (4, vi w4)] [] I := by
  unfold fX12_leastApart_b20_49 at hf
  refine zW_aload_n 0 dX12_leastApart_49 rfl ?_
  refine zW_iload 4 dX12_leastApart_50 rfl ?_
  refine zW_iload_n 2 dX12_leastApart_52 rfl ?_
  refine zC_Vri (As := [vi w4, vi w2]) (fun x hx => kX12_apart hw (v1 := w4) (v2 := w2) o hx) mv_RX12_120 (hw.1 _ o) rfl rfl rfl rfl rfl dX12_leastApart_53 hf (fun r1 hf => ?_)
  refine zW_istore (lv' := [(5, vi r1), (0, .ref (zad X (50, 0, 0))), (1, vi v1), (2, vi w2), (3, vi w3), (4, vi w4)]) dX12_leastApart_56 rfl rfl ?_
  refine zW_iload 0 dX12_leastApart_58 rfl ?_
  refine zW_iload_n 4 dX12_leastApart_60 rfl ?_
  refine zF_icmp_ge 69 dX12_leastApart_61 rfl rfl rfl hf (fun c hf => ?_) (fun c hf => ?_)
  · refine zW_iload_n 4 dX12_leastApart_69 rfl ?_
    refine zW_sub [1, 2, 3, 5] rfl ?_
    exact tX12_leastApart_b20_70 hw o hf hk hx
  · refine zW_iload 0 dX12_leastApart_64 rfl ?_
    refine zW_goto 70 dX12_leastApart_66 rfl ?_
    refine zW_sub [1, 2, 3, 5] rfl ?_
    exact tX12_leastApart_b20_70 hw o hf hk hx
set_option maxRecDepth 100000 in
theorem tX12_leastApart_l20_y {X : zX} {e : Nat → Prop} (hw : zWf X e) {T : zT} {v1 : Int} {I : zMem} {w2 : Int} (o : zOk e (50, 0, 0)) (s : (Int × Int)) {u : ((Int × Int) ⊕ (Int × Int))} (hf : fX12_leastApart_l20 v1 I w2 s = some u) (hk : ∀ s', u = .inl s' → zW X T mX12_leastApart 20 [(0, .ref (zad X (50, 0, 0))), (1, vi v1), (2, vi w2), (3, vi s'.1), (4, vi s'.2)] [] I) (hx : ∀ x, u = .inr x → zW X T mX12_leastApart 77 [(3, vi x.1)] [] I) : zW X T mX12_leastApart 20 [(0, .ref (zad X (50, 0, 0))), (1, vi v1), (2, vi w2), (3, vi s.1), (4, vi s.2)] [] I := by
  unfold fX12_leastApart_l20 at hf
  refine zW_iload 4 dX12_leastApart_20 rfl ?_
  refine zW_sipush dX12_leastApart_22 rfl ?_
  refine zF_icmp_ge 77 dX12_leastApart_25 rfl rfl (w32_lit _ rfl) hf (fun c hf => ?_) (fun c hf => ?_)
  · refine zW_sub [3] rfl ?_
    exact hx _ (Option.some.inj hf).symm
  · refine zW_iload 4 dX12_leastApart_28 rfl ?_
    refine zW_iload_n 2 dX12_leastApart_30 rfl ?_
    refine zF_icmp_eq 71 dX12_leastApart_31 rfl rfl rfl hf (fun c hf => ?_) (fun c hf => ?_)
    · refine zW_sub [0, 1, 2, 3, 4] rfl ?_
      exact tX12_leastApart_b20_71 hw o hf hk hx
    · refine zW_iload_n 1 dX12_leastApart_34 rfl ?_
      refine zF_if_eq 49 dX12_leastApart_35 rfl rfl hf (fun c hf => ?_) (fun c hf => ?_)
      · refine zW_sub [0, 1, 2, 3, 4] rfl ?_
        exact tX12_leastApart_b20_49 hw o hf hk hx
      · refine zW_iload 4 dX12_leastApart_38 rfl ?_
        refine zC_Sri (As := [vi s.2]) (fun x hx => kX12_isWhole hw (v0 := s.2)  hx) ms_RX12_116 rfl rfl rfl rfl dX12_leastApart_40 hf (fun r2 hf => ?_)
        refine zF_if_ne 49 dX12_leastApart_43 rfl rfl hf (fun c hf => ?_) (fun c hf => ?_)
        · refine zW_goto 71 dX12_leastApart_46 rfl ?_
          refine zW_sub [0, 1, 2, 3, 4] rfl ?_
          exact tX12_leastApart_b20_71 hw o hf hk hx
        · refine zW_sub [0, 1, 2, 3, 4] rfl ?_
          exact tX12_leastApart_b20_49 hw o hf hk hx
theorem tX12_leastApart_l20 {X : zX} {e : Nat → Prop} (hw : zWf X e) {T : zT} {v1 : Int} {I : zMem} {w2 : Int} (o : zOk e (50, 0, 0)) {s0 : (Int × Int)} {α : Type} {F : (Int × Int) → Option α} {u : α} (hf : zb (zlp (fX12_leastApart_l20 v1 I w2) 5000 s0) F = some u) (kx : ∀ x, F x = some u → zW X T mX12_leastApart 77 [(3, vi x.1)] [] I) : zW X T mX12_leastApart 20 [(0, .ref (zad X (50, 0, 0))), (1, vi v1), (2, vi w2), (3, vi s0.1), (4, vi s0.2)] [] I := by
  obtain ⟨x, h, hf⟩ := zb_inv hf
  exact zlp_W (P := fun s => zW X T mX12_leastApart 20 [(0, .ref (zad X (50, 0, 0))), (1, vi v1), (2, vi w2), (3, vi s.1), (4, vi s.2)] [] I) (E := fun x => zW X T mX12_leastApart 77 [(3, vi x.1)] [] I) (fun s u h hk hx => tX12_leastApart_l20_y hw o s h hk hx) _ s0 x h (kx x hf)
set_option maxRecDepth 100000 in
theorem tX12_leastApart_b13 {X : zX} {e : Nat → Prop} (hw : zWf X e) {v1 : Int} {I : zMem} {k0 : Int} (o : zOk e (50, 0, 0)) {u : Int} (hf : fX12_leastApart_b13 v1 I k0 = some u) : zW X (some (vi u), I) mX12_leastApart 13 [(0, .ref (zad X (50, 0, 0))), (1, vi v1)] [vi k0] I := by
  unfold fX12_leastApart_b13 at hf
  refine zW_istore_n (lv' := [(2, vi k0), (0, .ref (zad X (50, 0, 0))), (1, vi v1)]) dX12_leastApart_13 rfl rfl ?_
  refine zW_ldc dX12_leastApart_14 wc_RX12_115 ?_
  refine zW_istore_n (lv' := [(3, vi 1048576), (2, vi k0), (0, .ref (zad X (50, 0, 0))), (1, vi v1)]) dX12_leastApart_16 rfl rfl ?_
  refine zW_iconst dX12_leastApart_17 ?_
  refine zW_istore (lv' := [(4, vi 0), (3, vi 1048576), (2, vi k0), (0, .ref (zad X (50, 0, 0))), (1, vi v1)]) dX12_leastApart_18 rfl rfl ?_
  refine zW_sub [3, 4, 2, 1, 0] rfl ?_
  refine tX12_leastApart_l20 hw o (s0 := (1048576, 0)) hf (fun x3 hf => ?_)
  refine zW_iload_n 0 dX12_leastApart_77 rfl ?_
  exact zS_i hw rfl dX12_leastApart_78 hf
set_option maxRecDepth 100000 in
theorem tX12_leastApart_0 {X : zX} {e : Nat → Prop} (hw : zWf X e) {v1 : Int} (o : zOk e (50, 0, 0)) {I : zMem} {u : Int} (hf : fX12_leastApart v1 I = some u) : zW X (some (vi u), I) mX12_leastApart 0 [(0, .ref (zad X (50, 0, 0))), (1, vi v1)] [] I := by
  unfold fX12_leastApart at hf
  refine zW_iload_n 1 dX12_leastApart_0 rfl ?_
  refine zF_if_eq 12 dX12_leastApart_1 rfl rfl hf (fun c hf => ?_) (fun c hf => ?_)
  · refine zW_iconst dX12_leastApart_12 ?_
    refine zW_sub [0, 1] rfl ?_
    exact tX12_leastApart_b13 hw o hf
  · refine zW_iconst dX12_leastApart_4 ?_
    refine zW_iconst dX12_leastApart_5 ?_
    refine zC_Sri (As := [vi 0, vi 0]) (fun x hx => kX12_wordOf hw (v0 := 0) (v1 := 0)  hx) ms_RX12_112 rfl rfl rfl rfl dX12_leastApart_6 hf (fun r4 hf => ?_)
    refine zW_goto 13 dX12_leastApart_9 rfl ?_
    refine zW_sub [0, 1] rfl ?_
    exact tX12_leastApart_b13 hw o hf
theorem kX12_leastApart {X : zX} {e : Nat → Prop} (hw : zWf X e) {v1 : Int} (o : zOk e (50, 0, 0)) {I : zMem} {u : Int} (hf : fX12_leastApart v1 I = some u) : zCn X mX12_leastApart yX12_leastApart [.ref (zad X (50, 0, 0)), vi v1] I (some (vi u), I) := zCn_of (by decide +kernel) rfl rfl ⟨rfl, rfl⟩ (tX12_leastApart_0 hw.N o hf)
set_option maxRecDepth 100000 in
theorem tX12_manyApart_b20_70 {X : zX} {e : Nat → Prop} (hw : zWf X e) {T : zT} {v1 : Int} {v2 : Int} {I : zMem} {w3 : Int} {w4 : Int} {w5 : Int} (o : zOk e (50, 0, 0)) {u : ((Int × Int) ⊕ (Int × Int))} (hf : fX12_manyApart_b20_70 v1 v2 I w3 w4 w5 = some u) (hk : ∀ s', u = .inl s' → zW X T mX12_manyApart 20 [(0, .ref (zad X (50, 0, 0))), (1, vi v1), (2, vi v2), (3, vi w3), (4, vi s'.1), (5, vi s'.2)] [] I) (hx : ∀ x, u = .inr x → zW X T mX12_manyApart 76 [(4, vi x.1)] [] I) : zW X T mX12_manyApart 70 [(0, .ref (zad X (50, 0, 0))), (1, vi v1), (2, vi v2), (3, vi w3), (4, vi w4), (5, vi w5)] [] I := by
  unfold fX12_manyApart_b20_70 at hf
  refine zW_iinc 5 (lv' := [(5, vi (w5 + 1)), (0, .ref (zad X (50, 0, 0))), (1, vi v1), (2, vi v2), (3, vi w3), (4, vi w4)]) dX12_manyApart_70 rfl rfl rfl ?_
  refine zW_goto 20 dX12_manyApart_73 rfl ?_
  refine zW_sub [1, 2, 3, 4, 5, 0] rfl ?_
  exact hk _ (Option.some.inj hf).symm
set_option maxRecDepth 100000 in
theorem tX12_manyApart_b20_67 {X : zX} {e : Nat → Prop} (hw : zWf X e) {T : zT} {v1 : Int} {v2 : Int} {I : zMem} {w3 : Int} {w5 : Int} {k0 : Int} {k1 : Int} (o : zOk e (50, 0, 0)) {u : ((Int × Int) ⊕ (Int × Int))} (hf : fX12_manyApart_b20_67 v1 v2 I w3 w5 k0 k1 = some u) (hk : ∀ s', u = .inl s' → zW X T mX12_manyApart 20 [(0, .ref (zad X (50, 0, 0))), (1, vi v1), (2, vi v2), (3, vi w3), (4, vi s'.1), (5, vi s'.2)] [] I) (hx : ∀ x, u = .inr x → zW X T mX12_manyApart 76 [(4, vi x.1)] [] I) : zW X T mX12_manyApart 67 [(0, .ref (zad X (50, 0, 0))), (1, vi v1), (2, vi v2), (3, vi w3), (5, vi w5)] [vi k0, vi k1] I := by
  unfold fX12_manyApart_b20_67 at hf
  refine zW_iadd dX12_manyApart_67 ?_
  refine zF_istore (lv' := fun a2 => [(4, vi a2), (0, .ref (zad X (50, 0, 0))), (1, vi v1), (2, vi v2), (3, vi w3), (5, vi w5)]) dX12_manyApart_68 hf (fun _ => rfl) rfl (fun a2 hf => ?_)
  refine zW_sub [1, 2, 3, 4, 0, 5] rfl ?_
  exact tX12_manyApart_b20_70 hw o hf hk hx
set_option maxRecDepth 100000 in
theorem tX12_manyApart_b20_49 {X : zX} {e : Nat → Prop} (hw : zWf X e) {T : zT} {v1 : Int} {v2 : Int} {I : zMem} {w3 : Int} {w4 : Int} {w5 : Int} (o : zOk e (50, 0, 0)) {u : ((Int × Int) ⊕ (Int × Int))} (hf : fX12_manyApart_b20_49 v1 v2 I w3 w4 w5 = some u) (hk : ∀ s', u = .inl s' → zW X T mX12_manyApart 20 [(0, .ref (zad X (50, 0, 0))), (1, vi v1), (2, vi v2), (3, vi w3), (4, vi s'.1), (5, vi s'.2)] [] I) (hx : ∀ x, u = .inr x → zW X T mX12_manyApart 76 [(4, vi x.1)] [] I) : zW X T mX12_manyApart 49 [(0, .ref (zad X (50, 0, 0))), (1, vi v1), (2, vi v2), (3, vi w3), (4, vi w4), (5, vi w5)] [] I := by
  unfold fX12_manyApart_b20_49 at hf
  refine zW_iload 4 dX12_manyApart_49 rfl ?_
  refine zW_aload_n 0 dX12_manyApart_51 rfl ?_
  refine zW_iload 5 dX12_manyApart_52 rfl ?_
  refine zW_iload_n 3 dX12_manyApart_54 rfl ?_
  refine zC_Vri (As := [vi w5, vi w3]) (fun x hx => kX12_apart hw (v1 := w5) (v2 := w3) o hx) mv_RX12_120 (hw.1 _ o) rfl rfl rfl rfl rfl dX12_manyApart_55 hf (fun r1 hf => ?_)
  refine zW_iload_n 2 dX12_manyApart_58 rfl ?_
  refine zF_icmp_ne 66 dX12_manyApart_59 rfl rfl rfl hf (fun c hf => ?_) (fun c hf => ?_)
  · refine zW_iconst dX12_manyApart_62 ?_
    refine zW_goto 67 dX12_manyApart_63 rfl ?_
    refine zW_sub [0, 1, 2, 3, 5] rfl ?_
    exact tX12_manyApart_b20_67 hw o hf hk hx
  · refine zW_iconst dX12_manyApart_66 ?_
    refine zW_sub [0, 1, 2, 3, 5] rfl ?_
    exact tX12_manyApart_b20_67 hw o hf hk hx
set_option maxRecDepth 100000 in
theorem tX12_manyApart_l20_y {X : zX} {e : Nat → Prop} (hw : zWf X e) {T : zT} {v1 : Int} {v2 : Int} {I : zMem} {w3 : Int} (o : zOk e (50, 0, 0)) (s : (Int × Int)) {u : ((Int × Int) ⊕ (Int × Int))} (hf : fX12_manyApart_l20 v1 v2 I w3 s = some u) (hk : ∀ s', u = .inl s' → zW X T mX12_manyApart 20 [(0, .ref (zad X (50, 0, 0))), (1, vi v1), (2, vi v2), (3, vi w3), (4, vi s'.1), (5, vi s'.2)] [] I) (hx : ∀ x, u = .inr x → zW X T mX12_manyApart 76 [(4, vi x.1)] [] I) : zW X T mX12_manyApart 20 [(0, .ref (zad X (50, 0, 0))), (1, vi v1), (2, vi v2), (3, vi w3), (4, vi s.1), (5, vi s.2)] [] I := by
  unfold fX12_manyApart_l20 at hf
  refine zW_iload 5 dX12_manyApart_20 rfl ?_
  refine zW_sipush dX12_manyApart_22 rfl ?_
  refine zF_icmp_ge 76 dX12_manyApart_25 rfl rfl (w32_lit _ rfl) hf (fun c hf => ?_) (fun c hf => ?_)
  · refine zW_sub [4] rfl ?_
    exact hx _ (Option.some.inj hf).symm
  · refine zW_iload 5 dX12_manyApart_28 rfl ?_
    refine zW_iload_n 3 dX12_manyApart_30 rfl ?_
    refine zF_icmp_eq 70 dX12_manyApart_31 rfl rfl rfl hf (fun c hf => ?_) (fun c hf => ?_)
    · refine zW_sub [0, 1, 2, 3, 4, 5] rfl ?_
      exact tX12_manyApart_b20_70 hw o hf hk hx
    · refine zW_iload_n 1 dX12_manyApart_34 rfl ?_
      refine zF_if_eq 49 dX12_manyApart_35 rfl rfl hf (fun c hf => ?_) (fun c hf => ?_)
      · refine zW_sub [0, 1, 2, 3, 4, 5] rfl ?_
        exact tX12_manyApart_b20_49 hw o hf hk hx
      · refine zW_iload 5 dX12_manyApart_38 rfl ?_
        refine zC_Sri (As := [vi s.2]) (fun x hx => kX12_isWhole hw (v0 := s.2)  hx) ms_RX12_116 rfl rfl rfl rfl dX12_manyApart_40 hf (fun r3 hf => ?_)
        refine zF_if_ne 49 dX12_manyApart_43 rfl rfl hf (fun c hf => ?_) (fun c hf => ?_)
        · refine zW_goto 70 dX12_manyApart_46 rfl ?_
          refine zW_sub [0, 1, 2, 3, 4, 5] rfl ?_
          exact tX12_manyApart_b20_70 hw o hf hk hx
        · refine zW_sub [0, 1, 2, 3, 4, 5] rfl ?_
          exact tX12_manyApart_b20_49 hw o hf hk hx
theorem tX12_manyApart_l20 {X : zX} {e : Nat → Prop} (hw : zWf X e) {T : zT} {v1 : Int} {v2 : Int} {I : zMem} {w3 : Int} (o : zOk e (50, 0, 0)) {s0 : (Int × Int)} {α : Type} {F : (Int × Int) → Option α} {u : α} (hf : zb (zlp (fX12_manyApart_l20 v1 v2 I w3) 5000 s0) F = some u) (kx : ∀ x, F x = some u → zW X T mX12_manyApart 76 [(4, vi x.1)] [] I) : zW X T mX12_manyApart 20 [(0, .ref (zad X (50, 0, 0))), (1, vi v1), (2, vi v2), (3, vi w3), (4, vi s0.1), (5, vi s0.2)] [] I := by
  obtain ⟨x, h, hf⟩ := zb_inv hf
  exact zlp_W (P := fun s => zW X T mX12_manyApart 20 [(0, .ref (zad X (50, 0, 0))), (1, vi v1), (2, vi v2), (3, vi w3), (4, vi s.1), (5, vi s.2)] [] I) (E := fun x => zW X T mX12_manyApart 76 [(4, vi x.1)] [] I) (fun s u h hk hx => tX12_manyApart_l20_y hw o s h hk hx) _ s0 x h (kx x hf)
set_option maxRecDepth 100000 in
theorem tX12_manyApart_b13 {X : zX} {e : Nat → Prop} (hw : zWf X e) {v1 : Int} {v2 : Int} {I : zMem} {k0 : Int} (o : zOk e (50, 0, 0)) {u : Int} (hf : fX12_manyApart_b13 v1 v2 I k0 = some u) : zW X (some (vi u), I) mX12_manyApart 13 [(0, .ref (zad X (50, 0, 0))), (1, vi v1), (2, vi v2)] [vi k0] I := by
  unfold fX12_manyApart_b13 at hf
  refine zW_istore_n (lv' := [(3, vi k0), (0, .ref (zad X (50, 0, 0))), (1, vi v1), (2, vi v2)]) dX12_manyApart_13 rfl rfl ?_
  refine zW_iconst dX12_manyApart_14 ?_
  refine zW_istore (lv' := [(4, vi 0), (3, vi k0), (0, .ref (zad X (50, 0, 0))), (1, vi v1), (2, vi v2)]) dX12_manyApart_15 rfl rfl ?_
  refine zW_iconst dX12_manyApart_17 ?_
  refine zW_istore (lv' := [(5, vi 0), (4, vi 0), (3, vi k0), (0, .ref (zad X (50, 0, 0))), (1, vi v1), (2, vi v2)]) dX12_manyApart_18 rfl rfl ?_
  refine zW_sub [3, 4, 5, 2, 1, 0] rfl ?_
  refine tX12_manyApart_l20 hw o (s0 := (0, 0)) hf (fun x4 hf => ?_)
  refine zW_iload 0 dX12_manyApart_76 rfl ?_
  exact zS_i hw rfl dX12_manyApart_78 hf
set_option maxRecDepth 100000 in
theorem tX12_manyApart_0 {X : zX} {e : Nat → Prop} (hw : zWf X e) {v1 : Int} {v2 : Int} (o : zOk e (50, 0, 0)) {I : zMem} {u : Int} (hf : fX12_manyApart v1 v2 I = some u) : zW X (some (vi u), I) mX12_manyApart 0 [(0, .ref (zad X (50, 0, 0))), (1, vi v1), (2, vi v2)] [] I := by
  unfold fX12_manyApart at hf
  refine zW_iload_n 1 dX12_manyApart_0 rfl ?_
  refine zF_if_eq 12 dX12_manyApart_1 rfl rfl hf (fun c hf => ?_) (fun c hf => ?_)
  · refine zW_iconst dX12_manyApart_12 ?_
    refine zW_sub [0, 1, 2] rfl ?_
    exact tX12_manyApart_b13 hw o hf
  · refine zW_iconst dX12_manyApart_4 ?_
    refine zW_iconst dX12_manyApart_5 ?_
    refine zC_Sri (As := [vi 0, vi 0]) (fun x hx => kX12_wordOf hw (v0 := 0) (v1 := 0)  hx) ms_RX12_112 rfl rfl rfl rfl dX12_manyApart_6 hf (fun r5 hf => ?_)
    refine zW_goto 13 dX12_manyApart_9 rfl ?_
    refine zW_sub [0, 1, 2] rfl ?_
    exact tX12_manyApart_b13 hw o hf
theorem kX12_manyApart {X : zX} {e : Nat → Prop} (hw : zWf X e) {v1 : Int} {v2 : Int} (o : zOk e (50, 0, 0)) {I : zMem} {u : Int} (hf : fX12_manyApart v1 v2 I = some u) : zCn X mX12_manyApart yX12_manyApart [.ref (zad X (50, 0, 0)), vi v1, vi v2] I (some (vi u), I) := zCn_of (by decide +kernel) rfl rfl ⟨rfl, rfl⟩ (tX12_manyApart_0 hw.N o hf)
set_option maxRecDepth 100000 in
theorem tX12_word_b37 {X : zX} {e : Nat → Prop} (hw : zWf X e) {v1 : Int} {v2 : Int} {I : zMem} (o : zOk e (50, 0, 0)) {u : (Int × zMem)} (hf : fX12_word_b37 v1 v2 I = some u) : zW X (some (vi u.1), u.2) mX12_word 37 [] [] I := by
  unfold fX12_word_b37 at hf
  refine zW_bipush dX12_word_37 rfl ?_
  exact zR_i hw rfl dX12_word_39 hf
set_option maxRecDepth 100000 in
theorem tX12_word_0 {X : zX} {e : Nat → Prop} (hw : zWf X e) {v1 : Int} {v2 : Int} (o : zOk e (50, 0, 0)) {I : zMem} {u : (Int × zMem)} (hf : fX12_word v1 v2 I = some u) : zW X (some (vi u.1), u.2) mX12_word 0 [(0, .ref (zad X (50, 0, 0))), (1, vi v1), (2, vi v2)] [] I := by
  unfold fX12_word at hf
  refine zW_aload_n 0 dX12_word_0 rfl ?_
  refine zW_iconst dX12_word_1 ?_
  refine zF_put lk_RX12_1 (hw.1 _ o) rfl rfl (zn_int _) dX12_word_2 hf (fun I1 hf => ?_)
  refine zW_iload_n 1 dX12_word_5 rfl ?_
  refine zW_i2l dX12_word_6 ?_
  refine zW_lconst0 dX12_word_7 ?_
  refine zW_ldc2 dX12_word_8 wc_RX12_123 ?_
  refine zC_Sri (As := [vl (w32 v1), vl 0, vl 7]) (fun x hx => kX12_within hw (v0 := w32 v1) (v2 := 0) (v4 := 7)  hx) ms_RX12_94 rfl rfl rfl rfl dX12_word_11 hf (fun r2 hf => ?_)
  refine zF_if_eq 37 dX12_word_14 rfl rfl hf (fun c hf => ?_) (fun c hf => ?_)
  · refine zW_sub [] rfl ?_
    exact tX12_word_b37 hw o hf
  · refine zW_iload_n 2 dX12_word_17 rfl ?_
    refine zW_i2l dX12_word_18 ?_
    refine zW_lconst0 dX12_word_19 ?_
    refine zW_ldc2 dX12_word_20 wc_RX12_125 ?_
    refine zC_Sri (As := [vl (w32 v2), vl 0, vl 31]) (fun x hx => kX12_within hw (v0 := w32 v2) (v2 := 0) (v4 := 31)  hx) ms_RX12_94 rfl rfl rfl rfl dX12_word_23 hf (fun r3 hf => ?_)
    refine zF_if_eq 37 dX12_word_26 rfl rfl hf (fun c hf => ?_) (fun c hf => ?_)
    · refine zW_sub [] rfl ?_
      exact tX12_word_b37 hw o hf
    · refine zW_iload_n 1 dX12_word_29 rfl ?_
      refine zW_iload_n 2 dX12_word_30 rfl ?_
      refine zC_Sri (As := [vi v1, vi v2]) (fun x hx => kX12_wordOf hw (v0 := v1) (v1 := v2)  hx) ms_RX12_112 rfl rfl rfl rfl dX12_word_31 hf (fun r4 hf => ?_)
      refine zW_goto 39 dX12_word_34 rfl ?_
      exact zR_i hw rfl dX12_word_39 hf
theorem kX12_word {X : zX} {e : Nat → Prop} (hw : zWf X e) {v1 : Int} {v2 : Int} (o : zOk e (50, 0, 0)) {I : zMem} {u : (Int × zMem)} (hf : fX12_word v1 v2 I = some u) : zCn X mX12_word yX12_word [.ref (zad X (50, 0, 0)), vi v1, vi v2] I (some (vi u.1), u.2) := zCn_of (by decide +kernel) rfl rfl ⟨rfl, rfl⟩ (tX12_word_0 hw.N o hf)
set_option maxRecDepth 100000 in
theorem tX12_whole_0 {X : zX} {e : Nat → Prop} (hw : zWf X e) {v1 : Int} (o : zOk e (50, 0, 0)) {I : zMem} {u : (Int × zMem)} (hf : fX12_whole v1 I = some u) : zW X (some (vi u.1), u.2) mX12_whole 0 [(0, .ref (zad X (50, 0, 0))), (1, vi v1)] [] I := by
  unfold fX12_whole at hf
  refine zW_aload_n 0 dX12_whole_0 rfl ?_
  refine zW_iconst dX12_whole_1 ?_
  refine zF_put lk_RX12_1 (hw.1 _ o) rfl rfl (zn_int _) dX12_whole_2 hf (fun I1 hf => ?_)
  refine zW_iload_n 1 dX12_whole_5 rfl ?_
  refine zC_Sri (As := [vi v1]) (fun x hx => kX12_isWord hw (v0 := v1)  hx) ms_RX12_127 rfl rfl rfl rfl dX12_whole_6 hf (fun r2 hf => ?_)
  refine zF_if_ne 17 dX12_whole_9 rfl rfl hf (fun c hf => ?_) (fun c hf => ?_)
  · refine zW_bipush dX12_whole_12 rfl ?_
    refine zW_goto 29 dX12_whole_14 rfl ?_
    exact zR_i hw rfl dX12_whole_29 hf
  · refine zW_iload_n 1 dX12_whole_17 rfl ?_
    refine zC_Sri (As := [vi v1]) (fun x hx => kX12_isWhole hw (v0 := v1)  hx) ms_RX12_116 rfl rfl rfl rfl dX12_whole_18 hf (fun r3 hf => ?_)
    refine zF_if_eq 28 dX12_whole_21 rfl rfl hf (fun c hf => ?_) (fun c hf => ?_)
    · refine zW_iconst dX12_whole_28 ?_
      exact zR_i hw rfl dX12_whole_29 hf
    · refine zW_iconst dX12_whole_24 ?_
      refine zW_goto 29 dX12_whole_25 rfl ?_
      exact zR_i hw rfl dX12_whole_29 hf
theorem kX12_whole {X : zX} {e : Nat → Prop} (hw : zWf X e) {v1 : Int} (o : zOk e (50, 0, 0)) {I : zMem} {u : (Int × zMem)} (hf : fX12_whole v1 I = some u) : zCn X mX12_whole yX12_whole [.ref (zad X (50, 0, 0)), vi v1] I (some (vi u.1), u.2) := zCn_of (by decide +kernel) rfl rfl ⟨rfl, rfl⟩ (tX12_whole_0 hw.N o hf)
set_option maxRecDepth 100000 in
theorem tX12_bits_0 {X : zX} {e : Nat → Prop} (hw : zWf X e) {v1 : Int} (o : zOk e (50, 0, 0)) {I : zMem} {u : (Int × zMem)} (hf : fX12_bits v1 I = some u) : zW X (some (vl u.1), u.2) mX12_bits 0 [(0, .ref (zad X (50, 0, 0))), (1, vi v1)] [] I := by
  unfold fX12_bits at hf
  refine zW_aload_n 0 dX12_bits_0 rfl ?_
  refine zW_iconst dX12_bits_1 ?_
  refine zF_put lk_RX12_1 (hw.1 _ o) rfl rfl (zn_int _) dX12_bits_2 hf (fun I1 hf => ?_)
  refine zW_iload_n 1 dX12_bits_5 rfl ?_
  refine zC_Sri (As := [vi v1]) (fun x hx => kX12_isWord hw (v0 := v1)  hx) ms_RX12_127 rfl rfl rfl rfl dX12_bits_6 hf (fun r2 hf => ?_)
  refine zF_if_eq 21 dX12_bits_9 rfl rfl hf (fun c hf => ?_) (fun c hf => ?_)
  · refine zW_ldc2 dX12_bits_21 wc_RX12_130 ?_
    exact zR_l hw rfl dX12_bits_24 hf
  · refine zW_aload_n 0 dX12_bits_12 rfl ?_
    refine zW_getR (q' := (54, 0, 0)) lk_RX12_24 (hw.1 _ o) rfl rfl (hw.2.1 _ _ _ o rfl) dX12_bits_13 ?_
    refine zW_iload_n 1 dX12_bits_16 rfl ?_
    obtain ⟨c3, hf⟩ := zgd hf
    refine zF_lald (hw.1 _ (zokM (r' := 54) o rfl rfl)) rfl c3 rfl dX12_bits_17 ?_
    refine zW_goto 24 dX12_bits_18 rfl ?_
    exact zR_l hw rfl dX12_bits_24 hf
theorem kX12_bits {X : zX} {e : Nat → Prop} (hw : zWf X e) {v1 : Int} (o : zOk e (50, 0, 0)) {I : zMem} {u : (Int × zMem)} (hf : fX12_bits v1 I = some u) : zCn X mX12_bits yX12_bits [.ref (zad X (50, 0, 0)), vi v1] I (some (vl u.1), u.2) := zCn_of (by decide +kernel) rfl rfl ⟨rfl, rfl⟩ (tX12_bits_0 hw.N o hf)
set_option maxRecDepth 100000 in
theorem tX12_place_0 {X : zX} {e : Nat → Prop} (hw : zWf X e) {v1 : Int} (o : zOk e (50, 0, 0)) {I : zMem} {u : (Int × zMem)} (hf : fX12_place v1 I = some u) : zW X (some (vi u.1), u.2) mX12_place 0 [(0, .ref (zad X (50, 0, 0))), (1, vi v1)] [] I := by
  unfold fX12_place at hf
  refine zW_aload_n 0 dX12_place_0 rfl ?_
  refine zW_iconst dX12_place_1 ?_
  refine zF_put lk_RX12_1 (hw.1 _ o) rfl rfl (zn_int _) dX12_place_2 hf (fun I1 hf => ?_)
  refine zW_iload_n 1 dX12_place_5 rfl ?_
  refine zW_i2l dX12_place_6 ?_
  refine zW_lconst0 dX12_place_7 ?_
  refine zW_aload_n 0 dX12_place_8 rfl ?_
  refine zW_getR (q' := (51, 0, 0)) lk_RX12_13 (hw.1 _ o) rfl rfl (hw.2.1 _ _ _ o rfl) dX12_place_9 ?_
  refine zW_iconst dX12_place_12 ?_
  refine zF_iald (hw.1 _ (zokM (r' := 51) o rfl rfl)) rfl (zin_lit _ _ rfl) (ix_lit _ rfl) dX12_place_13 ?_
  refine zW_iconst dX12_place_14 ?_
  refine zW_isub dX12_place_15 ?_
  refine zW_i2l dX12_place_16 ?_
  refine zC_Sri (As := [vl (w32 v1), vl 0, vl (w32 ((I1 (51, 0, 0) 4) - 1))]) (fun x hx => kX12_within hw (v0 := w32 v1) (v2 := 0) (v4 := w32 ((I1 (51, 0, 0) 4) - 1))  hx) ms_RX12_94 rfl rfl rfl rfl dX12_place_17 hf (fun r2 hf => ?_)
  refine zF_if_eq 32 dX12_place_20 rfl rfl hf (fun c hf => ?_) (fun c hf => ?_)
  · refine zW_bipush dX12_place_32 rfl ?_
    exact zR_i hw rfl dX12_place_34 hf
  · refine zW_aload_n 0 dX12_place_23 rfl ?_
    refine zW_getR (q' := (55, 0, 0)) lk_RX12_28 (hw.1 _ o) rfl rfl (hw.2.1 _ _ _ o rfl) dX12_place_24 ?_
    refine zW_iload_n 1 dX12_place_27 rfl ?_
    obtain ⟨c3, hf⟩ := zgd hf
    refine zF_iald (hw.1 _ (zokM (r' := 55) o rfl rfl)) rfl c3 rfl dX12_place_28 ?_
    refine zW_goto 34 dX12_place_29 rfl ?_
    exact zR_i hw rfl dX12_place_34 hf
theorem kX12_place {X : zX} {e : Nat → Prop} (hw : zWf X e) {v1 : Int} (o : zOk e (50, 0, 0)) {I : zMem} {u : (Int × zMem)} (hf : fX12_place v1 I = some u) : zCn X mX12_place yX12_place [.ref (zad X (50, 0, 0)), vi v1] I (some (vi u.1), u.2) := zCn_of (by decide +kernel) rfl rfl ⟨rfl, rfl⟩ (tX12_place_0 hw.N o hf)
set_option maxRecDepth 100000 in
theorem tX12_sent_0 {X : zX} {e : Nat → Prop} (hw : zWf X e) {v1 : Int} {v2 : Int} {v3 : Int} (o : zOk e (50, 0, 0)) {I : zMem} {u : (Int × zMem)} (hf : fX12_sent v1 v2 v3 I = some u) : zW X (some (vi u.1), u.2) mX12_sent 0 [(0, .ref (zad X (50, 0, 0))), (1, vi v1), (2, vi v2), (3, vi v3)] [] I := by
  unfold fX12_sent at hf
  refine zW_aload_n 0 dX12_sent_0 rfl ?_
  refine zW_iconst dX12_sent_1 ?_
  refine zF_put lk_RX12_1 (hw.1 _ o) rfl rfl (zn_int _) dX12_sent_2 hf (fun I1 hf => ?_)
  refine zW_iload_n 1 dX12_sent_5 rfl ?_
  refine zW_i2l dX12_sent_6 ?_
  refine zW_lconst0 dX12_sent_7 ?_
  refine zW_ldc2 dX12_sent_8 wc_RX12_132 ?_
  refine zC_Sri (As := [vl (w32 v1), vl 0, vl 3]) (fun x hx => kX12_within hw (v0 := w32 v1) (v2 := 0) (v4 := 3)  hx) ms_RX12_94 rfl rfl rfl rfl dX12_sent_11 hf (fun r2 hf => ?_)
  refine zF_if_ne 20 dX12_sent_14 rfl rfl hf (fun c hf => ?_) (fun c hf => ?_)
  · refine zW_bipush dX12_sent_17 rfl ?_
    exact zR_i hw rfl dX12_sent_19 hf
  · refine zW_iload_n 2 dX12_sent_20 rfl ?_
    refine zC_Sri (As := [vi v2]) (fun x hx => kX12_isLength hw (v0 := v2)  hx) ms_RX12_134 rfl rfl rfl rfl dX12_sent_21 hf (fun r3 hf => ?_)
    refine zF_if_eq 31 dX12_sent_24 rfl rfl hf (fun c hf => ?_) (fun c hf => ?_)
    · refine zW_bipush dX12_sent_31 rfl ?_
      exact zR_i hw rfl dX12_sent_33 hf
    · refine zW_iload_n 3 dX12_sent_27 rfl ?_
      refine zF_if_ge 34 dX12_sent_28 rfl rfl hf (fun c hf => ?_) (fun c hf => ?_)
      · refine zW_aload_n 0 dX12_sent_34 rfl ?_
        refine zW_iload_n 1 dX12_sent_35 rfl ?_
        refine zW_iload_n 2 dX12_sent_36 rfl ?_
        refine zC_Vwv (As := [vi v1, vi v2]) (fun x hx => kX12_laysSending hw (v1 := v1) (v2 := v2) o hx) mv_RX12_102 (hw.1 _ o) rfl rfl rfl rfl rfl dX12_sent_37 hf (fun r4 hf => ?_)
        refine zW_iload_n 3 dX12_sent_40 rfl ?_
        refine zW_iload_n 2 dX12_sent_41 rfl ?_
        refine zF_icmp_ge 54 dX12_sent_42 rfl rfl rfl hf (fun c hf => ?_) (fun c hf => ?_)
        · refine zW_iconst dX12_sent_54 ?_
          exact zR_i hw rfl dX12_sent_55 hf
        · refine zW_aload_n 0 dX12_sent_45 rfl ?_
          refine zW_getR (q' := (56, 0, 0)) lk_RX12_31 (hw.1 _ o) rfl rfl (hw.2.1 _ _ _ o rfl) dX12_sent_46 ?_
          refine zW_iload_n 3 dX12_sent_49 rfl ?_
          obtain ⟨c5, hf⟩ := zgd hf
          refine zF_iald (hw.1 _ (zokM (r' := 56) o rfl rfl)) rfl c5 rfl dX12_sent_50 ?_
          refine zW_goto 55 dX12_sent_51 rfl ?_
          exact zR_i hw rfl dX12_sent_55 hf
      · refine zW_bipush dX12_sent_31 rfl ?_
        exact zR_i hw rfl dX12_sent_33 hf
theorem kX12_sent {X : zX} {e : Nat → Prop} (hw : zWf X e) {v1 : Int} {v2 : Int} {v3 : Int} (o : zOk e (50, 0, 0)) {I : zMem} {u : (Int × zMem)} (hf : fX12_sent v1 v2 v3 I = some u) : zCn X mX12_sent yX12_sent [.ref (zad X (50, 0, 0)), vi v1, vi v2, vi v3] I (some (vi u.1), u.2) := zCn_of (by decide +kernel) rfl rfl ⟨rfl, rfl⟩ (tX12_sent_0 hw.N o hf)
set_option maxRecDepth 100000 in
theorem tX12_covers_b33_56 {X : zX} {e : Nat → Prop} (hw : zWf X e) {T : zT} {v1 : Int} {v2 : Int} {I : zMem} {w4 : Int} {k0 : Int} {k1 : Int} (o : zOk e (50, 0, 0)) {u : ((Int × Int) ⊕ (Int × Int))} (hf : fX12_covers_b33_56 v1 v2 I w4 k0 k1 = some u) (hk : ∀ s', u = .inl s' → zW X T mX12_covers 33 [(0, .ref (zad X (50, 0, 0))), (3, vi s'.1), (4, vi s'.2)] [] I) (hx : ∀ x, u = .inr x → zW X T mX12_covers 64 [(3, vi x.1)] [] I) : zW X T mX12_covers 56 [(0, .ref (zad X (50, 0, 0))), (4, vi w4)] [vi k0, vi k1] I := by
  unfold fX12_covers_b33_56 at hf
  refine zW_iadd dX12_covers_56 ?_
  refine zF_istore_n (lv' := fun a6 => [(3, vi a6), (0, .ref (zad X (50, 0, 0))), (4, vi w4)]) dX12_covers_57 hf (fun _ => rfl) rfl (fun a6 hf => ?_)
  refine zW_iinc 2 (lv' := [(4, vi (w4 + 1)), (3, vi a6), (0, .ref (zad X (50, 0, 0)))]) dX12_covers_58 rfl rfl rfl ?_
  refine zW_goto 33 dX12_covers_61 rfl ?_
  refine zW_sub [2, 1, 0] rfl ?_
  exact hk _ (Option.some.inj hf).symm
set_option maxRecDepth 100000 in
theorem tX12_covers_l33_y {X : zX} {e : Nat → Prop} (hw : zWf X e) {T : zT} {v1 : Int} {v2 : Int} {I : zMem} (o : zOk e (50, 0, 0)) (s : (Int × Int)) {u : ((Int × Int) ⊕ (Int × Int))} (hf : fX12_covers_l33 v1 v2 I s = some u) (hk : ∀ s', u = .inl s' → zW X T mX12_covers 33 [(0, .ref (zad X (50, 0, 0))), (3, vi s'.1), (4, vi s'.2)] [] I) (hx : ∀ x, u = .inr x → zW X T mX12_covers 64 [(3, vi x.1)] [] I) : zW X T mX12_covers 33 [(0, .ref (zad X (50, 0, 0))), (3, vi s.1), (4, vi s.2)] [] I := by
  unfold fX12_covers_l33 at hf
  refine zW_iload 2 dX12_covers_33 rfl ?_
  refine zW_bipush dX12_covers_35 rfl ?_
  refine zF_icmp_ge 64 dX12_covers_37 rfl rfl (w32_lit _ rfl) hf (fun c hf => ?_) (fun c hf => ?_)
  · refine zW_sub [1] rfl ?_
    exact hx _ (Option.some.inj hf).symm
  · refine zW_iload_n 1 dX12_covers_40 rfl ?_
    refine zW_aload_n 0 dX12_covers_41 rfl ?_
    refine zW_getR (q' := (57, 0, 0)) lk_RX12_34 (hw.1 _ o) rfl rfl (hw.2.1 _ _ _ o rfl) dX12_covers_42 ?_
    refine zW_iload 2 dX12_covers_45 rfl ?_
    obtain ⟨c5, hf⟩ := zgd hf
    refine zF_iald (hw.1 _ (zokM (r' := 57) o rfl rfl)) rfl c5 rfl dX12_covers_47 ?_
    refine zF_if_le 55 dX12_covers_48 rfl rfl hf (fun c hf => ?_) (fun c hf => ?_)
    · refine zW_iconst dX12_covers_55 ?_
      refine zW_sub [0, 2] rfl ?_
      exact tX12_covers_b33_56 hw o hf hk hx
    · refine zW_iconst dX12_covers_51 ?_
      refine zW_goto 56 dX12_covers_52 rfl ?_
      refine zW_sub [0, 2] rfl ?_
      exact tX12_covers_b33_56 hw o hf hk hx
theorem tX12_covers_l33 {X : zX} {e : Nat → Prop} (hw : zWf X e) {T : zT} {v1 : Int} {v2 : Int} {I : zMem} (o : zOk e (50, 0, 0)) {s0 : (Int × Int)} {α : Type} {F : (Int × Int) → Option α} {u : α} (hf : zb (zlp (fX12_covers_l33 v1 v2 I) 5000 s0) F = some u) (kx : ∀ x, F x = some u → zW X T mX12_covers 64 [(3, vi x.1)] [] I) : zW X T mX12_covers 33 [(0, .ref (zad X (50, 0, 0))), (3, vi s0.1), (4, vi s0.2)] [] I := by
  obtain ⟨x, h, hf⟩ := zb_inv hf
  exact zlp_W (P := fun s => zW X T mX12_covers 33 [(0, .ref (zad X (50, 0, 0))), (3, vi s.1), (4, vi s.2)] [] I) (E := fun x => zW X T mX12_covers 64 [(3, vi x.1)] [] I) (fun s u h hk hx => tX12_covers_l33_y hw o s h hk hx) _ s0 x h (kx x hf)
set_option maxRecDepth 100000 in
theorem tX12_covers_0 {X : zX} {e : Nat → Prop} (hw : zWf X e) {v1 : Int} {v2 : Int} (o : zOk e (50, 0, 0)) {I : zMem} {u : (Int × zMem)} (hf : fX12_covers v1 v2 I = some u) : zW X (some (vi u.1), u.2) mX12_covers 0 [(0, .ref (zad X (50, 0, 0))), (1, vi v1), (2, vi v2)] [] I := by
  unfold fX12_covers at hf
  refine zW_aload_n 0 dX12_covers_0 rfl ?_
  refine zW_iconst dX12_covers_1 ?_
  refine zF_put lk_RX12_1 (hw.1 _ o) rfl rfl (zn_int _) dX12_covers_2 hf (fun I1 hf => ?_)
  refine zW_iload_n 1 dX12_covers_5 rfl ?_
  refine zC_Sri (As := [vi v1]) (fun x hx => kX12_isSet hw (v0 := v1)  hx) ms_RX12_137 rfl rfl rfl rfl dX12_covers_6 hf (fun r2 hf => ?_)
  refine zF_if_eq 19 dX12_covers_9 rfl rfl hf (fun c hf => ?_) (fun c hf => ?_)
  · refine zW_bipush dX12_covers_19 rfl ?_
    exact zR_i hw rfl dX12_covers_21 hf
  · refine zW_iload_n 2 dX12_covers_12 rfl ?_
    refine zC_Sri (As := [vi v2]) (fun x hx => kX12_isLength hw (v0 := v2)  hx) ms_RX12_134 rfl rfl rfl rfl dX12_covers_13 hf (fun r3 hf => ?_)
    refine zF_if_ne 22 dX12_covers_16 rfl rfl hf (fun c hf => ?_) (fun c hf => ?_)
    · refine zW_bipush dX12_covers_19 rfl ?_
      exact zR_i hw rfl dX12_covers_21 hf
    · refine zW_aload_n 0 dX12_covers_22 rfl ?_
      refine zW_iload_n 1 dX12_covers_23 rfl ?_
      refine zW_iload_n 2 dX12_covers_24 rfl ?_
      refine zC_Vwv (As := [vi v1, vi v2]) (fun x hx => kX12_laysOften hw (v1 := v1) (v2 := v2) o hx) mv_RX12_140 (hw.1 _ o) rfl rfl rfl rfl rfl dX12_covers_25 hf (fun r4 hf => ?_)
      refine zW_iconst dX12_covers_28 ?_
      refine zW_istore_n (lv' := [(3, vi 0), (0, .ref (zad X (50, 0, 0))), (1, vi v1), (2, vi v2)]) dX12_covers_29 rfl rfl ?_
      refine zW_iconst dX12_covers_30 ?_
      refine zW_istore (lv' := [(4, vi 0), (3, vi 0), (0, .ref (zad X (50, 0, 0))), (1, vi v1), (2, vi v2)]) dX12_covers_31 rfl rfl ?_
      refine zW_sub [2, 1, 0] rfl ?_
      refine tX12_covers_l33 hw o (s0 := (0, 0)) hf (fun x7 hf => ?_)
      refine zW_iload_n 0 dX12_covers_64 rfl ?_
      exact zR_i hw rfl dX12_covers_65 hf
theorem kX12_covers {X : zX} {e : Nat → Prop} (hw : zWf X e) {v1 : Int} {v2 : Int} (o : zOk e (50, 0, 0)) {I : zMem} {u : (Int × zMem)} (hf : fX12_covers v1 v2 I = some u) : zCn X mX12_covers yX12_covers [.ref (zad X (50, 0, 0)), vi v1, vi v2] I (some (vi u.1), u.2) := zCn_of (by decide +kernel) rfl rfl ⟨rfl, rfl⟩ (tX12_covers_0 hw.N o hf)
set_option maxRecDepth 100000 in
theorem tX12_lacks_b34_60 {X : zX} {e : Nat → Prop} (hw : zWf X e) {T : zT} {v1 : Int} {v2 : Int} {I : zMem} {w5 : Int} {k0 : Int} {k1 : Int} (o : zOk e (50, 0, 0)) {u : ((Int × Int) ⊕ (Int × Int))} (hf : fX12_lacks_b34_60 v1 v2 I w5 k0 k1 = some u) (hk : ∀ s', u = .inl s' → zW X T mX12_lacks 34 [(0, .ref (zad X (50, 0, 0))), (3, vl s'.1), (5, vi s'.2)] [] I) (hx : ∀ x, u = .inr x → zW X T mX12_lacks 68 [(3, vl x.1)] [] I) : zW X T mX12_lacks 60 [(0, .ref (zad X (50, 0, 0))), (5, vi w5)] [vl k0, vl k1] I := by
  unfold fX12_lacks_b34_60 at hf
  refine zW_lor dX12_lacks_60 ?_
  refine zF_lstore_n (lv' := fun a6 => [(3, vl a6), (0, .ref (zad X (50, 0, 0))), (5, vi w5)]) dX12_lacks_61 hf (fun _ => rfl) rfl (fun a6 hf => ?_)
  refine zW_iinc 2 (lv' := [(5, vi (w5 + 1)), (3, vl a6), (0, .ref (zad X (50, 0, 0)))]) dX12_lacks_62 rfl rfl rfl ?_
  refine zW_goto 34 dX12_lacks_65 rfl ?_
  refine zW_sub [2, 1, 0] rfl ?_
  exact hk _ (Option.some.inj hf).symm
set_option maxRecDepth 100000 in
theorem tX12_lacks_l34_y {X : zX} {e : Nat → Prop} (hw : zWf X e) {T : zT} {v1 : Int} {v2 : Int} {I : zMem} (o : zOk e (50, 0, 0)) (s : (Int × Int)) {u : ((Int × Int) ⊕ (Int × Int))} (hf : fX12_lacks_l34 v1 v2 I s = some u) (hk : ∀ s', u = .inl s' → zW X T mX12_lacks 34 [(0, .ref (zad X (50, 0, 0))), (3, vl s'.1), (5, vi s'.2)] [] I) (hx : ∀ x, u = .inr x → zW X T mX12_lacks 68 [(3, vl x.1)] [] I) : zW X T mX12_lacks 34 [(0, .ref (zad X (50, 0, 0))), (3, vl s.1), (5, vi s.2)] [] I := by
  unfold fX12_lacks_l34 at hf
  refine zW_iload 2 dX12_lacks_34 rfl ?_
  refine zW_bipush dX12_lacks_36 rfl ?_
  refine zF_icmp_ge 68 dX12_lacks_38 rfl rfl (w32_lit _ rfl) hf (fun c hf => ?_) (fun c hf => ?_)
  · refine zW_sub [1] rfl ?_
    exact hx _ (Option.some.inj hf).symm
  · refine zW_lload_n 1 dX12_lacks_41 rfl ?_
    refine zW_aload_n 0 dX12_lacks_42 rfl ?_
    refine zW_getR (q' := (57, 0, 0)) lk_RX12_34 (hw.1 _ o) rfl rfl (hw.2.1 _ _ _ o rfl) dX12_lacks_43 ?_
    refine zW_iload 2 dX12_lacks_46 rfl ?_
    obtain ⟨c5, hf⟩ := zgd hf
    refine zF_iald (hw.1 _ (zokM (r' := 57) o rfl rfl)) rfl c5 rfl dX12_lacks_48 ?_
    refine zF_if_ne 59 dX12_lacks_49 rfl rfl hf (fun c hf => ?_) (fun c hf => ?_)
    · refine zW_lconst1 dX12_lacks_52 ?_
      refine zW_iload 2 dX12_lacks_53 rfl ?_
      refine zW_lshl dX12_lacks_55 ?_
      refine zW_goto 60 dX12_lacks_56 rfl ?_
      refine zW_sub [0, 2] rfl ?_
      exact tX12_lacks_b34_60 hw o hf hk hx
    · refine zW_lconst0 dX12_lacks_59 ?_
      refine zW_sub [0, 2] rfl ?_
      exact tX12_lacks_b34_60 hw o hf hk hx
theorem tX12_lacks_l34 {X : zX} {e : Nat → Prop} (hw : zWf X e) {T : zT} {v1 : Int} {v2 : Int} {I : zMem} (o : zOk e (50, 0, 0)) {s0 : (Int × Int)} {α : Type} {F : (Int × Int) → Option α} {u : α} (hf : zb (zlp (fX12_lacks_l34 v1 v2 I) 5000 s0) F = some u) (kx : ∀ x, F x = some u → zW X T mX12_lacks 68 [(3, vl x.1)] [] I) : zW X T mX12_lacks 34 [(0, .ref (zad X (50, 0, 0))), (3, vl s0.1), (5, vi s0.2)] [] I := by
  obtain ⟨x, h, hf⟩ := zb_inv hf
  exact zlp_W (P := fun s => zW X T mX12_lacks 34 [(0, .ref (zad X (50, 0, 0))), (3, vl s.1), (5, vi s.2)] [] I) (E := fun x => zW X T mX12_lacks 68 [(3, vl x.1)] [] I) (fun s u h hk hx => tX12_lacks_l34_y hw o s h hk hx) _ s0 x h (kx x hf)
set_option maxRecDepth 100000 in
theorem tX12_lacks_0 {X : zX} {e : Nat → Prop} (hw : zWf X e) {v1 : Int} {v2 : Int} (o : zOk e (50, 0, 0)) {I : zMem} {u : (Int × zMem)} (hf : fX12_lacks v1 v2 I = some u) : zW X (some (vl u.1), u.2) mX12_lacks 0 [(0, .ref (zad X (50, 0, 0))), (1, vi v1), (2, vi v2)] [] I := by
  unfold fX12_lacks at hf
  refine zW_aload_n 0 dX12_lacks_0 rfl ?_
  refine zW_iconst dX12_lacks_1 ?_
  refine zF_put lk_RX12_1 (hw.1 _ o) rfl rfl (zn_int _) dX12_lacks_2 hf (fun I1 hf => ?_)
  refine zW_iload_n 1 dX12_lacks_5 rfl ?_
  refine zC_Sri (As := [vi v1]) (fun x hx => kX12_isSet hw (v0 := v1)  hx) ms_RX12_137 rfl rfl rfl rfl dX12_lacks_6 hf (fun r2 hf => ?_)
  refine zF_if_eq 19 dX12_lacks_9 rfl rfl hf (fun c hf => ?_) (fun c hf => ?_)
  · refine zW_ldc2 dX12_lacks_19 wc_RX12_130 ?_
    exact zR_l hw rfl dX12_lacks_22 hf
  · refine zW_iload_n 2 dX12_lacks_12 rfl ?_
    refine zC_Sri (As := [vi v2]) (fun x hx => kX12_isLength hw (v0 := v2)  hx) ms_RX12_134 rfl rfl rfl rfl dX12_lacks_13 hf (fun r3 hf => ?_)
    refine zF_if_ne 23 dX12_lacks_16 rfl rfl hf (fun c hf => ?_) (fun c hf => ?_)
    · refine zW_ldc2 dX12_lacks_19 wc_RX12_130 ?_
      exact zR_l hw rfl dX12_lacks_22 hf
    · refine zW_aload_n 0 dX12_lacks_23 rfl ?_
      refine zW_iload_n 1 dX12_lacks_24 rfl ?_
      refine zW_iload_n 2 dX12_lacks_25 rfl ?_
      refine zC_Vwv (As := [vi v1, vi v2]) (fun x hx => kX12_laysOften hw (v1 := v1) (v2 := v2) o hx) mv_RX12_140 (hw.1 _ o) rfl rfl rfl rfl rfl dX12_lacks_26 hf (fun r4 hf => ?_)
      refine zW_lconst0 dX12_lacks_29 ?_
      refine zW_lstore_n (lv' := [(3, vl 0), (0, .ref (zad X (50, 0, 0))), (1, vi v1), (2, vi v2)]) dX12_lacks_30 rfl rfl ?_
      refine zW_iconst dX12_lacks_31 ?_
      refine zW_istore (lv' := [(5, vi 0), (3, vl 0), (0, .ref (zad X (50, 0, 0))), (1, vi v1), (2, vi v2)]) dX12_lacks_32 rfl rfl ?_
      refine zW_sub [2, 1, 0] rfl ?_
      refine tX12_lacks_l34 hw o (s0 := (0, 0)) hf (fun x7 hf => ?_)
      refine zW_lload_n 0 dX12_lacks_68 rfl ?_
      exact zR_l hw rfl dX12_lacks_69 hf
theorem kX12_lacks {X : zX} {e : Nat → Prop} (hw : zWf X e) {v1 : Int} {v2 : Int} (o : zOk e (50, 0, 0)) {I : zMem} {u : (Int × zMem)} (hf : fX12_lacks v1 v2 I = some u) : zCn X mX12_lacks yX12_lacks [.ref (zad X (50, 0, 0)), vi v1, vi v2] I (some (vl u.1), u.2) := zCn_of (by decide +kernel) rfl rfl ⟨rfl, rfl⟩ (tX12_lacks_0 hw.N o hf)
set_option maxRecDepth 100000 in
theorem tX12_between_0 {X : zX} {e : Nat → Prop} (hw : zWf X e) {v1 : Int} {v2 : Int} {v3 : Int} {v4 : Int} (o : zOk e (50, 0, 0)) {I : zMem} {u : (Int × zMem)} (hf : fX12_between v1 v2 v3 v4 I = some u) : zW X (some (vi u.1), u.2) mX12_between 0 [(0, .ref (zad X (50, 0, 0))), (1, vi v1), (2, vi v2), (3, vi v3), (4, vi v4)] [] I := by
  unfold fX12_between at hf
  refine zW_aload_n 0 dX12_between_0 rfl ?_
  refine zW_iconst dX12_between_1 ?_
  refine zF_put lk_RX12_1 (hw.1 _ o) rfl rfl (zn_int _) dX12_between_2 hf (fun I1 hf => ?_)
  refine zW_iload_n 1 dX12_between_5 rfl ?_
  refine zC_Sri (As := [vi v1]) (fun x hx => kX12_isWord hw (v0 := v1)  hx) ms_RX12_127 rfl rfl rfl rfl dX12_between_6 hf (fun r2 hf => ?_)
  refine zF_if_eq 34 dX12_between_9 rfl rfl hf (fun c hf => ?_) (fun c hf => ?_)
  · refine zW_bipush dX12_between_34 rfl ?_
    exact zR_i hw rfl dX12_between_36 hf
  · refine zW_iload_n 2 dX12_between_12 rfl ?_
    refine zC_Sri (As := [vi v2]) (fun x hx => kX12_isWord hw (v0 := v2)  hx) ms_RX12_127 rfl rfl rfl rfl dX12_between_13 hf (fun r3 hf => ?_)
    refine zF_if_eq 34 dX12_between_16 rfl rfl hf (fun c hf => ?_) (fun c hf => ?_)
    · refine zW_bipush dX12_between_34 rfl ?_
      exact zR_i hw rfl dX12_between_36 hf
    · refine zW_iload_n 3 dX12_between_19 rfl ?_
      refine zC_Sri (As := [vi v3]) (fun x hx => kX12_isSet hw (v0 := v3)  hx) ms_RX12_137 rfl rfl rfl rfl dX12_between_20 hf (fun r4 hf => ?_)
      refine zF_if_eq 34 dX12_between_23 rfl rfl hf (fun c hf => ?_) (fun c hf => ?_)
      · refine zW_bipush dX12_between_34 rfl ?_
        exact zR_i hw rfl dX12_between_36 hf
      · refine zW_iload 4 dX12_between_26 rfl ?_
        refine zC_Sri (As := [vi v4]) (fun x hx => kX12_isLength hw (v0 := v4)  hx) ms_RX12_134 rfl rfl rfl rfl dX12_between_28 hf (fun r5 hf => ?_)
        refine zF_if_ne 37 dX12_between_31 rfl rfl hf (fun c hf => ?_) (fun c hf => ?_)
        · refine zW_bipush dX12_between_34 rfl ?_
          exact zR_i hw rfl dX12_between_36 hf
        · refine zW_aload_n 0 dX12_between_37 rfl ?_
          refine zW_iload_n 3 dX12_between_38 rfl ?_
          refine zW_iload 4 dX12_between_39 rfl ?_
          refine zC_Vwv (As := [vi v3, vi v4]) (fun x hx => kX12_laysOften hw (v1 := v3) (v2 := v4) o hx) mv_RX12_140 (hw.1 _ o) rfl rfl rfl rfl rfl dX12_between_41 hf (fun r6 hf => ?_)
          refine zW_aload_n 0 dX12_between_44 rfl ?_
          refine zW_iload_n 1 dX12_between_45 rfl ?_
          refine zW_iload_n 2 dX12_between_46 rfl ?_
          refine zC_Vri (As := [vi v1, vi v2]) (fun x hx => kX12_apart hw (v1 := v1) (v2 := v2) o hx) mv_RX12_120 (hw.1 _ o) rfl rfl rfl rfl rfl dX12_between_47 hf (fun r7 hf => ?_)
          exact zR_i hw rfl dX12_between_50 hf
theorem kX12_between {X : zX} {e : Nat → Prop} (hw : zWf X e) {v1 : Int} {v2 : Int} {v3 : Int} {v4 : Int} (o : zOk e (50, 0, 0)) {I : zMem} {u : (Int × zMem)} (hf : fX12_between v1 v2 v3 v4 I = some u) : zCn X mX12_between yX12_between [.ref (zad X (50, 0, 0)), vi v1, vi v2, vi v3, vi v4] I (some (vi u.1), u.2) := zCn_of (by decide +kernel) rfl rfl ⟨rfl, rfl⟩ (tX12_between_0 hw.N o hf)
set_option maxRecDepth 100000 in
theorem tX12_distance_b55 {X : zX} {e : Nat → Prop} (hw : zWf X e) {v1 : Int} {v2 : Int} {v3 : Int} {k0 : Int} {I : zMem} (o : zOk e (50, 0, 0)) {u : (Int × zMem)} (hf : fX12_distance_b55 v1 v2 v3 k0 I = some u) : zW X (some (vi u.1), u.2) mX12_distance 55 [(0, .ref (zad X (50, 0, 0))), (3, vi v3)] [vi k0] I := by
  unfold fX12_distance_b55 at hf
  refine zW_istore (lv' := [(4, vi k0), (0, .ref (zad X (50, 0, 0))), (3, vi v3)]) dX12_distance_55 rfl rfl ?_
  refine zW_aload_n 1 dX12_distance_57 rfl ?_
  refine zW_iload 0 dX12_distance_58 rfl ?_
  refine zC_Vri (As := [vi k0]) (fun x hx => kX12_leastApart hw (v1 := k0) o hx) mv_RX12_143 (hw.1 _ o) rfl rfl rfl rfl rfl dX12_distance_60 hf (fun r6 hf => ?_)
  refine zW_istore (lv' := [(5, vi r6), (4, vi k0), (0, .ref (zad X (50, 0, 0))), (3, vi v3)]) dX12_distance_63 rfl rfl ?_
  refine zW_iload_n 3 dX12_distance_65 rfl ?_
  refine zW_iconst dX12_distance_66 ?_
  refine zF_icmp_ge 75 dX12_distance_67 rfl rfl (w32_lit _ rfl) hf (fun c hf => ?_) (fun c hf => ?_)
  · refine zW_aload_n 2 dX12_distance_75 rfl ?_
    refine zW_iload 1 dX12_distance_76 rfl ?_
    refine zW_iload 0 dX12_distance_78 rfl ?_
    refine zC_Vri (As := [vi k0, vi r6]) (fun x hx => kX12_manyApart hw (v1 := k0) (v2 := r6) o hx) mv_RX12_147 (hw.1 _ o) rfl rfl rfl rfl rfl dX12_distance_80 hf (fun r7 hf => ?_)
    exact zR_i hw rfl dX12_distance_83 hf
  · refine zW_iload 0 dX12_distance_70 rfl ?_
    refine zW_goto 83 dX12_distance_72 rfl ?_
    exact zR_i hw rfl dX12_distance_83 hf
set_option maxRecDepth 100000 in
theorem tX12_distance_0 {X : zX} {e : Nat → Prop} (hw : zWf X e) {v1 : Int} {v2 : Int} {v3 : Int} (o : zOk e (50, 0, 0)) {I : zMem} {u : (Int × zMem)} (hf : fX12_distance v1 v2 v3 I = some u) : zW X (some (vi u.1), u.2) mX12_distance 0 [(0, .ref (zad X (50, 0, 0))), (1, vi v1), (2, vi v2), (3, vi v3)] [] I := by
  unfold fX12_distance at hf
  refine zW_aload_n 0 dX12_distance_0 rfl ?_
  refine zW_iconst dX12_distance_1 ?_
  refine zF_put lk_RX12_1 (hw.1 _ o) rfl rfl (zn_int _) dX12_distance_2 hf (fun I1 hf => ?_)
  refine zW_iload_n 3 dX12_distance_5 rfl ?_
  refine zW_i2l dX12_distance_6 ?_
  refine zW_lconst0 dX12_distance_7 ?_
  refine zW_ldc2 dX12_distance_8 wc_RX12_132 ?_
  refine zC_Sri (As := [vl (w32 v3), vl 0, vl 3]) (fun x hx => kX12_within hw (v0 := w32 v3) (v2 := 0) (v4 := 3)  hx) ms_RX12_94 rfl rfl rfl rfl dX12_distance_11 hf (fun r2 hf => ?_)
  refine zF_if_ne 20 dX12_distance_14 rfl rfl hf (fun c hf => ?_) (fun c hf => ?_)
  · refine zW_bipush dX12_distance_17 rfl ?_
    exact zR_i hw rfl dX12_distance_19 hf
  · refine zW_iload_n 1 dX12_distance_20 rfl ?_
    refine zC_Sri (As := [vi v1]) (fun x hx => kX12_isSet hw (v0 := v1)  hx) ms_RX12_137 rfl rfl rfl rfl dX12_distance_21 hf (fun r3 hf => ?_)
    refine zF_if_eq 34 dX12_distance_24 rfl rfl hf (fun c hf => ?_) (fun c hf => ?_)
    · refine zW_bipush dX12_distance_34 rfl ?_
      exact zR_i hw rfl dX12_distance_36 hf
    · refine zW_iload_n 2 dX12_distance_27 rfl ?_
      refine zC_Sri (As := [vi v2]) (fun x hx => kX12_isLength hw (v0 := v2)  hx) ms_RX12_134 rfl rfl rfl rfl dX12_distance_28 hf (fun r4 hf => ?_)
      refine zF_if_ne 37 dX12_distance_31 rfl rfl hf (fun c hf => ?_) (fun c hf => ?_)
      · refine zW_bipush dX12_distance_34 rfl ?_
        exact zR_i hw rfl dX12_distance_36 hf
      · refine zW_aload_n 0 dX12_distance_37 rfl ?_
        refine zW_iload_n 1 dX12_distance_38 rfl ?_
        refine zW_iload_n 2 dX12_distance_39 rfl ?_
        refine zC_Vwv (As := [vi v1, vi v2]) (fun x hx => kX12_laysOften hw (v1 := v1) (v2 := v2) o hx) mv_RX12_140 (hw.1 _ o) rfl rfl rfl rfl rfl dX12_distance_40 hf (fun r5 hf => ?_)
        refine zW_iload_n 3 dX12_distance_43 rfl ?_
        refine zW_iconst dX12_distance_44 ?_
        refine zW_irem dX12_distance_45 (w32_ne0 _ rfl) ?_
        refine zW_iconst dX12_distance_46 ?_
        refine zF_icmp_ne 54 dX12_distance_47 rfl rfl (w32_lit _ rfl) hf (fun c hf => ?_) (fun c hf => ?_)
        · refine zW_iconst dX12_distance_50 ?_
          refine zW_goto 55 dX12_distance_51 rfl ?_
          refine zW_sub [0, 3] rfl ?_
          exact tX12_distance_b55 hw o hf
        · refine zW_iconst dX12_distance_54 ?_
          refine zW_sub [0, 3] rfl ?_
          exact tX12_distance_b55 hw o hf
theorem kX12_distance {X : zX} {e : Nat → Prop} (hw : zWf X e) {v1 : Int} {v2 : Int} {v3 : Int} (o : zOk e (50, 0, 0)) {I : zMem} {u : (Int × zMem)} (hf : fX12_distance v1 v2 v3 I = some u) : zCn X mX12_distance yX12_distance [.ref (zad X (50, 0, 0)), vi v1, vi v2, vi v3] I (some (vi u.1), u.2) := zCn_of (by decide +kernel) rfl rfl ⟨rfl, rfl⟩ (tX12_distance_0 hw.N o hf)
