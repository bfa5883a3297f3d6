/-! the law's loop -/
theorem and63 (a : Int) : ∃ z : Nat, z < 64 ∧ w32 (iand a 63) = (z : Int) := by
  refine ⟨((Int32.ofInt a).toBitVec &&& 63#32).toNat, ?_, ?_⟩
  · rw [BitVec.toNat_and]; exact Nat.lt_of_le_of_lt Nat.and_le_right (by decide)
  · unfold iand w32
    rw [Int32.ofInt_toInt]
    have h : ((Int32.ofInt a).toBitVec &&& 63#32).toNat < 64 := by rw [BitVec.toNat_and]; exact Nat.lt_of_le_of_lt Nat.and_le_right (by decide)
    show ((Int32.ofInt a).toBitVec &&& (Int32.ofInt 63).toBitVec).toInt = _
    rw [show (Int32.ofInt 63).toBitVec = 63#32 from rfl]
    exact BitVec.toInt_eq_toNat_of_lt (by omega)
theorem zWc.sz {e : Nat → Prop} {X : zX} {z : Nat} (h : zWc e X) : zWc e (zsz X z) := ⟨h.1, ⟨h.2.1.1, h.2.1.2.1, fun _ _ _ _ _ _ => h.2.2.2.2.2 _ _ _ _ _⟩, h.2.2⟩
section
variable {p : Program} {l : Launch} {v : Env} {s : State} {g : MethodId} {B : List Frame} {meth : Method} {co : Code} {b L : Nat} {xs : Nat → Int32} {H : Heap} {locs : List Loc} {ls : Array Slot} {cs ss n i x1 x2 : Nat} {e : Nat → Prop} {X Y : zX} {I J : zMem} {Q : State → Prop} {pc : Nat} {st : List Value}
theorem lw_tab {a lo hi dflt off : Int} {offs : Array Int} {len : Nat} (j tgt : Nat) (C0 : lw_At p s g meth co b L xs) (hd : decode code pc = .ok (.tableswitch dflt lo hi offs, len)) (ha : w32 a = lo + (j : Int)) (hj : decide (lo + (j : Int) ≤ hi) = true) (ho : offs[j]? = some off) (ht : (pc : Int) + off = (tgt : Int)) (k : W p l v room_1 s g #[Value.ref b] B meth co H locs cs ss Q (F0 g tgt ls st)) : W p l v room_1 s g #[Value.ref b] B meth co H locs cs ss Q (F0 g pc ls (vi a :: st)) := by
  have hj' := of_decide_eq_true hj
  have h0 : (Int32.ofInt a).toInt = lo + (j : Int) := ha
  exact lv_tableIn C0.1 C0.2.1 hd (by rw [h0]; omega) (by rw [h0]; omega) (off := off) (by rw [h0, show (lo + (j : Int) - lo).toNat = j by omega]; exact ho) ht k
theorem lw_tabd {a lo hi dflt : Int} {offs : Array Int} {len : Nat} (tgt : Nat) (C0 : lw_At p s g meth co b L xs) (hd : decode code pc = .ok (.tableswitch dflt lo hi offs, len)) (ha : w32 a < lo ∨ hi < w32 a) (ht : (pc : Int) + dflt = (tgt : Int)) (k : W p l v room_1 s g #[Value.ref b] B meth co H locs cs ss Q (F0 g tgt ls st)) : W p l v room_1 s g #[Value.ref b] B meth co H locs cs ss Q (F0 g pc ls (vi a :: st)) := lv_tableOut C0.1 C0.2.1 hd ha ht k
theorem lw_disp {a : Int} (C0 : lw_At p s g meth co b L xs) (hL : L ≤ 3072) (hi : i + 6 ≤ L) (hn : n ≤ 512) (hcs : cs + 43 ≤ room_1.cells ∧ ss + 1059 ≤ room_1.slots) (hl : lv_has ls 4 [(0, .ref b), (1, .ref x1), (2, .ref x2), (3, vi (i : Int))]) (hI : lwI s n e X Y I J H locs) (h1 : zad X (0, 0, 0) = x1) (h2 : zad Y (50, 0, 0) = x2) (hk : lwN p l v s g B meth co b (n + 1) (cs + 43) (ss + 1059) x1 x2 ls) : W p l v room_1 s g #[Value.ref b] B meth co H locs cs ss (lw_Z B #[Value.ref b] s) (F0 g 33 ls [vi (iand a 63)]) := by
  obtain ⟨z, hz64, hz⟩ := and63 a
  match z, hz with
  | 0, hz => exact lw_tab 0 264 C0 dL_law_33 (by rw [hz]; rfl) rfl rfl rfl (lw_c0 C0 hL hi hn hcs hl hI h1 h2 hk)
  | 1, hz => exact lw_tab 1 297 C0 dL_law_33 (by rw [hz]; rfl) rfl rfl rfl (lw_c1 C0 hL hi hn hcs hl hI h1 h2 hk)
  | 2, hz => exact lw_tab 2 320 C0 dL_law_33 (by rw [hz]; rfl) rfl rfl rfl (lw_c2 C0 hL hi hn hcs hl hI h1 h2 hk)
  | 3, hz => exact lw_tab 3 344 C0 dL_law_33 (by rw [hz]; rfl) rfl rfl rfl (lw_c3 C0 hL hi hn hcs hl hI h1 h2 hk)
  | 4, hz => exact lw_tab 4 367 C0 dL_law_33 (by rw [hz]; rfl) rfl rfl rfl (lw_c4 C0 hL hi hn hcs hl hI h1 h2 hk)
  | 5, hz => exact lw_tab 5 410 C0 dL_law_33 (by rw [hz]; rfl) rfl rfl rfl (lw_c5 C0 hL hi hn hcs hl hI h1 h2 hk)
  | 6, hz => exact lw_tab 6 443 C0 dL_law_33 (by rw [hz]; rfl) rfl rfl rfl (lw_c6 C0 hL hi hn hcs hl hI h1 h2 hk)
  | 7, hz => exact lw_tab 7 477 C0 dL_law_33 (by rw [hz]; rfl) rfl rfl rfl (lw_c7 C0 hL hi hn hcs hl hI h1 h2 hk)
  | 8, hz => exact lw_tab 8 530 C0 dL_law_33 (by rw [hz]; rfl) rfl rfl rfl (lw_c8 C0 hL hi hn hcs hl hI h1 h2 hk)
  | 9, hz => exact lw_tab 9 573 C0 dL_law_33 (by rw [hz]; rfl) rfl rfl rfl (lw_c9 C0 hL hi hn hcs hl hI h1 h2 hk)
  | 10, hz => exact lw_tab 10 606 C0 dL_law_33 (by rw [hz]; rfl) rfl rfl rfl (lw_c10 C0 hL hi hn hcs hl hI h1 h2 hk)
  | 11, hz => exact lw_tab 11 639 C0 dL_law_33 (by rw [hz]; rfl) rfl rfl rfl (lw_c11 C0 hL hi hn hcs hl hI h1 h2 hk)
  | 12, hz => exact lw_tab 12 682 C0 dL_law_33 (by rw [hz]; rfl) rfl rfl rfl (lw_c12 C0 hL hi hn hcs hl hI h1 h2 hk)
  | 13, hz => exact lw_tab 13 745 C0 dL_law_33 (by rw [hz]; rfl) rfl rfl rfl (lw_c13 C0 hL hi hn hcs hl hI h1 h2 hk)
  | 14, hz => exact lw_tab 14 768 C0 dL_law_33 (by rw [hz]; rfl) rfl rfl rfl (lw_c14 C0 hL hi hn hcs hl hI h1 h2 hk)
  | 15, hz => exact lw_tab 15 791 C0 dL_law_33 (by rw [hz]; rfl) rfl rfl rfl (lw_c15 C0 hL hi hn hcs hl hI h1 h2 hk)
  | 16, hz => exact lw_tab 16 814 C0 dL_law_33 (by rw [hz]; rfl) rfl rfl rfl (lw_c16 C0 hL hi hn hcs hl hI h1 h2 hk)
  | 17, hz => exact lw_tab 17 857 C0 dL_law_33 (by rw [hz]; rfl) rfl rfl rfl (lw_c17 C0 hL hi hn hcs hl hI h1 h2 hk)
  | 18, hz => exact lw_tab 18 890 C0 dL_law_33 (by rw [hz]; rfl) rfl rfl rfl (lw_c18 C0 hL hi hn hcs hl hI h1 h2 hk)
  | 19, hz => exact lw_tab 19 943 C0 dL_law_33 (by rw [hz]; rfl) rfl rfl rfl (lw_c19 C0 hL hi hn hcs hl hI h1 h2 hk)
  | 20, hz => exact lw_tab 20 966 C0 dL_law_33 (by rw [hz]; rfl) rfl rfl rfl (lw_c20 C0 hL hi hn hcs hl hI h1 h2 hk)
  | 21, hz => exact lw_tab 21 979 C0 dL_law_33 (by rw [hz]; rfl) rfl rfl rfl (lw_c21 C0 hL hi hn hcs hl hI h1 h2 hk)
  | 22, hz => exact lw_tab 22 1032 C0 dL_law_33 (by rw [hz]; rfl) rfl rfl rfl (lw_c22 C0 hL hi hn hcs hl hI h1 h2 hk)
  | 23, hz => exact lw_tab 23 1045 C0 dL_law_33 (by rw [hz]; rfl) rfl rfl rfl (lw_c23 C0 hL hi hn hcs hl hI h1 h2 hk)
  | 24, hz => exact lw_tab 24 1068 C0 dL_law_33 (by rw [hz]; rfl) rfl rfl rfl (lw_c24 C0 hL hi hn hcs hl hI h1 h2 hk)
  | 25, hz => exact lw_tab 25 1101 C0 dL_law_33 (by rw [hz]; rfl) rfl rfl rfl (lw_c25 C0 hL hi hn hcs hl hI h1 h2 hk)
  | 26, hz => exact lw_tab 26 1134 C0 dL_law_33 (by rw [hz]; rfl) rfl rfl rfl (lw_c26 C0 hL hi hn hcs hl hI h1 h2 hk)
  | 27, hz => exact lw_tab 27 1167 C0 dL_law_33 (by rw [hz]; rfl) rfl rfl rfl (lw_c27 C0 hL hi hn hcs hl hI h1 h2 hk)
  | 28, hz => exact lw_tab 28 1190 C0 dL_law_33 (by rw [hz]; rfl) rfl rfl rfl (lw_c28 C0 hL hi hn hcs hl hI h1 h2 hk)
  | 29, hz => exact lw_tab 29 1213 C0 dL_law_33 (by rw [hz]; rfl) rfl rfl rfl (lw_c29 C0 hL hi hn hcs hl hI h1 h2 hk)
  | 30, hz => exact lw_tab 30 1246 C0 dL_law_33 (by rw [hz]; rfl) rfl rfl rfl (lw_c30 C0 hL hi hn hcs hl hI h1 h2 hk)
  | 31, hz => exact lw_tab 31 1289 C0 dL_law_33 (by rw [hz]; rfl) rfl rfl rfl (lw_c31 C0 hL hi hn hcs hl hI h1 h2 hk)
  | 32, hz => exact lw_tab 32 1322 C0 dL_law_33 (by rw [hz]; rfl) rfl rfl rfl (lw_c32 C0 hL hi hn hcs hl hI h1 h2 hk)
  | 33, hz => exact lw_tab 33 1355 C0 dL_law_33 (by rw [hz]; rfl) rfl rfl rfl (lw_c33 C0 hL hi hn hcs hl hI h1 h2 hk)
  | 34, hz => exact lw_tab 34 1378 C0 dL_law_33 (by rw [hz]; rfl) rfl rfl rfl (lw_c34 C0 hL hi hn hcs hl hI h1 h2 hk)
  | 35, hz => exact lw_tab 35 1411 C0 dL_law_33 (by rw [hz]; rfl) rfl rfl rfl (lw_c35 C0 hL hi hn hcs hl hI h1 h2 hk)
  | 36, hz => exact lw_tab 36 1434 C0 dL_law_33 (by rw [hz]; rfl) rfl rfl rfl (lw_c36 C0 hL hi hn hcs hl hI h1 h2 hk)
  | 37, hz => exact lw_tab 37 1457 C0 dL_law_33 (by rw [hz]; rfl) rfl rfl rfl (lw_c37 C0 hL hi hn hcs hl hI h1 h2 hk)
  | 38, hz => exact lw_tab 38 1490 C0 dL_law_33 (by rw [hz]; rfl) rfl rfl rfl (lw_c38 C0 hL hi hn hcs hl hI h1 h2 hk)
  | 39, hz => exact lw_tab 39 1523 C0 dL_law_33 (by rw [hz]; rfl) rfl rfl rfl (lw_c39 C0 hL hi hn hcs hl hI h1 h2 hk)
  | 40, hz => exact lw_tab 40 1556 C0 dL_law_33 (by rw [hz]; rfl) rfl rfl rfl (lw_c40 C0 hL hi hn hcs hl hI h1 h2 hk)
  | 41, hz => exact lw_tab 41 1589 C0 dL_law_33 (by rw [hz]; rfl) rfl rfl rfl (lw_c41 C0 hL hi hn hcs hl hI h1 h2 hk)
  | 42, hz => exact lw_tab 42 1622 C0 dL_law_33 (by rw [hz]; rfl) rfl rfl rfl (lw_c42 C0 hL hi hn hcs hl hI h1 h2 hk)
  | 43, hz => exact lw_tab 43 1655 C0 dL_law_33 (by rw [hz]; rfl) rfl rfl rfl (lw_c43 C0 hL hi hn hcs hl hI h1 h2 hk)
  | 44, hz => exact lw_tab 44 1678 C0 dL_law_33 (by rw [hz]; rfl) rfl rfl rfl (lw_c44 C0 hL hi hn hcs hl hI h1 h2 hk)
  | 45, hz => exact lw_tab 45 1701 C0 dL_law_33 (by rw [hz]; rfl) rfl rfl rfl (lw_c45 C0 hL hi hn hcs hl hI h1 h2 hk)
  | 46, hz => exact lw_tab 46 1724 C0 dL_law_33 (by rw [hz]; rfl) rfl rfl rfl (lw_c46 C0 hL hi hn hcs hl hI h1 h2 hk)
  | 47, hz => exact lw_tab 47 1747 C0 dL_law_33 (by rw [hz]; rfl) rfl rfl rfl (lw_c47 C0 hL hi hn hcs hl hI h1 h2 hk)
  | 48, hz => exact lw_tab 48 1780 C0 dL_law_33 (by rw [hz]; rfl) rfl rfl rfl (lw_c48 C0 hL hi hn hcs hl hI h1 h2 hk)
  | 49, hz => exact lw_tab 49 1813 C0 dL_law_33 (by rw [hz]; rfl) rfl rfl rfl (lw_c49 C0 hL hi hn hcs hl hI h1 h2 hk)
  | 50, hz => exact lw_tab 50 1856 C0 dL_law_33 (by rw [hz]; rfl) rfl rfl rfl (lw_c50 C0 hL hi hn hcs hl hI h1 h2 hk)
  | 51, hz => exact lw_tab 51 1889 C0 dL_law_33 (by rw [hz]; rfl) rfl rfl rfl (lw_c51 C0 hL hi hn hcs hl hI h1 h2 hk)
  | 52, hz => exact lw_tab 52 1912 C0 dL_law_33 (by rw [hz]; rfl) rfl rfl rfl (lw_c52 C0 hL hi hn hcs hl hI h1 h2 hk)
  | 53, hz => exact lw_tab 53 1935 C0 dL_law_33 (by rw [hz]; rfl) rfl rfl rfl (lw_c53 C0 hL hi hn hcs hl hI h1 h2 hk)
  | z + 54, hz =>
    refine lw_tabd 1958 C0 dL_law_33 (Or.inr (by rw [hz]; omega)) rfl ?_
    obtain ⟨hR, hW, hY, hKX, hKY, hH, hS⟩ := hI
    exact W.widen (by omega) (by omega) (hk e X Y I J H locs ⟨hR.mo (by omega), hW, hY, hKX, hKY, hH, hS⟩ h1 h2)
end
section
variable {p : Program} {l : Launch} {v : Env} {s : State} {g : MethodId} {B : List Frame} {meth : Method} {co : Code} {b L : Nat} {xs : Nat → Int32}
theorem lw_loop (C0 : lw_At p s g meth co b L xs) (hL : L ≤ 3072) : ∀ (k n x1 x2 : Nat) (e : Nat → Prop) (X Y : zX) (I J : zMem) (H : Heap) (locs : List Loc) (ls : Array Slot), L < 6 * (n + k) → n ≤ 513 → lwI s n e X Y I J H locs → zad X (0, 0, 0) = x1 → zad Y (50, 0, 0) = x2 → lv_has ls 4 [(0, .ref b), (1, .ref x1), (2, .ref x2), (3, vi ((6 * n : Nat) : Int))] → W p l v room_1 s g #[Value.ref b] B meth co H locs (134 + 43 * n) (14639 + 1059 * n) (lw_Z B #[Value.ref b] s) (F0 g 18 ls []) := by
  intro k
  have C1 := C0
  obtain ⟨hx, hb, hr, hml, hown, hts, hX, hbl, hlocks, hgv⟩ := C0
  have hbA : ¬ lwA s b := Nat.not_le.mpr hbl
  have hrc : room_1.cells = 600000 := rfl
  have hrs : room_1.slots = 7302250 := rfl
  induction k with
  | zero =>
    intro n x1 x2 e X Y I J H locs ls hk hn hI h1 h2 hl
    have hS := hI.2.2.2.2.2.2
    refine lv_iload_n hx hb dL_law_18 rfl (lv_at hl 3 rfl) ?_
    refine lv_aload_n hx hb dL_law_19 rfl (lv_at hl 0 rfl) ?_
    refine va_slen hx hb hX hbl hbA hS dL_law_20 ?_
    refine lv_bipush hx hb dL_law_21 (zbp 6 rfl) ?_
    refine lv_isub hx hb dL_law_23 ?_
    rw [show Int32.ofNat L - Int32.ofInt 6 = Int32.ofInt ((L : Int) - 6) from by rw [Int32.ofInt_sub]; rfl]
    refine lv_icmp_gt (tgt := 1964) hx hb dL_law_24 (by decide) (fun hc => ?_) (fun hc => ?_)
    · refine lv_iconst (v := 1) hx hb dL_law_1964 (by decide) ?_
      refine va_forget (fun q hq => hS.2.2 q hq) ?_
      refine W.widen (k := 600000) (n := 7302250) (by omega) (by omega) ?_
      exact lw_ret hx hb hr hlocks dL_law_1965
    · exfalso
      apply hc
      rw [oi_lt, w32_id (by omega) (by omega), w32_id (by omega) (by omega)]
      omega
  | succ k ih =>
    intro n x1 x2 e X Y I J H locs ls hk hn hI h1 h2 hl
    have hS := hI.2.2.2.2.2.2
    refine lv_iload_n hx hb dL_law_18 rfl (lv_at hl 3 rfl) ?_
    refine lv_aload_n hx hb dL_law_19 rfl (lv_at hl 0 rfl) ?_
    refine va_slen hx hb hX hbl hbA hS dL_law_20 ?_
    refine lv_bipush hx hb dL_law_21 (zbp 6 rfl) ?_
    refine lv_isub hx hb dL_law_23 ?_
    rw [show Int32.ofNat L - Int32.ofInt 6 = Int32.ofInt ((L : Int) - 6) from by rw [Int32.ofInt_sub]; rfl]
    refine lv_icmp_gt (tgt := 1964) hx hb dL_law_24 (by decide) (fun hc => ?_) (fun hc => ?_)
    · refine lv_iconst (v := 1) hx hb dL_law_1964 (by decide) ?_
      refine va_forget (fun q hq => hS.2.2 q hq) ?_
      refine W.widen (k := 600000) (n := 7302250) (by omega) (by omega) ?_
      exact lw_ret hx hb hr hlocks dL_law_1965
    · have hi : 6 * n + 6 ≤ L := by
        rw [oi_lt, w32_id (by omega) (by omega), w32_id (by omega) (by omega)] at hc
        omega
      refine lv_aload_n hx hb dL_law_27 rfl (lv_at hl 0 rfl) ?_
      refine lv_iload_n hx hb dL_law_28 rfl (lv_at hl 3 rfl) ?_
      have hz : zin ((6 * n : Nat) : Int) L := zin_nat (by omega) (by omega)
      refine va_sld hx hb hX hbl hbA hS (zin_vp hz) dL_law_29 ?_
      refine lv_bipush hx hb dL_law_30 (zbp 63 rfl) ?_
      refine lv_iand hx hb dL_law_32 ?_
      generalize xs (Int32.ofInt ((6 * n : Nat) : Int)).toNatClampNeg = w
      rw [show w &&& Int32.ofInt 63 = Int32.ofInt (iand w.toInt 63) from by rw [oi_and, Int32.ofInt_toInt]]
      refine lw_disp (a := w.toInt) C1 hL hi (by omega) ⟨by omega, by omega⟩ hl hI h1 h2 ?_
      intro e' X' Y' I' J' H' locs' hI' h1' h2'
      refine lv_iinc (v := Int32.ofInt (((6 * n : Nat) : Int) + 6)) (lv' := [(3, vi (((6 * n : Nat) : Int) + 6)), (0, .ref b), (1, .ref x1), (2, .ref x2)]) hx hb dL_law_1958 hl (k := 3) rfl (Int32.ofInt_add _ _).symm (by decide) rfl (fun ls2 hl2 => ?_)
      refine lv_goto (tgt := 18) hx hb dL_law_1961 (by decide) ?_
      have e6 : (((6 * n : Nat) : Int) + 6) = ((6 * (n + 1) : Nat) : Int) := by omega
      rw [e6] at hl2
      refine W.widen (k := 134 + 43 * (n + 1)) (n := 14639 + 1059 * (n + 1)) (by omega) (by omega) ?_
      exact ih (n + 1) x1 x2 e' X' Y' I' J' H' locs' ls2 (by omega) (by omega) hI' h1' h2' (lv_sub hl2 [1, 2, 3, 0] rfl)
end
