section
variable {p : Program} {l : Launch} {v : Env} {s : State} {g : MethodId} {B : List Frame} {meth : Method} {co : Code} {b L : Nat} {xs : Nat → Int32} {H : Heap} {locs : List Loc} {ls : Array Slot} {cs ss n i x1 x2 : Nat} {e : Nat → Prop} {X Y : zX} {I J : zMem}
theorem lw_c51 (C0 : lw_At p s g meth co b L xs) (hL : L ≤ 3072) (hi : i + 6 ≤ L) (hn : n ≤ 512) (hcs : cs + 43 ≤ room_1.cells ∧ ss + 1059 ≤ room_1.slots) (hl : lv_has ls 4 [(0, .ref b), (1, .ref x1), (2, .ref x2), (3, vi (i : Int))]) (hI : lwI s n e X Y I J H locs) (h1 : zad X (0, 0, 0) = x1) (h2 : zad Y (50, 0, 0) = x2) (hk : lwN p l v s g B meth co b (n + 1) (cs + 43) (ss + 1059) x1 x2 ls) : W p l v room_1 s g #[Value.ref b] B meth co H locs cs ss (lw_Z B #[Value.ref b] s) (F0 g 1889 ls []) := by
  obtain ⟨hR, hW, hY, hKX, hKY, hH, hS⟩ := hI
  have ha := i32x (xs (i + 1))
  by_cases hv : 0 ≤ (xs (i + 1)).toInt ∧ (xs (i + 1)).toInt ≤ 1
  · obtain ⟨k, ek⟩ : ∃ k : Nat, (xs (i + 1)).toInt = (k : Int) := ⟨(xs (i + 1)).toInt.toNat, by omega⟩
    have hk2 : k < 2 := by omega
    by_cases he : e (2 + k)
    · obtain ⟨C, m', hf, hg, hR'⟩ := Q_image hR hk2 (c1 := I) (fun _ _ => rfl)
      have ee : (fun L => e L ∨ L = 2 + k) = e := funext fun L => propext ⟨fun h => h.elim id (fun h => by rw [h]; exact he), Or.inl⟩
      rw [ee] at hR'
      subst h1 h2
      refine lw_ald 1 C0 hl dL_law_1889 rfl ?_
      refine lw_arg (i := i) 1 C0 hS hl hL rfl (by omega) dL_law_1890 dL_law_1891 dL_law_1892 dL_law_1893 dL_law_1894 ?_
      rw [ek]
      refine lw_callK (X' := X) (q := (0, 0, 0)) (As := [vi (k : Int)]) (T' := (some (vi 0), C)) C0 hKX hH hS hl hcs (kX11_image1 hW.2.1 hW.o hW.e1 hk2 he ((hW.2.2.1 k hk2).2 he) hf) mwl_225 zGw.rf hW.d rfl rfl rfl rfl rfl dL_law_1895 (fun H1 locs1 hH1 hS1 => ?_)
      refine lw_ald 2 C0 hl dL_law_1898 rfl ?_
      refine lw_arg (i := i) 1 C0 hS1 hl hL rfl (by omega) dL_law_1899 dL_law_1900 dL_law_1901 dL_law_1902 dL_law_1903 ?_
      rw [ek]
      refine lw_call (q := (50, 0, 0)) (As := [vi (k : Int)]) (T' := (some (vi 0), m')) C0 hKY.sz hH1.sy hS1 hl hcs (kX12_image hY.sz.1 zok9 hg) mvl_228 (hY.sz.1.1 _ zok9) rfl rfl rfl rfl rfl dL_law_1904 (fun H2 locs2 hH2 hS2 => ?_)
      refine lw_eq C0 dL_law_1907 rfl ?_
      exact hk e X _ C m' H2 locs2 ⟨lw_n hR', hW, hY.sz, hKX, hKY.sz, hH2.sy, hS2⟩ rfl rfl
    · have hn1 := hW.no_lk he
      obtain ⟨C, m', hf, hg, hR'⟩ := Q_image hR hk2 (c1 := gX4_init (2 + k) (zzr I (7, 2 + k, 0))) (fun q hq => by rw [g4_out hq, zzr_nq (fun e => hq (by rw [e]; exact ⟨rfl, rfl⟩))])
      have hWr : zWc e (zre X (2 + k)) := hW.re
      have hKr : lwK s (zre X (2 + k)) := hKX.re
      have hHr : lwH s (zre X (2 + k)) Y I J H := hH.re hn1 hW.2.2.2.1
      have hCk : zCk (zre X (2 + k)) (zIm (zre X (2 + k)) k) mX11_image yX11_image [.ref (zad (zre X (2 + k)) (0, 0, 0)), vi (k : Int)] I (some (vi 0), C) := kX11_image0 hWr.2.1 hWr.o hW.e1 hk2 he ((hWr.2.2.1 k hk2).1 he) (zre_at (by omega)) hf
      have ead : zad (zre X (2 + k)) (0, 0, 0) = x1 := (zre_ad (hn1 _ hW.d)).trans h1
      subst h2
      refine lw_ald 1 C0 hl dL_law_1889 rfl ?_
      refine lw_arg (i := i) 1 C0 hS hl hL rfl (by omega) dL_law_1890 dL_law_1891 dL_law_1892 dL_law_1893 dL_law_1894 ?_
      rw [ek]
      refine lw_callK (X := zre X (2 + k)) (X' := zIm (zre X (2 + k)) k) (q := (0, 0, 0)) (As := [vi (k : Int)]) (T' := (some (vi 0), C)) C0 hKr hHr hS hl hcs hCk mwl_225 zIm_gw hWr.d rfl rfl rfl rfl (by rw [ead]; rfl) dL_law_1895 (fun H1 locs1 hH1 hS1 => ?_)
      refine lw_ald 2 C0 hl dL_law_1898 rfl ?_
      refine lw_arg (i := i) 1 C0 hS1 hl hL rfl (by omega) dL_law_1899 dL_law_1900 dL_law_1901 dL_law_1902 dL_law_1903 ?_
      rw [ek]
      refine lw_call (q := (50, 0, 0)) (As := [vi (k : Int)]) (T' := (some (vi 0), m')) C0 hKY.sz hH1.sy hS1 hl hcs (kX12_image hY.sz.1 zok9 hg) mvl_228 (hY.sz.1.1 _ zok9) rfl rfl rfl rfl rfl dL_law_1904 (fun H2 locs2 hH2 hS2 => ?_)
      refine lw_eq C0 dL_law_1907 rfl ?_
      exact hk _ (zIm (zre X (2 + k)) k) _ C m' H2 locs2 ⟨lw_n hR', hWr.im hk2 he, hY.sz, hKr.im, hKY.sz, hH2.sy, hS2⟩ ead rfl
  · obtain ⟨m', hg, hR'⟩ := Q_imageN hR ha hv
    subst h1 h2
    refine lw_ald 1 C0 hl dL_law_1889 rfl ?_
    refine lw_arg (i := i) 1 C0 hS hl hL rfl (by omega) dL_law_1890 dL_law_1891 dL_law_1892 dL_law_1893 dL_law_1894 ?_
    refine lw_callK (X' := X) (q := (0, 0, 0)) (As := [vi (xs (i + 1)).toInt]) (T' := (some (vi (-2)), I)) C0 hKX hH hS hl hcs (kX11_imageN hW.2.1 (by rw [w32x]; exact hv)) mwl_225 zGw.rf hW.d rfl rfl rfl rfl rfl dL_law_1895 (fun H1 locs1 hH1 hS1 => ?_)
    refine lw_ald 2 C0 hl dL_law_1898 rfl ?_
    refine lw_arg (i := i) 1 C0 hS1 hl hL rfl (by omega) dL_law_1899 dL_law_1900 dL_law_1901 dL_law_1902 dL_law_1903 ?_
    refine lw_call (q := (50, 0, 0)) (As := [vi (xs (i + 1)).toInt]) (T' := (some (vi (-2)), m')) C0 hKY.sz hH1.sy hS1 hl hcs (kX12_image hY.sz.1 zok9 hg) mvl_228 (hY.sz.1.1 _ zok9) rfl rfl rfl rfl rfl dL_law_1904 (fun H2 locs2 hH2 hS2 => ?_)
    refine lw_eq C0 dL_law_1907 rfl ?_
    exact hk e X _ I m' H2 locs2 ⟨lw_n hR', hW, hY.sz, hKX, hKY.sz, hH2.sy, hS2⟩ rfl rfl
theorem lw_c52 (C0 : lw_At p s g meth co b L xs) (hL : L ≤ 3072) (hi : i + 6 ≤ L) (hn : n ≤ 512) (hcs : cs + 43 ≤ room_1.cells ∧ ss + 1059 ≤ room_1.slots) (hl : lv_has ls 4 [(0, .ref b), (1, .ref x1), (2, .ref x2), (3, vi (i : Int))]) (hI : lwI s n e X Y I J H locs) (h1 : zad X (0, 0, 0) = x1) (h2 : zad Y (50, 0, 0) = x2) (hk : lwN p l v s g B meth co b (n + 1) (cs + 43) (ss + 1059) x1 x2 ls) : W p l v room_1 s g #[Value.ref b] B meth co H locs cs ss (lw_Z B #[Value.ref b] s) (F0 g 1912 ls []) := by
  obtain ⟨hR, hW, hY, hKX, hKY, hH, hS⟩ := hI
  have ha := i32x (xs (i + 1))
  by_cases hv : 0 ≤ (xs (i + 1)).toInt ∧ (xs (i + 1)).toInt ≤ 1
  · obtain ⟨k, ek⟩ : ∃ k : Nat, (xs (i + 1)).toInt = (k : Int) := ⟨(xs (i + 1)).toInt.toNat, by omega⟩
    have hk2 : k < 2 := by omega
    by_cases he : e (2 + k)
    · obtain ⟨C, m', hf, hg, hR'⟩ := Q_restore hR hk2 he
      subst h1 h2
      refine lw_ald 1 C0 hl dL_law_1912 rfl ?_
      refine lw_arg (i := i) 1 C0 hS hl hL rfl (by omega) dL_law_1913 dL_law_1914 dL_law_1915 dL_law_1916 dL_law_1917 ?_
      rw [ek]
      refine lw_call (q := (0, 0, 0)) (As := [vi (k : Int)]) (T' := (some (vi 0), C)) C0 hKX hH hS hl ⟨by omega, by omega⟩ (kX11_restore1 hW.2.1 hW.o hW.e1 hk2 he ((hW.2.2.1 k hk2).2 he) hf) mvl_229 hW.d rfl rfl rfl rfl rfl dL_law_1918 (fun H1 locs1 hH1 hS1 => ?_)
      refine lw_ald 2 C0 hl dL_law_1921 rfl ?_
      refine lw_arg (i := i) 1 C0 hS1 hl hL rfl (by omega) dL_law_1922 dL_law_1923 dL_law_1924 dL_law_1925 dL_law_1926 ?_
      rw [ek]
      refine lw_call (q := (50, 0, 0)) (As := [vi (k : Int)]) (T' := (some (vi 0), m')) C0 hKY hH1.sy hS1 hl ⟨by omega, by omega⟩ (kX12_restore hY.1 zok9 hg) mvl_232 (hY.1.1 _ zok9) rfl rfl rfl rfl rfl dL_law_1927 (fun H2 locs2 hH2 hS2 => ?_)
      refine lw_eq C0 dL_law_1930 rfl ?_
      exact W.widen (by omega) (by omega) (hk e X Y C m' H2 locs2 ⟨lw_n hR', hW, hY, hKX, hKY, hH2.sy, hS2⟩ rfl rfl)
    · obtain ⟨m', hg, hR'⟩ := Q_restore0 hR hk2 he
      subst h1 h2
      refine lw_ald 1 C0 hl dL_law_1912 rfl ?_
      refine lw_arg (i := i) 1 C0 hS hl hL rfl (by omega) dL_law_1913 dL_law_1914 dL_law_1915 dL_law_1916 dL_law_1917 ?_
      rw [ek]
      refine lw_call (q := (0, 0, 0)) (As := [vi (k : Int)]) (T' := (some (vi (-5)), I)) C0 hKX hH hS hl ⟨by omega, by omega⟩ (kX11_restore0 hW.2.1 hW.o hk2 ((hW.2.2.1 k hk2).1 he)) mvl_229 hW.d rfl rfl rfl rfl rfl dL_law_1918 (fun H1 locs1 hH1 hS1 => ?_)
      refine lw_ald 2 C0 hl dL_law_1921 rfl ?_
      refine lw_arg (i := i) 1 C0 hS1 hl hL rfl (by omega) dL_law_1922 dL_law_1923 dL_law_1924 dL_law_1925 dL_law_1926 ?_
      rw [ek]
      refine lw_call (q := (50, 0, 0)) (As := [vi (k : Int)]) (T' := (some (vi (-5)), m')) C0 hKY hH1.sy hS1 hl ⟨by omega, by omega⟩ (kX12_restore hY.1 zok9 hg) mvl_232 (hY.1.1 _ zok9) rfl rfl rfl rfl rfl dL_law_1927 (fun H2 locs2 hH2 hS2 => ?_)
      refine lw_eq C0 dL_law_1930 rfl ?_
      exact W.widen (by omega) (by omega) (hk e X Y I m' H2 locs2 ⟨lw_n hR', hW, hY, hKX, hKY, hH2.sy, hS2⟩ rfl rfl)
  · obtain ⟨m', hg, hR'⟩ := Q_restoreN hR ha hv
    subst h1 h2
    refine lw_ald 1 C0 hl dL_law_1912 rfl ?_
    refine lw_arg (i := i) 1 C0 hS hl hL rfl (by omega) dL_law_1913 dL_law_1914 dL_law_1915 dL_law_1916 dL_law_1917 ?_
    refine lw_call (q := (0, 0, 0)) (As := [vi (xs (i + 1)).toInt]) (T' := (some (vi (-2)), I)) C0 hKX hH hS hl ⟨by omega, by omega⟩ (kX11_restoreN hW.2.1 (by rw [w32x]; exact hv)) mvl_229 hW.d rfl rfl rfl rfl rfl dL_law_1918 (fun H1 locs1 hH1 hS1 => ?_)
    refine lw_ald 2 C0 hl dL_law_1921 rfl ?_
    refine lw_arg (i := i) 1 C0 hS1 hl hL rfl (by omega) dL_law_1922 dL_law_1923 dL_law_1924 dL_law_1925 dL_law_1926 ?_
    refine lw_call (q := (50, 0, 0)) (As := [vi (xs (i + 1)).toInt]) (T' := (some (vi (-2)), m')) C0 hKY hH1.sy hS1 hl ⟨by omega, by omega⟩ (kX12_restore hY.1 zok9 hg) mvl_232 (hY.1.1 _ zok9) rfl rfl rfl rfl rfl dL_law_1927 (fun H2 locs2 hH2 hS2 => ?_)
    refine lw_eq C0 dL_law_1930 rfl ?_
    exact W.widen (by omega) (by omega) (hk e X Y I m' H2 locs2 ⟨lw_n hR', hW, hY, hKX, hKY, hH2.sy, hS2⟩ rfl rfl)
end
