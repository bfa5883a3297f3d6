/-! AGAINST and WRONG -/
def pag (f : Nat → Int) (w n : Nat) : Int := zsm (fun c => if psg (pcb w c) (f c) < 0 then 1 else 0) n
theorem s_unlike {f : Nat → Int} (hf : pbd f) {I : zMem} {q : zPl} (hI : ∀ c, c < 39 → I q c = f c) (w : Nat) : fX11_unlikeSigns q (pcode w : Int) I = some (pag f w 39) := by
  have hc := pcode_lt w
  unfold fX11_unlikeSigns
  have hh := zlp_0 (body := fX11_unlikeSigns_l5 q (pcode w : Int) I) (S := fun j => (pag f w j, (j : Int))) (r := (pag f w 39, 39)) 39 (N := 5000) (by decide) ?_ ?_
  · exact congrArg (fun o => zb o (fun x4 : Int × Int => some x4.1)) hh
  · intro j hj
    have bj := hf j hj
    have es : pag f w (j + 1) = pag f w j + if psg (pcb w j) (f j) < 0 then 1 else 0 := rfl
    unfold fX11_unlikeSigns_l5 fX11_unlikeSigns_b5_38 fX11_unlikeSigns_b5_41
    dsimp only
    rw [if_neg (by rw [w32_n (by omega)]; omega), s_isOne hc hj, vz, if_pos (zin_nat hj (by decide)), ix_nat (by omega), hI j hj, w32_id (z := f j) (by omega) (by omega), pcode_bit hj, es]
    unfold psg
    by_cases e : pcb w j = 1
    · rw [if_pos e, if_pos e]
      by_cases c1 : 0 ≤ f j
      · rw [if_pos c1, if_neg (by omega), Int.add_zero]; rfl
      · rw [if_neg c1, if_pos (by omega)]; rfl
    · rw [if_neg e, if_neg e, if_pos (zin_nat hj (by decide))]
      by_cases c1 : f j ≤ 0
      · rw [if_pos c1, if_neg (by omega), Int.add_zero]; rfl
      · rw [if_neg c1, if_pos (by omega)]; rfl
  · unfold fX11_unlikeSigns_l5
    dsimp only
    rw [if_pos (by decide)]
    rfl
theorem s_againstNow {f : Nat → Int} (hf : pbd f) {m : zMem} (hS : ∀ c, c < 39 → m (58, 0, 0) c = f c) {w : Nat} (hw : w < 2048) : fX12_againstNow (w : Int) m = some (pag f w 39) := by
  unfold fX12_againstNow
  have hh := zlp_0 (body := fX12_againstNow_l4 (w : Int) m) (S := fun j => (pag f w j, (j : Int))) (r := (pag f w 39, 39)) 39 (N := 5000) (by decide) ?_ ?_
  · exact congrArg (fun o => zb o (fun x4 : Int × Int => some x4.1)) hh
  · intro j hj
    have bj := psg_bd (pcb w j) (hf j hj)
    have hb := pcb_lt w j
    have es : pag f w (j + 1) = pag f w j + if psg (pcb w j) (f j) < 0 then 1 else 0 := rfl
    unfold fX12_againstNow_l4 fX12_againstNow_b4_33
    dsimp only [zlet]
    rw [if_neg (by rw [w32_n (by omega)]; omega), s_codeBit hw hj, zb_some, if_pos (zin_nat hj (by decide)), ix_nat (by omega), hS j hj, m_signed _ (by omega), zb_some, w32_id (z := psg (pcb w j) (f j)) (by omega) (by omega), es]
    by_cases c1 : 0 ≤ psg (pcb w j) (f j)
    · rw [if_pos c1, if_neg (by omega)]; rfl
    · rw [if_neg c1, if_pos (by omega)]; rfl
  · unfold fX12_againstNow_l4
    dsimp only
    rw [if_pos (by decide)]
    rfl
