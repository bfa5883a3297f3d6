/-! TIES -/
def pty (f : Nat → Int) (z : Int) (k : Nat) (n : Nat) : Int := zsm (fun w => if pT f w = z ∧ (k = 0 ∨ prest w = 5) then 1 else 0) n
theorem P_ties {c m : zMem} (hM : iCodeM m) (h : RE c m) {a b : Int} (ha : i32 a) (hb : i32 b) : ∃ r c' m', fX11_ties a b c = some (r, c') ∧ fX12_ties a b m = some (r, m') ∧ sC c c' ∧ sM m m' := by
  have wb : w32 b = b := w32_id hb.1 hb.2
  unfold fX11_ties fX12_ties fX11_refuseEar
  dsimp only [zlet]
  simp only [wb]
  by_cases c0 : 0 ≤ b ∧ b ≤ 1
  · rw [if_neg (show ¬ b < 0 by omega), if_pos c0.2]
    rcases P_refuse2 h ha with ⟨h1, h2⟩ | ⟨h1, h2, h3⟩
    · rw [h1, zb_some, zb_some, h2, zb_some, if_pos w32_0, if_neg (show ¬ w32 (-2) = 0 by decide)]
      exact ⟨_, _, _, rfl, rfl, sC.rf c, sM_th m 0⟩
    · rw [h1, zb_some, if_neg (show ¬ w32 1 = 0 by decide), v_within hb (by decide) (by decide), vz, if_pos c0]
      rcases h3 with ⟨h3, h4⟩ | ⟨p, rfl, p1, h3, hf, J, h4, h5, h6⟩
      · rw [h3, zb_some, zb_some, h4, zb_some, if_neg (show ¬ w32 (-6) = 0 by decide), if_neg (show ¬ w32 (-6) = 0 by decide)]
        exact ⟨_, _, _, rfl, rfl, sC.rf c, sM_th m 0⟩
      · obtain ⟨K, k1, k2, k3⟩ := s_sumAll (f := c (41, 1, p)) (q := (41, 1, p)) (by intro e; cases e) (I := c) (fun _ _ => rfl)
        obtain ⟨bb, b1, b2⟩ := s_greatestBut hf k2 (x := -1) (by decide)
        obtain ⟨r', L, l1, l2, l3⟩ := s_bestNow hf (I := J) h6
        have e := pbest_one l2 (pbut_best b2)
        subst e
        have sL : sM J L := fun q hq => l3 q (km_ne hq rfl) (km_ne hq rfl) (km_ne hq rfl) (km_ne hq rfl)
        obtain ⟨w, rfl, w1, -⟩ := l2
        have hCL := (hM.keep h5).keep sL
        have hSL : ∀ k, k < 39 → L (58, 0, 0) k = c (41, 1, p) k := fun k hk => by rw [l3 _ (by decide) (by decide) (by decide) (by decide)]; exact h6 k hk
        obtain ⟨t, rfl⟩ := nat_of c0.1
        have bw := pT_bd hf w
        have wz : w32 (pT (c (41, 1, p)) w) = pT (c (41, 1, p)) w := w32_id (by omega) (by omega)
        have hc := zlp_0 (body := fX11_ties_l70 (p : Int) (t : Int) (pT (c (41, 1, p)) w) K) (S := fun j => (pty (c (41, 1, p)) (pT (c (41, 1, p)) w) t j, (j : Int))) (r := (pty (c (41, 1, p)) (pT (c (41, 1, p)) w) t 2048, 2048)) 2048 (N := 5000) (by decide) ?_ ?_
        · have hm := zlp_0 (body := fX12_ties_l54 (p : Int) (t : Int) (pT (c (41, 1, p)) w) L) (S := fun j => (pty (c (41, 1, p)) (pT (c (41, 1, p)) w) t j, (j : Int))) (r := (pty (c (41, 1, p)) (pT (c (41, 1, p)) w) t 2048, 2048)) 2048 (N := 5000) (by decide) ?_ ?_
          · rw [h3, zb_some, zb_some, h4, zb_some]
            dsimp only
            rw [if_pos w32_0, if_pos w32_0, if_pos (zin_of (by omega) (by omega) (by decide)), ix_nat (by omega), k1, zb_some, b1, zb_some, if_pos (zin_nat w1 (by decide)), ix_nat (by omega), k2 w w1, l1, zb_some]
            dsimp only
            rw [s_sumNow hCL hSL w1, zb_some]
            refine ⟨pty (c (41, 1, p)) (pT (c (41, 1, p)) w) t 2048, K, L, ?_, ?_, fun q hq => k3 q (kc_ne hq rfl) (kc_ne hq rfl), h5.tr sL⟩
            · exact congrArg (fun o => zb o (fun x9 : Int × Int => some (x9.1, K))) hc
            · exact congrArg (fun o => zb o (fun x10 : Int × Int => some (x10.1, L))) hm
          · intro j hj
            have bj := pT_bd hf j
            unfold fX12_ties_l54 fX12_ties_b54_87 fX12_ties_b54_91 fX12_ties_b54_92
            dsimp only [zlet]
            rw [if_neg (by rw [w32_n (by omega)]; omega), s_sumNow hCL hSL hj, zb_some, w32_id (z := pT (c (41, 1, p)) j) (by omega) (by omega), wz, s_isWholeM hj, vz, w32_n (n := t) (by omega)]
            have es : pty (c (41, 1, p)) (pT (c (41, 1, p)) w) t (j + 1) = pty (c (41, 1, p)) (pT (c (41, 1, p)) w) t j + if pT (c (41, 1, p)) j = pT (c (41, 1, p)) w ∧ (t = 0 ∨ prest j = 5) then 1 else 0 := rfl
            rw [es]
            by_cases c1 : pT (c (41, 1, p)) j = pT (c (41, 1, p)) w
            · rw [if_pos c1]
              by_cases c2 : t = 0
              · rw [if_pos (by omega), if_pos ⟨c1, Or.inl c2⟩]; rfl
              · rw [if_neg (by omega)]
                by_cases c3 : prest j = 5
                · rw [if_pos c3, if_pos ⟨c1, Or.inr c3⟩]; rfl
                · rw [if_neg c3, if_neg (by rintro ⟨-, g | g⟩; exact c2 g; exact c3 g)]; rfl
            · rw [if_neg c1, if_neg (fun g => c1 g.1)]; rfl
          · unfold fX12_ties_l54
            dsimp only
            rw [if_pos (by decide)]
            rfl
        · intro j hj
          have bj := pT_bd hf j
          unfold fX11_ties_l70 fX11_ties_b70_105 fX11_ties_b70_108
          dsimp only
          rw [if_neg (by rw [w32_n (by omega)]; omega), if_pos (zin_nat hj (by decide)), ix_nat (by omega), k2 j hj, w32_id (z := pT (c (41, 1, p)) j) (by omega) (by omega), wz, s_isWhole hj, vz, w32_n (n := t) (by omega)]
          have es : pty (c (41, 1, p)) (pT (c (41, 1, p)) w) t (j + 1) = pty (c (41, 1, p)) (pT (c (41, 1, p)) w) t j + if pT (c (41, 1, p)) j = pT (c (41, 1, p)) w ∧ (t = 0 ∨ prest j = 5) then 1 else 0 := rfl
          rw [es]
          by_cases c1 : pT (c (41, 1, p)) j = pT (c (41, 1, p)) w
          · rw [if_pos c1]
            by_cases c2 : t = 0
            · rw [if_pos (by omega), if_pos ⟨c1, Or.inl c2⟩]; rfl
            · rw [if_neg (by omega)]
              by_cases c3 : prest j = 5
              · rw [if_pos c3, if_pos ⟨c1, Or.inr c3⟩]; rfl
              · rw [if_neg c3, if_neg (by rintro ⟨-, g | g⟩; exact c2 g; exact c3 g), Int.add_zero]; rfl
          · rw [if_neg c1, if_neg (fun g => c1 g.1), Int.add_zero]; rfl
        · unfold fX11_ties_l70
          dsimp only
          rw [if_pos (by decide)]
          rfl
  · refine ⟨-2, c, zst m (50, 0, 0) 0 0, ?_, ?_, sC.rf c, sM_th m 0⟩
    · by_cases c1 : b < 0
      · rw [if_pos c1]
      · rw [if_neg c1, if_neg (by omega)]
    · rcases P_refuse2 h ha with ⟨h1, h2⟩ | ⟨h1, h2, h3⟩
      · rw [h2, zb_some, if_pos w32_0]
      · rw [h1, zb_some, if_neg (show ¬ w32 1 = 0 by decide), v_within hb (by decide) (by decide), vz, if_neg c0]
