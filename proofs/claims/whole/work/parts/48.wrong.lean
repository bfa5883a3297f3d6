theorem P_wrong {c m : zMem} (hC : iCode c) (h : RE c m) {a : Int} (ha : i32 a) : ∃ r c' m', fX11_wrong a c = some (r, c') ∧ fX12_wrong a m = some (r, m') ∧ sC c c' ∧ sM m m' := by
  unfold fX11_wrong fX12_wrong
  dsimp only [zlet]
  rcases P_refuse h ha with ⟨r, h1, h2, h3⟩ | ⟨p, rfl, p1, h2, hf, J, h3, h4, h5⟩
  · rw [h2, zb_some, h3, zb_some, if_neg h1, if_neg h1]
    exact ⟨_, _, _, rfl, rfl, sC.rf c, sM_th m 0⟩
  · obtain ⟨r, K, k1, k2, k3⟩ := s_bestWord hf (q := (41, 1, p)) (by intro e; cases e) (I := c) (fun _ _ => rfl)
    obtain ⟨r', L, l1, l2, l3⟩ := s_bestNow hf (I := J) h5
    have e := pbest_one l2 k2
    subst e
    obtain ⟨w, rfl, w1, -⟩ := l2
    have sK : sC c K := fun q hq => k3 q (kc_ne hq rfl) (kc_ne hq rfl) (kc_ne hq rfl) (kc_ne hq rfl) (kc_ne hq rfl)
    have eK : K (41, 1, p) = c (41, 1, p) := sK _ rfl
    rw [h2, zb_some, h3, zb_some]
    dsimp only
    rw [if_pos w32_0, if_pos w32_0, if_pos (zin_of (by omega) (by omega) (by decide)), ix_nat (n := p) (by omega), k1, zb_some, l1, zb_some]
    dsimp only
    rw [if_pos (zin_nat w1 (by decide)), ix_nat (by omega), (hC.keep sK).1 w w1, s_unlike hf (fun k _ => by rw [eK]) w, zb_some, s_againstNow hf (fun k hk => by rw [l3 _ (by decide) (by decide) (by decide) (by decide)]; exact h5 k hk) w1, zb_some]
    exact ⟨_, _, _, rfl, rfl, sK, h4.tr fun q hq => l3 q (km_ne hq rfl) (km_ne hq rfl) (km_ne hq rfl) (km_ne hq rfl)⟩
