/-! SHORTEST and VERSIONS -/
theorem RC.pd {c m : zMem} (h : RC c m) : ∃ pd : Nat → Nat → Int, (∀ (I : zMem) (s l : Nat), sC c I → s < 16 → l ≤ 60 → ∃ J, fX11_wholeApart (s : Int) (l : Int) I = some (pd s l, J) ∧ sC I J) ∧ (∀ (I : zMem) (s l : Nat), sM m I → s < 16 → l ≤ 60 → ∃ J, fX12_laysOften (s : Int) (l : Int) I = some J ∧ fX12_leastApart 1 J = some (pd s l) ∧ sM I J) ∧ (∀ s l, l ≤ 60 → 0 ≤ pd s l ∧ pd s l ≤ 1000000) ∧ ∀ s a b, a ≤ b → pd s a ≤ pd s b := by
  obtain ⟨hC, hR, hCM, hRM, room, r1, r2, e1, e2⟩ := h
  exact ⟨pda room, fun I s l hI hs hl => s_wholeApart (hC.keep hI) (hR.keep hI) r1 r2 (by rw [hI _ rfl]; exact e1) hs hl, fun I s l hI hs hl => m_whole (hCM.keep hI) (hRM.keep hI) r1 r2 (by rw [hI _ rfl]; exact e2) hs hl, fun s l hl => pda_rng r1 r2 s hl, fun s a b hab => pda_mono room s hab⟩
theorem P_shortest {c m : zMem} (h : RC c m) {s d : Int} (hs : i32 s) (hd : i32 d) : ∃ r c' m', fX11_shortest s d c = some (r, c') ∧ fX12_shortest s d m = some (r, m') ∧ sC c c' ∧ sM m m' := by
  obtain ⟨pd, wh, mw, pr, pmn⟩ := h.pd
  have w0 : w32 d = d := w32_id hd.1 hd.2
  unfold fX11_shortest fX12_shortest
  dsimp only [zlet]
  simp only [w0]
  rw [v_isVersionSet hs, vz, m_isSet hs, vz]
  by_cases h1 : 0 ≤ s ∧ s ≤ 15
  · rw [if_pos h1, if_pos h1, v_isDistance hd, vz, v_within hd (by decide) (by decide), vz]
    by_cases h2 : 1 ≤ d ∧ d ≤ 60
    · rw [if_pos h2, if_pos h2]
      obtain ⟨s, rfl⟩ := nat_of h1.1
      have e60 := wh c s 60 (sC.rf c) (by omega) (by omega)
      obtain ⟨J, j1, j2⟩ := e60
      rw [show fX11_wholeApart (s : Int) 60 c = some (pd s 60, J) from j1, zb_some]
      have p60 := pr s 60 (by omega)
      have w60 : w32 (pd s 60) = pd s 60 := w32_id (by omega) (by omega)
      dsimp only
      rw [w60]
      have hm := zlp_inv (body := fX12_shortest_l29 (s : Int) d) (fun j t => t.1 = ((j + 1 : Nat) : Int) ∧ sM m t.2 ∧ ∀ k, 1 ≤ k → k ≤ j → pd s k < d) (fun t => (∃ x, t = .inl x ∧ sM m x.2 ∧ pd s 60 < d) ∨ ∃ x, t = .inr x ∧ sM m x.2 ∧ ∃ k : Nat, x.1 = (k : Int) ∧ 1 ≤ k ∧ k ≤ 60 ∧ d ≤ pd s k ∧ ∀ i, 1 ≤ i → i < k → pd s i < d) 60 (N := 5000) (by decide) (s0 := (1, zst m (50, 0, 0) 0 0)) ?_ ?_ ?_
      · obtain ⟨R, hr, hq⟩ := hm
        rw [hr]
        by_cases h3 : d ≤ pd s 60
        · rw [if_pos h3]
          rcases hq with ⟨x, -, -, h4⟩ | ⟨x, rfl, x1, k, k1, k2, k3, k4, k5⟩
          · omega
          · have hc := zlp_inv (body := fX11_shortest_l39 (s : Int) d) (fun j t => t.2.2.1 = (j : Int) ∧ sC c t.2.2.2 ∧ ∃ lo hi : Nat, t.1 = (lo : Int) ∧ t.2.1 = (hi : Int) ∧ 1 ≤ lo ∧ lo ≤ hi ∧ hi ≤ 60 ∧ hi - lo + j ≤ 59 ∧ d ≤ pd s hi ∧ ∀ i, 1 ≤ i → i < lo → pd s i < d) (fun t => sC c t.2.2.2 ∧ ∃ lo : Nat, t.1 = (lo : Int) ∧ 1 ≤ lo ∧ lo ≤ 60 ∧ d ≤ pd s lo ∧ ∀ i, 1 ≤ i → i < lo → pd s i < d) 59 (N := 5000) (by decide) (s0 := (1, 60, 0, J)) ?_ ?_ ?_
            · obtain ⟨R', hr', s1, lo, l1, l2, l3, l4, l5⟩ := hc
              rw [hr', zbr_inr, zb_some]
              have : lo = k := by
                by_cases g1 : lo < k
                · have := k5 lo l2 g1; omega
                · by_cases g2 : k < lo
                  · have := l5 k k2 g2; omega
                  · omega
              subst this
              refine ⟨_, _, _, rfl, ?_, s1, x1⟩
              rw [l1, ← k1]
            · exact ⟨rfl, j2, 1, 60, rfl, rfl, by decide, by decide, by decide, by decide, h3, fun i i1 i2 => by omega⟩
            · rintro j ⟨t1, t2, t3, I⟩ hj ⟨a1, a2, lo, hi, b1, b2, b3, b4, b5, b6, b7, b8⟩
              dsimp only at a1 a2 b1 b2
              subst a1 b1 b2
              unfold fX11_shortest_l39
              dsimp only [zlet]
              rw [w32_n (by omega), w32_n (by omega), w32_n (by omega), w0, if_neg (by omega)]
              by_cases g : hi ≤ lo
              · rw [if_pos (by omega)]
                have : hi = lo := by omega
                subst this
                exact Or.inr ⟨_, rfl, a2, hi, rfl, b3, b5, b7, b8⟩
              · have em : ishr ((lo : Int) + (hi : Int)) 1 = (((lo + hi) / 2 : Nat) : Int) := by
                  rw [← Int.natCast_add, show (1 : Int) = ((1 : Nat) : Int) from rfl, ishr_nat (by omega) (by decide)]
                obtain ⟨K, k1', k2'⟩ := wh I s ((lo + hi) / 2) a2 (by omega) (by omega)
                have pm := pr s ((lo + hi) / 2) (by omega)
                rw [if_neg (by omega), em, k1', zb_some, w32_id (by omega) (by omega)]
                unfold fX11_shortest_b39_83
                dsimp only
                by_cases g2 : pd s ((lo + hi) / 2) < d
                · rw [if_pos g2]
                  refine Or.inl ⟨_, rfl, by dsimp only; omega, a2.tr k2', (lo + hi) / 2 + 1, hi, by dsimp only; omega, rfl, by omega, by omega, b5, by omega, b7, fun i i1 i2 => ?_⟩
                  have := pmn s i ((lo + hi) / 2) (by omega)
                  omega
                · rw [if_neg g2]
                  exact Or.inl ⟨_, rfl, by dsimp only; omega, a2.tr k2', lo, (lo + hi) / 2, rfl, rfl, b3, by omega, by omega, by omega, by omega, b8⟩
            · rintro ⟨t1, t2, t3, I⟩ ⟨a1, a2, lo, hi, b1, b2, b3, b4, b5, b6, b7, b8⟩
              dsimp only at a1 a2 b1 b2
              subst a1 b1 b2
              unfold fX11_shortest_l39
              dsimp only [zlet]
              rw [w32_n (by omega), w32_n (by omega), w32_n (by omega), if_neg (by omega), if_pos (by omega)]
              have : hi = lo := by omega
              subst this
              exact ⟨_, rfl, a2, hi, rfl, b3, b5, b7, b8⟩
        · rw [if_neg h3]
          rcases hq with ⟨x, rfl, x1, h4⟩ | ⟨x, rfl, x1, k, k1, k2, k3, k4, k5⟩
          · rw [zbr_inl]; exact ⟨_, _, _, rfl, rfl, j2, x1⟩
          · have := pmn s k 60 k3; omega
      · exact ⟨rfl, sM_th m 0, fun k k1 k2 => by omega⟩
      · rintro j ⟨t1, I⟩ hj ⟨a1, a2, a3⟩
        dsimp only at a1 a2
        subst a1
        obtain ⟨K, k1, k2, k3⟩ := mw I s (j + 1) a2 (by omega) (by omega)
        have pm := pr s (j + 1) (by omega)
        unfold fX12_shortest_l29
        dsimp only
        rw [w32_n (by omega), if_neg (by omega), k1, zb_some, k2, zb_some, w0, w32_id (by omega) (by omega)]
        by_cases g : pd s (j + 1) < d
        · rw [if_pos g]
          refine Or.inl ⟨_, rfl, by dsimp only; omega, a2.tr k3, fun k k1 k2 => ?_⟩
          by_cases e : k = j + 1
          · subst e; exact g
          · exact a3 k k1 (by omega)
        · rw [if_neg g]
          exact Or.inr ⟨_, rfl, Or.inr ⟨_, rfl, a2.tr k3, j + 1, rfl, by omega, by omega, by omega, fun i i1 i2 => a3 i i1 (by omega)⟩⟩
      · rintro ⟨t1, I⟩ ⟨a1, a2, a3⟩
        dsimp only at a1 a2
        subst a1
        unfold fX12_shortest_l29
        dsimp only
        rw [w32_n (by omega), if_pos (by omega)]
        exact ⟨_, rfl, Or.inl ⟨_, rfl, a2, a3 60 (by decide) (by decide)⟩⟩
    · rw [if_neg h2, if_neg h2]; exact ⟨_, _, _, rfl, rfl, sC.rf c, sM_th m 0⟩
  · rw [if_neg h1, if_neg h1]; exact ⟨_, _, _, rfl, rfl, sC.rf c, sM_th m 0⟩
