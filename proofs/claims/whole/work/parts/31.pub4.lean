/-! VERSIONS -/
def pcs (s : Nat) : Nat := s % 2 + s / 2 % 2 + s / 4 % 2 + s / 8 % 2
theorem pcs_ok : (List.range 16).all (fun s => decide (fJ6_bitCount_0f7a4 (s : Int) = some (pcs s : Int) ∧ fX12_manyOf (s : Int) = some (pcs s : Int) ∧ pcs s ≤ 4 ∧ (1 ≤ s → 1 ≤ pcs s))) = true := by decide +kernel
theorem pcs_is {s : Nat} (h : s < 16) : fJ6_bitCount_0f7a4 (s : Int) = some (pcs s : Int) ∧ fX12_manyOf (s : Int) = some (pcs s : Int) ∧ pcs s ≤ 4 ∧ (1 ≤ s → 1 ≤ pcs s) := zall pcs_ok h
/-- the set of versions asked for -/
def pvs (q : Nat → Prop) (r : Int) (n : Nat) : Prop := (r = -1 ∧ ∀ s, 1 ≤ s → s < n → ¬ q s) ∨ ∃ k : Nat, r = (k : Int) ∧ 1 ≤ k ∧ k < n ∧ q k ∧ ∀ s, 1 ≤ s → s < n → q s → pcs k < pcs s ∨ (pcs k = pcs s ∧ k ≤ s)
theorem pvs_one {q : Nat → Prop} {a b : Int} {n : Nat} (ha : pvs q a n) (hb : pvs q b n) : a = b := by
  rcases ha with ⟨a1, a2⟩ | ⟨k, k1, k2, k3, k4, k5⟩
  · rcases hb with ⟨b1, b2⟩ | ⟨l, l1, l2, l3, l4, l5⟩
    · rw [a1, b1]
    · exact absurd l4 (a2 l l2 l3)
  · rcases hb with ⟨b1, b2⟩ | ⟨l, l1, l2, l3, l4, l5⟩
    · exact absurd k4 (b2 k k2 k3)
    · have x := k5 l l2 l3 l4
      have y := l5 k k2 k3 k4
      rw [k1, l1]; omega
theorem P_versions {c m : zMem} (h : RC c m) {l d : Int} (hl : i32 l) (hd : i32 d) : ∃ r c' m', fX11_versions l d c = some (r, c') ∧ fX12_versions l d m = some (r, m') ∧ sC c c' ∧ sM m m' := by
  obtain ⟨pd, wh, mw, pr, pmn⟩ := h.pd
  have w0 : w32 d = d := w32_id hd.1 hd.2
  unfold fX11_versions fX12_versions
  dsimp only [zlet]
  simp only [w0]
  rw [v_isLength hl, vz, m_isLength hl, vz]
  by_cases h1 : 1 ≤ l ∧ l ≤ 60
  · rw [if_pos h1, if_pos h1, v_isDistance hd, vz, v_within hd (by decide) (by decide), vz]
    by_cases h2 : 1 ≤ d ∧ d ≤ 60
    · rw [if_pos h2, if_pos h2]
      obtain ⟨l, rfl⟩ := nat_of (show 0 ≤ l by omega)
      have hm := zlp_inv (body := fX12_versions_l32 (l : Int) d) (fun j t => t.2.1 = ((j + 1 : Nat) : Int) ∧ sM m t.2.2 ∧ pvs (fun s => d ≤ pd s l) t.1 (j + 1)) (fun t => sM m t.2.2 ∧ pvs (fun s => d ≤ pd s l) t.1 16) 15 (N := 5000) (by decide) (s0 := ((-1), 1, zst m (50, 0, 0) 0 0)) ?_ ?_ ?_
      · obtain ⟨R, hr, q1, q2⟩ := hm
        rw [hr, zb_some]
        have hc := zlp_inv (body := fX11_versions_l19 (l : Int) d) (fun j t => t.1 = ((j + 1 : Nat) : Int) ∧ sC c t.2 ∧ ∀ s, 1 ≤ s → s < 16 → pcs s ≤ j → ¬ d ≤ pd s l) (fun t => (∃ x, t = .inl x ∧ sC c x.2 ∧ pvs (fun s => d ≤ pd s l) (-1) 16) ∨ ∃ x, t = .inr x ∧ sC c x.2 ∧ pvs (fun s => d ≤ pd s l) x.1 16) 4 (N := 5000) (by decide) (s0 := (1, c)) ?_ ?_ ?_
        · obtain ⟨R', hr', hq⟩ := hc
          rw [hr']
          rcases hq with ⟨x, rfl, x1, x2⟩ | ⟨x, rfl, x1, x2⟩
          · rw [zbr_inl]
            refine ⟨_, _, _, rfl, ?_, x1, q1⟩
            rw [pvs_one q2 x2]
          · rw [zbr_inr]
            refine ⟨_, _, _, rfl, ?_, x1, q1⟩
            rw [pvs_one q2 x2]
        · exact ⟨rfl, sC.rf c, fun s s1 s2 s3 => by have := (pcs_is s2).2.2.2 s1; omega⟩
        · rintro j ⟨t1, I⟩ hj ⟨a1, a2, a3⟩
          dsimp only at a1 a2
          subst a1
          unfold fX11_versions_l19
          dsimp only
          rw [w32_n (by omega), if_neg (by omega)]
          have hi := zlp_inv (body := fX11_versions_l27 (l : Int) d ((j + 1 : Nat) : Int)) (fun i t => t.1 = ((i + 1 : Nat) : Int) ∧ sC c t.2 ∧ ∀ s, 1 ≤ s → s ≤ i → pcs s = j + 1 → ¬ d ≤ pd s l) (fun t => (∃ x, t = .inl x ∧ sC c x.2 ∧ ∀ s, 1 ≤ s → s < 16 → pcs s = j + 1 → ¬ d ≤ pd s l) ∨ ∃ x, t = .inr x ∧ sC c x.2 ∧ ∃ k : Nat, x.1 = (k : Int) ∧ 1 ≤ k ∧ k < 16 ∧ pcs k = j + 1 ∧ d ≤ pd k l ∧ ∀ s, 1 ≤ s → s < k → pcs s = j + 1 → ¬ d ≤ pd s l) 15 (N := 5000) (by decide) (s0 := (1, I)) ?_ ?_ ?_
          · obtain ⟨R', hr', hq⟩ := hi
            rw [hr']
            rcases hq with ⟨x, rfl, x1, x2⟩ | ⟨x, rfl, x1, k, k1, k2, k3, k4, k5, k6⟩
            · rw [zbr_inl]
              refine Or.inl ⟨_, rfl, by dsimp only; omega, x1, fun s s1 s2 s3 => ?_⟩
              by_cases e : pcs s = j + 1
              · exact x2 s s1 s2 e
              · exact a3 s s1 s2 (by omega)
            · rw [zbr_inr]
              refine Or.inr ⟨_, rfl, Or.inr ⟨_, rfl, x1, Or.inr ⟨k, k1, k2, k3, k5, fun s s1 s2 s3 => ?_⟩⟩⟩
              by_cases e : pcs s ≤ j
              · exact absurd s3 (a3 s s1 s2 e)
              · by_cases e2 : pcs s = j + 1
                · by_cases e3 : s < k
                  · exact absurd s3 (k6 s s1 e3 e2)
                  · exact Or.inr ⟨by omega, by omega⟩
                · exact Or.inl (by omega)
          · exact ⟨rfl, a2, fun s s1 s2 => by omega⟩
          · rintro i ⟨u1, K⟩ hi ⟨b1, b2, b3⟩
            dsimp only at b1 b2
            subst b1
            have hp := pcs_is (s := i + 1) (by omega)
            unfold fX11_versions_l27 fX11_versions_b27_57
            dsimp only
            rw [w32_n (n := i + 1) (by omega), if_neg (by omega), hp.1, zb_some, w32_n (n := pcs (i + 1)) (by omega), w32_n (n := j + 1) (by omega), w0]
            by_cases e : pcs (i + 1) = j + 1
            · obtain ⟨K', k1, k2⟩ := wh K (i + 1) l b2 (by omega) (by omega)
              have hr := pr (i + 1) l (by omega)
              rw [if_pos (by omega), k1, zb_some, w32_id (by omega) (by omega)]
              dsimp only
              by_cases g : pd (i + 1) l < d
              · rw [if_pos g]
                refine Or.inl ⟨_, rfl, by dsimp only; omega, b2.tr k2, fun s s1 s2 s3 => ?_⟩
                by_cases e1 : s = i + 1
                · subst e1; omega
                · exact b3 s s1 (by omega) s3
              · rw [if_neg g]
                exact Or.inr ⟨_, rfl, Or.inr ⟨_, rfl, b2.tr k2, i + 1, rfl, by omega, by omega, e, by omega, fun s s1 s2 s3 => b3 s s1 (by omega) s3⟩⟩
            · rw [if_neg (by omega)]
              refine Or.inl ⟨_, rfl, by dsimp only; omega, b2, fun s s1 s2 s3 => ?_⟩
              by_cases e1 : s = i + 1
              · subst e1; exact absurd s3 e
              · exact b3 s s1 (by omega) s3
          · rintro ⟨u1, K⟩ ⟨b1, b2, b3⟩
            dsimp only at b1 b2
            subst b1
            unfold fX11_versions_l27
            dsimp only
            rw [w32_n (by omega), if_pos (by omega)]
            exact ⟨_, rfl, Or.inl ⟨_, rfl, b2, fun s s1 s2 s3 => b3 s s1 (by omega) s3⟩⟩
        · rintro ⟨t1, I⟩ ⟨a1, a2, a3⟩
          dsimp only at a1 a2
          subst a1
          unfold fX11_versions_l19
          dsimp only
          rw [w32_n (by omega), if_pos (by omega)]
          exact ⟨_, rfl, Or.inl ⟨_, rfl, a2, Or.inl ⟨rfl, fun s s1 s2 => a3 s s1 s2 (pcs_is s2).2.2.1⟩⟩⟩
      · exact ⟨rfl, sM_th m 0, Or.inl ⟨rfl, fun s s1 s2 => by omega⟩⟩
      · rintro j ⟨t1, t2, I⟩ hj ⟨a1, a2, a3⟩
        dsimp only at a1 a2 a3
        subst a1
        obtain ⟨K, k1, k2, k3⟩ := mw I (j + 1) l a2 (by omega) (by omega)
        have hr := pr (j + 1) l (by omega)
        have hp := pcs_is (s := j + 1) (by omega)
        unfold fX12_versions_l32 fX12_versions_b32_59 fX12_versions_b32_81 fX12_versions_b32_82
        dsimp only
        rw [w32_n (n := j + 1) (by omega), if_neg (by omega), k1, zb_some, k2, zb_some, w0, w32_id (z := pd (j + 1) l) (by omega) (by omega), hp.2.1, zb_some]
        rcases a3 with ⟨rfl, a4⟩ | ⟨k, rfl, c2, c3, c4, c5⟩
        · rw [if_pos (by decide)]
          by_cases g : pd (j + 1) l < d
          · rw [if_pos g]
            refine Or.inl ⟨_, rfl, by dsimp only; omega, a2.tr k3, Or.inl ⟨rfl, fun s s1 s2 => ?_⟩⟩
            by_cases e1 : s = j + 1
            · subst e1; omega
            · exact a4 s s1 (by omega)
          · rw [if_neg g]
            refine Or.inl ⟨_, rfl, by dsimp only; omega, a2.tr k3, Or.inr ⟨j + 1, rfl, by omega, by omega, by omega, fun s s1 s2 s3 => ?_⟩⟩
            by_cases e1 : s = j + 1
            · subst e1; exact Or.inr ⟨rfl, Nat.le_refl _⟩
            · exact absurd s3 (a4 s s1 (by omega))
        · have hk := pcs_is (s := k) (by omega)
          rw [w32_n (n := k) (by omega), if_neg (by omega), hk.2.1, zb_some, w32_n (n := pcs k) (by omega), w32_n (n := pcs (j + 1)) (by omega)]
          by_cases g0 : pcs (j + 1) < pcs k
          · rw [if_pos (by omega)]
            by_cases g : pd (j + 1) l < d
            · rw [if_pos g]
              refine Or.inl ⟨_, rfl, by dsimp only; omega, a2.tr k3, Or.inr ⟨k, rfl, c2, by omega, c4, fun s s1 s2 s3 => ?_⟩⟩
              by_cases e1 : s = j + 1
              · subst e1; omega
              · exact c5 s s1 (by omega) s3
            · rw [if_neg g]
              refine Or.inl ⟨_, rfl, by dsimp only; omega, a2.tr k3, Or.inr ⟨j + 1, rfl, by omega, by omega, by omega, fun s s1 s2 s3 => ?_⟩⟩
              by_cases e1 : s = j + 1
              · subst e1; exact Or.inr ⟨rfl, Nat.le_refl _⟩
              · have := c5 s s1 (by omega) s3; omega
          · rw [if_neg (by omega)]
            refine Or.inl ⟨_, rfl, by dsimp only; omega, a2, Or.inr ⟨k, rfl, c2, by omega, c4, fun s s1 s2 s3 => ?_⟩⟩
            by_cases e1 : s = j + 1
            · subst e1; omega
            · exact c5 s s1 (by omega) s3
      · rintro ⟨t1, t2, I⟩ ⟨a1, a2, a3⟩
        dsimp only at a1 a2 a3
        subst a1
        unfold fX12_versions_l32
        dsimp only
        rw [w32_n (by omega), if_pos (by omega)]
        exact ⟨_, rfl, a2, a3⟩
    · rw [if_neg h2, if_neg h2]; exact ⟨_, _, _, rfl, rfl, sC.rf c, sM_th m 0⟩
  · rw [if_neg h1, if_neg h1]; exact ⟨_, _, _, rfl, rfl, sC.rf c, sM_th m 0⟩
