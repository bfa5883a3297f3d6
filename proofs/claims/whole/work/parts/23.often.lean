/-- how often each bit is sent by a set of versions -/
def pof1 (room set len c v : Nat) : Int := if set / 2 ^ v % 2 = 1 then pct (psq room v) len c else 0
def pof (room set len c : Nat) : Int := zsm (pof1 room set len c) 4
theorem pof1_rng (room set len c v : Nat) : 0 ≤ pof1 room set len c v ∧ pof1 room set len c v ≤ len := by
  unfold pof1; split
  · exact pct_pos _ _ _
  · omega
theorem s_countVersions {I : zMem} (hR : iRing I) {room set len : Nat} (h1 : 16 ≤ room) (h2 : room ≤ 48) (hroom : I (7, 1, 0) 4 = room) (hs : set < 16) (hl : len ≤ 60) : ∃ J, fX11_countVersions (set : Int) (len : Int) I = some J ∧ (∀ q, q ≠ (13, 0, 0) → q ≠ (20, 0, 0) → J q = I q) ∧ ∀ c, c < 39 → J (13, 0, 0) c = pof room set len c := by
  unfold fX11_countVersions
  rw [s_fillI _ (by decide), zb_some]
  have hh := zlp_inv (body := fX11_countVersions_l10 (set : Int) (len : Int)) (fun j s => s.1 = (j : Int) ∧ (∀ q, q ≠ (13, 0, 0) → q ≠ (20, 0, 0) → s.2 q = I q) ∧ ∀ c, c < 39 → s.2 (13, 0, 0) c = zsm (pof1 room set len c) j) (fun r => (∀ q, q ≠ (13, 0, 0) → q ≠ (20, 0, 0) → r.2 q = I q) ∧ ∀ c, c < 39 → r.2 (13, 0, 0) c = pof room set len c) 4 (N := 5000) (by decide) (s0 := (0, zmp I (13, 0, 0) 39 (fun _ => 0))) ?_ ?_ ?_
  · obtain ⟨r, hr, hq⟩ := hh
    exact ⟨r.2, by rw [hr]; rfl, hq.1, hq.2⟩
  · exact ⟨rfl, fun q a b => zmp_ne a, fun c hc => (zmp_in hc : zmp I (13, 0, 0) 39 (fun _ => 0) (13, 0, 0) c = 0)⟩
  · rintro j ⟨x, K⟩ hj ⟨e1, e2, e3⟩
    dsimp only at e1 e2 e3
    subst e1
    refine Or.inl ?_
    have hR' : iRing K := ⟨fun k hk => by rw [e2 _ (by decide) (by decide)]; exact hR.1 k hk, fun k hk => by rw [e2 _ (by decide) (by decide)]; exact hR.2 k hk⟩
    have hdiv : ((set / 2 ^ j : Nat) : Int) % 2 = ((set / 2 ^ j % 2 : Nat) : Int) := by omega
    unfold fX11_countVersions_l10 fX11_countVersions_b10_52
    dsimp only
    rw [if_neg (by rw [w32_n (by omega)]; omega), ishr_nat (by omega) (by omega), hdiv]
    by_cases hc : set / 2 ^ j % 2 = 1
    · rw [if_pos (by omega), e2 _ (by decide) (by decide), hroom, s_lay hR' h1 h2 hj hl, zb_some, s_addTo (sq := psq room j) (by decide) hl (fun i hi => ⟨zmp_in hi, psq_rng j i h1 h2⟩), zb_some]
      refine ⟨_, rfl, rfl, fun q a b => ?_, fun c hc' => ?_⟩
      · dsimp only; rw [zpl_ne a, zmp_ne b, e2 q a b]
      · dsimp only; rw [zpl_at, zmp_ne (show ((13, 0, 0) : zPl) ≠ (20, 0, 0) by decide), e3 c hc', zsm]
        unfold pof1; rw [if_pos hc]
    · rw [if_neg (by omega)]
      refine ⟨_, rfl, rfl, e2, fun c hc' => ?_⟩
      dsimp only; rw [e3 c hc', zsm]
      unfold pof1; rw [if_neg hc]; omega
  · rintro ⟨x, K⟩ ⟨e1, e2, e3⟩
    dsimp only at e1 e2 e3
    subst e1
    exact ⟨_, by unfold fX11_countVersions_l10; dsimp only; rw [if_pos (by rw [w32_n (by omega)]; omega)], e2, e3⟩
/-- what the model's ring holds -/
def iRingM (m : zMem) : Prop := ∀ a, a < 48 → m (55, 0, 0) a = pplace a
theorem pplace_rng {a : Nat} (h : a < 48) : -1 ≤ pplace a ∧ pplace a ≤ 38 ∧ (pplace a ≠ -1 → pord (pfil a) = pplace a ∧ pfil a < 39) := zall pplace_ok h
theorem s_laysSending {m : zMem} (hR : iRingM m) {room v len : Nat} (h1 : 16 ≤ room) (h2 : room ≤ 48) (hroom : m (51, 0, 0) 4 = room) (hv : v < 4) (hl : len ≤ 60) : ∃ J, fX12_laysSending (v : Int) (len : Int) m = some J ∧ (∀ q, q ≠ (56, 0, 0) → J q = m q) ∧ ∀ i, i < len → J (56, 0, 0) i = psq room v i := by
  have hs := pfil_size h1 h2
  have hvr3 : v * room ≤ 3 * room := Nat.mul_le_mul_right _ (by omega)
  unfold fX12_laysSending
  dsimp only [zlet]
  rw [hroom, ← Int.natCast_mul, idiv_of (by omega) (by omega) (by decide) (by decide), show ((v * room : Nat) : Int) / 4 = ((v * room / 4 : Nat) : Int) by omega]
  generalize ha0 : v * room / 4 = a0
  have ha1 : a0 < room := by omega
  have hpat : pat room v = pfil a0 := by unfold pat; rw [ha0]
  have hh := zlp_inv (body := fX12_laysSending_l14 (v : Int) (len : Int)) (fun j s => s.1 = (((a0 + j) % room : Nat) : Int) ∧ (∃ n : Nat, s.2.1 = (n : Int) ∧ n ≤ len ∧ pfil a0 + n = pfil room * ((a0 + j) / room) + pfil ((a0 + j) % room) ∧ ∀ i, i < n → s.2.2 (56, 0, 0) i = psq room v i) ∧ ∀ q, q ≠ (56, 0, 0) → s.2.2 q = m q) (fun r => (∀ q, q ≠ (56, 0, 0) → r.2.2 q = m q) ∧ ∀ i, i < len → r.2.2 (56, 0, 0) i = psq room v i) (5 * room) (N := 5000) (by omega) (s0 := ((a0 : Int), 0, m)) ?_ ?_ ?_
  · obtain ⟨r, hr, hq⟩ := hh
    exact ⟨r.2.2, by rw [hr]; rfl, hq.1, hq.2⟩
  · refine ⟨by rw [Nat.add_zero, Nat.mod_eq_of_lt ha1], ⟨0, rfl, Nat.zero_le _, ?_, fun i hi => absurd hi (Nat.not_lt_zero i)⟩, fun _ _ => rfl⟩
    rw [show a0 + 0 = a0 from rfl, Nat.mod_eq_of_lt ha1, Nat.div_eq_of_lt ha1]; omega
  · rintro j ⟨x, y, K⟩ hj ⟨e1, ⟨n, e2, hn, e3, e4⟩, e5⟩
    dsimp only at e1 e2 e4 e5
    subst e1 e2
    have hp : (a0 + j) % room < room := Nat.mod_lt _ (by omega)
    have hsd := pmod_s (x := a0 + j) (s := room) (by omega)
    have hdv : (a0 + (j + 1)) / room = (a0 + j) / room + if (a0 + j) % room + 1 < room then 0 else 1 := by
      have q1 := Nat.div_add_mod (a0 + j) room
      have q2 := Nat.div_add_mod (a0 + (j + 1)) room
      rw [show a0 + (j + 1) = a0 + j + 1 by omega] at q2 ⊢
      rw [hsd] at q2
      split at q2
      · rw [if_pos (by assumption)]
        have : room * ((a0 + j + 1) / room) = room * ((a0 + j) / room) := by omega
        rw [Nat.add_zero]; exact Nat.eq_of_mul_eq_mul_left (by omega) this
      · rw [if_neg (by assumption)]
        have : room * ((a0 + j + 1) / room) = room * ((a0 + j) / room + 1) := by rw [Nat.mul_add]; omega
        exact Nat.eq_of_mul_eq_mul_left (by omega) this
    have hfr : pfil ((a0 + j) % room + 1) ≤ pfil room := pfil_mono hp
    generalize hP : (a0 + j) % room = p at *
    generalize hD : (a0 + j) / room = dv at *
    have hpl := pplace_rng (a := p) (by omega)
    unfold fX12_laysSending_l14
    dsimp only
    by_cases hend : n = len
    · subst hend
      exact Or.inr ⟨_, by rw [if_pos (Int.le_refl _)], e5, e4⟩
    · refine Or.inl ?_
      rw [if_neg (by rw [w32_n (by omega), w32_n (by omega)]; omega), if_pos (zin_nat (by omega) (by decide))]
      have ep : K (55, 0, 0) (ix (p : Int)) = pplace p := by rw [ix_nat (by omega), e5 _ (by decide)]; exact hR p (by omega)
      -- the step on
      have go : ∀ (n' : Nat) (K' : zMem), K' (51, 0, 0) 4 = room → (∃ s', fX12_laysSending_b14_46 (v : Int) (len : Int) (p : Int) (n' : Int) K' = some (.inl s') ∧ s'.1 = (((a0 + (j + 1)) % room : Nat) : Int) ∧ s'.2.1 = (n' : Int) ∧ s'.2.2 = K') := by
        intro n' K' hK
        unfold fX12_laysSending_b14_46 fX12_laysSending_b14_65
        rw [hK, w32_n (n := room) (by omega), show ((p : Int) + 1) = ((p + 1 : Nat) : Int) by omega, w32_n (by omega), show a0 + (j + 1) = a0 + j + 1 by omega, hsd]
        by_cases hc : p + 1 < room
        · rw [if_neg (by omega), if_pos hc]; exact ⟨_, rfl, rfl, rfl, rfl⟩
        · rw [if_pos (by omega), if_neg hc]; exact ⟨_, rfl, rfl, rfl, rfl⟩
      have hpf := pfil_s p
      have nxt : pfil room * ((a0 + (j + 1)) / room) + pfil ((a0 + (j + 1)) % room) = pfil room * dv + pfil (p + 1) := by
        rw [hdv, show a0 + (j + 1) = a0 + j + 1 by omega, hsd]
        by_cases hc : p + 1 < room
        · rw [if_pos hc, if_pos hc, Nat.add_zero]
        · rw [if_neg hc, if_neg hc, Nat.mul_add, show p + 1 = room by omega]
          show pfil room * dv + pfil room * 1 + pfil 0 = _
          rw [show pfil 0 = 0 from rfl]; omega
      by_cases hem : pplace p = -1
      · rw [if_pos (by rw [ep, hem]; rfl)]
        obtain ⟨s', g1, g2, g3, g4⟩ := go n K (by rw [e5 _ (by decide)]; exact hroom)
        refine ⟨s', g1, g2, ⟨n, g3, hn, ?_, by rw [g4]; exact e4⟩, by rw [g4]; exact e5⟩
        rw [nxt, hpf, if_pos hem]; omega
      · have hpo := hpl.2.2 hem
        rw [if_neg (by rw [ep, w32_id (by omega) (by omega)]; exact hem), if_pos (zin_nat (by omega) (by decide))]
        dsimp only [zlet]
        rw [ep, ix_nat (by omega), show ((n : Int) + 1) = ((n + 1 : Nat) : Int) by omega]
        obtain ⟨s', g1, g2, g3, g4⟩ := go (n + 1) (zst K (56, 0, 0) n (pplace p)) (by rw [zst_nq (by decide), e5 _ (by decide)]; exact hroom)
        refine ⟨s', g1, g2, ⟨n + 1, g3, by omega, ?_, fun i hi => ?_⟩, fun q hq => ?_⟩
        · rw [nxt, hpf, if_neg hem]; omega
        · rw [g4]
          by_cases hin : i = n
          · subst hin
            rw [zst_at]
            unfold psq
            rw [hpat, e3, Nat.mul_add_mod, Nat.mod_eq_of_lt (by rw [hpf, if_neg hem] at hfr; omega)]
            exact hpo.1.symm
          · rw [zst_nk hin]; exact e4 i (by omega)
        · rw [g4, zst_nq hq]; exact e5 q hq
  · rintro ⟨x, y, K⟩ ⟨e1, ⟨n, e2, hn, e3, e4⟩, e5⟩
    exfalso
    have q1 : (a0 + 5 * room) / room = 5 := by rw [Nat.add_mul_div_right _ _ (by omega), Nat.div_eq_of_lt ha1]
    have q2 : (a0 + 5 * room) % room = a0 := by rw [Nat.add_mul_mod_self_right, Nat.mod_eq_of_lt ha1]
    rw [q1, q2] at e3
    omega
theorem s_clearsOften (m : zMem) : fX12_clearsOften m = some (zmp m (57, 0, 0) 39 (fun _ => 0)) := by
  unfold fX12_clearsOften
  have h := zlp_0 (body := fX12_clearsOften_l2) (S := fun j => ((j : Int), zmp m (57, 0, 0) j (fun _ => 0))) (r := ((39 : Int), zmp m (57, 0, 0) 39 (fun _ => 0))) 39 (N := 5000) (by omega) ?_ ?_
  · rw [show ((0 : Int), m) = (((0 : Nat) : Int), zmp m (57, 0, 0) 0 (fun _ => 0)) by rw [zmp_0]; rfl, h]
    rfl
  · intro j hj
    unfold fX12_clearsOften_l2
    dsimp only [zlet]
    rw [if_neg (by rw [w32_n (by omega)]; omega), if_pos (zin_nat (by omega) (by decide)), ix_nat (by omega), zmp_s m (57, 0, 0) j (fun _ => 0)]
    rfl
  · rfl
theorem s_addsOften {m : zMem} (hR : iRingM m) {room v len : Nat} (h1 : 16 ≤ room) (h2 : room ≤ 48) (hroom : m (51, 0, 0) 4 = room) (hv : v < 4) (hl : len ≤ 60) : ∃ J, fX12_addsOften (v : Int) (len : Int) m = some J ∧ (∀ q, q ≠ (56, 0, 0) → q ≠ (57, 0, 0) → J q = m q) ∧ ∀ c, J (57, 0, 0) c = m (57, 0, 0) c + pct (psq room v) len c := by
  unfold fX12_addsOften
  obtain ⟨K, k1, k2, k3⟩ := s_laysSending hR h1 h2 hroom hv hl
  rw [k1, zb_some]
  have h := zlp_0 (body := fX12_addsOften_l8 (v : Int) (len : Int)) (S := fun j => ((j : Int), zpl K (57, 0, 0) (pct (psq room v) j))) (r := ((len : Int), zpl K (57, 0, 0) (pct (psq room v) len))) len (N := 5000) (by omega) ?_ ?_
  · rw [show ((0 : Int), K) = (((0 : Nat) : Int), zpl K (57, 0, 0) (pct (psq room v) 0)) by rw [show pct (psq room v) 0 = fun _ => 0 from funext fun _ => rfl, zpl_0]; rfl, h]
    refine ⟨_, rfl, fun q a b => ?_, fun c => ?_⟩
    · dsimp only; rw [zpl_ne b, k2 q a]
    · dsimp only; rw [zpl_at, k2 _ (by decide)]
  · intro j hj
    have e2 := psq_rng v j h1 h2
    have e4 : zpl K (57, 0, 0) (pct (psq room v) j) (56, 0, 0) (ix (j : Int)) = psq room v j := by rw [ix_nat (by omega), zpl_ne (by decide)]; exact k3 j hj
    unfold fX12_addsOften_l8
    dsimp only [zlet]
    rw [if_neg (by rw [w32_n (by omega), w32_n (by omega)]; omega), if_pos (zin_nat (by omega) (by decide)), if_pos (by rw [e4]; exact zin_of e2.1 (by omega) (by decide)), e4, ix_of e2.1 (by omega), zpl_s]
    rfl
  · unfold fX12_addsOften_l8
    dsimp only
    rw [if_pos (Int.le_refl _)]
theorem s_laysOften {m : zMem} (hR : iRingM m) {room set len : Nat} (h1 : 16 ≤ room) (h2 : room ≤ 48) (hroom : m (51, 0, 0) 4 = room) (hs : set < 16) (hl : len ≤ 60) : ∃ J, fX12_laysOften (set : Int) (len : Int) m = some J ∧ (∀ q, q ≠ (56, 0, 0) → q ≠ (57, 0, 0) → J q = m q) ∧ ∀ c, c < 39 → J (57, 0, 0) c = pof room set len c := by
  unfold fX12_laysOften
  rw [s_clearsOften, zb_some]
  have hh := zlp_inv (body := fX12_laysOften_l6 (set : Int) (len : Int)) (fun j s => s.1 = (j : Int) ∧ (∀ q, q ≠ (56, 0, 0) → q ≠ (57, 0, 0) → s.2 q = m q) ∧ ∀ c, c < 39 → s.2 (57, 0, 0) c = zsm (pof1 room set len c) j) (fun r => (∀ q, q ≠ (56, 0, 0) → q ≠ (57, 0, 0) → r.2 q = m q) ∧ ∀ c, c < 39 → r.2 (57, 0, 0) c = pof room set len c) 4 (N := 5000) (by decide) (s0 := (0, zmp m (57, 0, 0) 39 (fun _ => 0))) ?_ ?_ ?_
  · obtain ⟨r, hr, hq⟩ := hh
    exact ⟨r.2, by rw [hr]; rfl, hq.1, hq.2⟩
  · exact ⟨rfl, fun q a b => zmp_ne b, fun c hc => (zmp_in hc : zmp m (57, 0, 0) 39 (fun _ => 0) (57, 0, 0) c = 0)⟩
  · rintro j ⟨x, K⟩ hj ⟨e1, e2, e3⟩
    dsimp only at e1 e2 e3
    subst e1
    refine Or.inl ?_
    have hR' : iRingM K := fun k hk => by rw [e2 _ (by decide) (by decide)]; exact hR k hk
    have hdiv : ((set / 2 ^ j : Nat) : Int) % 2 = ((set / 2 ^ j % 2 : Nat) : Int) := by omega
    unfold fX12_laysOften_l6 fX12_laysOften_b6_26
    dsimp only
    rw [if_neg (by rw [w32_n (by omega)]; omega), ishr_nat (by omega) (by omega), hdiv]
    by_cases hc : set / 2 ^ j % 2 = 1
    · obtain ⟨K2, g1, g2, g3⟩ := s_addsOften hR' h1 h2 (by rw [e2 _ (by decide) (by decide)]; exact hroom) hj hl
      rw [if_pos (by omega), g1, zb_some]
      refine ⟨_, rfl, rfl, fun q a b => ?_, fun c hc' => ?_⟩
      · dsimp only; rw [g2 q a b, e2 q a b]
      · dsimp only; rw [g3, e3 c hc', zsm]
        unfold pof1; rw [if_pos hc]
    · rw [if_neg (by omega)]
      refine ⟨_, rfl, rfl, e2, fun c hc' => ?_⟩
      dsimp only; rw [e3 c hc', zsm]
      unfold pof1; rw [if_neg hc]; omega
  · rintro ⟨x, K⟩ ⟨e1, e2, e3⟩
    dsimp only at e1 e2 e3
    subst e1
    exact ⟨_, by unfold fX12_laysOften_l6; dsimp only; rw [if_pos (by rw [w32_n (by omega)]; omega)], e2, e3⟩
