/-! DISTANCES, public -/
theorem P_between {c m : zMem} (h : RC c m) {a b s l : Int} (ha : i32 a) (hb : i32 b) (hs : i32 s) (hl : i32 l) : ∃ r c' m', fX11_between a b s l c = some (r, c') ∧ fX12_between a b s l m = some (r, m') ∧ sC c c' ∧ sM m m' := by
  obtain ⟨hC, hR, hCM, hRM, room, r1, r2, e1, e2⟩ := h
  unfold fX11_between fX12_between
  dsimp only [zlet]
  rw [v_isWord ha, vz, m_isWord ha, vz]
  by_cases h1 : 0 ≤ a ∧ a ≤ 2047
  · rw [if_pos h1, if_pos h1, v_isWord hb, vz, m_isWord hb, vz]
    by_cases h2 : 0 ≤ b ∧ b ≤ 2047
    · rw [if_pos h2, if_pos h2, v_isVersionSet hs, vz, m_isSet hs, vz]
      by_cases h3 : 0 ≤ s ∧ s ≤ 15
      · rw [if_pos h3, if_pos h3, v_isLength hl, vz, m_isLength hl, vz]
        by_cases h4 : 1 ≤ l ∧ l ≤ 60
        · rw [if_pos h4, if_pos h4]
          obtain ⟨a, rfl⟩ := nat_of h1.1
          obtain ⟨b, rfl⟩ := nat_of h2.1
          obtain ⟨s, rfl⟩ := nat_of h3.1
          obtain ⟨l, rfl⟩ := nat_of (show 0 ≤ l by omega)
          have hg : ∀ c, c < 39 → gof room s l c < 64 := fun c _ => (gof_is r1 r2 s c (by omega)).2
          obtain ⟨J, j1, j2, j3⟩ := s_weighVersions hR r1 r2 e1 (set := s) (len := l) (by omega) (by omega)
          obtain ⟨K, k1, k2, k3⟩ := m_laysOften (m := zst m (50, 0, 0) 0 0) (hRM.keep (sM_th m 0)) r1 r2 (by rw [zst_nq (by decide)]; exact e2) (set := s) (len := l) (by omega) (by omega)
          have hCJ := hC.keep j2
          have hCK := (hCM.keep (sM_th m 0)).keep k2
          rw [j1, zb_some, k1, zb_some, if_pos (zin_nat (by omega) (by decide)), if_pos (zin_nat (by omega) (by decide)), ix_nat (by omega), ix_nat (by omega), hCJ.1 a (by omega), hCJ.1 b (by omega), lxor_nat (Nat.lt_trans (pcode_lt a) (by decide)) (Nat.lt_trans (pcode_lt b) (by decide)), s_weigh hg j3 (pxor_lt _ _), zb_some, s_apart hCK k3 (by omega) (by omega), zb_some]
          exact ⟨_, _, _, rfl, rfl, j2, (sM_th m 0).tr k2⟩
        · rw [if_neg h4, if_neg h4]; exact ⟨_, _, _, rfl, rfl, sC.rf c, sM_th m 0⟩
      · rw [if_neg h3, if_neg h3]; exact ⟨_, _, _, rfl, rfl, sC.rf c, sM_th m 0⟩
    · rw [if_neg h2, if_neg h2]; exact ⟨_, _, _, rfl, rfl, sC.rf c, sM_th m 0⟩
  · rw [if_neg h1, if_neg h1]; exact ⟨_, _, _, rfl, rfl, sC.rf c, sM_th m 0⟩
theorem pda_def (room set len : Nat) : pda room set len = pls (pWw (fun c => (gof room set len c : Int))) 1000000 255 := rfl
theorem s_manyWc {I : zMem} {g : Nat → Nat} (hg : ∀ c, c < 39 → g c < 64) (hC : iCode I) (hW : iWt g I) {d : Int} (hd0 : 0 ≤ d) (hd : d ≤ 1000000) : fX10_howManyAt (17, 0, 0) 256 d I = some (pcm (pWw (fun c => (g c : Int))) d 255) :=
  s_howManyAt hg hW (q := (17, 0, 0)) (n := 256) (by decide) (by decide) (t := fun n => pcode (pww n) ^^^ pcode (pww 0)) (fun k k1 k2 => ⟨hC.2 k k1 k2, pxor_lt _ _⟩) hd0 hd
theorem s_manyAc {I : zMem} {g : Nat → Nat} (hg : ∀ c, c < 39 → g c < 64) (hC : iCode I) (hW : iWt g I) {d : Int} (hd0 : 0 ≤ d) (hd : d ≤ 1000000) : fX10_howManyAt (16, 0, 0) 2048 d I = some (pcm (pWa (fun c => (g c : Int))) d 2047) :=
  s_howManyAt hg hW (q := (16, 0, 0)) (n := 2048) (by decide) (by decide) (t := pcode) (fun k k1 k2 => ⟨hC.1 k k2, pcode_lt _⟩) hd0 hd
theorem P_distance {c m : zMem} (h : RC c m) {s l k : Int} (hs : i32 s) (hl : i32 l) (hk : i32 k) : ∃ r c' m', fX11_distance s l k c = some (r, c') ∧ fX12_distance s l k m = some (r, m') ∧ sC c c' ∧ sM m m' := by
  obtain ⟨hC, hR, hCM, hRM, room, r1, r2, e1, e2⟩ := h
  have w0 : w32 k = k := w32_id hk.1 hk.2
  unfold fX11_distance fX12_distance fX12_distance_b55
  dsimp only [zlet]
  simp only [w0]
  rw [v_within hk (by decide) (by decide), vz]
  by_cases h0 : 0 ≤ k ∧ k ≤ 3
  · rw [if_neg (show ¬ k < 0 by omega), if_pos h0.2, if_pos h0, v_isVersionSet hs, vz, m_isSet hs, vz]
    by_cases h3 : 0 ≤ s ∧ s ≤ 15
    · rw [if_pos h3, if_pos h3, v_isLength hl, vz, m_isLength hl, vz]
      by_cases h4 : 1 ≤ l ∧ l ≤ 60
      · rw [if_pos h4, if_pos h4]
        obtain ⟨s, rfl⟩ := nat_of h3.1
        obtain ⟨l, rfl⟩ := nat_of (show 0 ≤ l by omega)
        have hg : ∀ c, c < 39 → gof room s l c < 64 := fun c _ => (gof_is r1 r2 s c (by omega)).2
        obtain ⟨J, j1, j2, j3⟩ := s_weighVersions hR r1 r2 e1 (set := s) (len := l) (by omega) (by omega)
        obtain ⟨K, k1, k2, k3⟩ := m_laysOften (m := zst m (50, 0, 0) 0 0) (hRM.keep (sM_th m 0)) r1 r2 (by rw [zst_nq (by decide)]; exact e2) (set := s) (len := l) (by omega) (by omega)
        have hCJ := hC.keep j2
        have hCK := (hCM.keep (sM_th m 0)).keep k2
        have sK := (sM_th m 0).tr k2
        have ew : w32 (irem k 2) = k % 2 := by rw [irem_of h0.1 (by omega) (by decide) (by decide)]; exact w32_id (by omega) (by omega)
        rw [j1, zb_some, k1, zb_some, ew]
        by_cases h5 : k % 2 = 0
        · have hb := pls_rng (w := pWa (fun c => (gof room s l c : Int))) (a := 1000000) (by decide) 2047 (fun k _ => (pwt_rng hg _).1)
          rw [if_pos h5, if_neg (by omega), s_leastAc hg hCJ j3, zb_some, m_leastA hCK hg k3, zb_some]
          by_cases h6 : 2 ≤ k
          · rw [if_pos h6, if_pos h6, s_manyAc hg hCJ j3 hb.1 hb.2, zb_some, s_manyA hCK hg k3 hb.1 (by omega), zb_some]
            exact ⟨_, _, _, rfl, rfl, j2, sK⟩
          · rw [if_neg h6, if_neg h6]; exact ⟨_, _, _, rfl, rfl, j2, sK⟩
        · have hb := pls_rng (w := pWw (fun c => (gof room s l c : Int))) (a := 1000000) (by decide) 255 (fun k _ => (pwt_rng hg _).1)
          rw [if_neg h5, if_pos (by omega), s_leastWc hg hCJ j3, zb_some, m_leastW hCK hg k3, zb_some]
          by_cases h6 : 2 ≤ k
          · rw [if_pos h6, if_pos h6, s_manyWc hg hCJ j3 hb.1 hb.2, zb_some, s_manyW hCK hg k3 hb.1 (by omega), zb_some]
            exact ⟨_, _, _, rfl, rfl, j2, sK⟩
          · rw [if_neg h6, if_neg h6]; exact ⟨_, _, _, rfl, rfl, j2, sK⟩
      · rw [if_neg h4, if_neg h4]; exact ⟨_, _, _, rfl, rfl, sC.rf c, sM_th m 0⟩
    · rw [if_neg h3, if_neg h3]; exact ⟨_, _, _, rfl, rfl, sC.rf c, sM_th m 0⟩
  · rw [if_neg h0]
    by_cases h7 : k < 0
    · rw [if_pos h7]; exact ⟨_, _, _, rfl, rfl, sC.rf c, sM_th m 0⟩
    · rw [if_neg h7, if_neg (by omega)]; exact ⟨_, _, _, rfl, rfl, sC.rf c, sM_th m 0⟩
/-- the model's least distance of whole words for a set and a length -/
theorem m_whole {m : zMem} (hCM : iCodeM m) (hRM : iRingM m) {room set len : Nat} (r1 : 16 ≤ room) (r2 : room ≤ 48) (e2 : m (51, 0, 0) 4 = room) (hs : set < 16) (hl : len ≤ 60) : ∃ J, fX12_laysOften (set : Int) (len : Int) m = some J ∧ fX12_leastApart 1 J = some (pda room set len) ∧ sM m J := by
  obtain ⟨K, k1, k2, k3⟩ := m_laysOften hRM r1 r2 e2 hs hl
  exact ⟨K, k1, m_leastW (hCM.keep k2) (fun c _ => (gof_is r1 r2 set c hl).2) k3, k2⟩
