/-! ROUNDS: a sending as a whole -/
def RT (c m : zMem) : Prop := iCode c ∧ iRing c ∧ iCodeM m ∧ iRingM m
theorem RT.kp {c m c' m' : zMem} (h : RT c m) (h16 : c' (16, 0, 0) = c (16, 0, 0)) (h17 : c' (17, 0, 0) = c (17, 0, 0)) (h18 : c' (18, 0, 0) = c (18, 0, 0)) (h19 : c' (19, 0, 0) = c (19, 0, 0)) (h54 : m' (54, 0, 0) = m (54, 0, 0)) (h55 : m' (55, 0, 0) = m (55, 0, 0)) : RT c' m' := by
  obtain ⟨⟨a1, a2⟩, ⟨a3, a4⟩, a5, a6⟩ := h
  exact ⟨⟨fun w hw => by rw [h16]; exact a1 w hw, fun n h1 h2 => by rw [h17]; exact a2 n h1 h2⟩, ⟨fun k hk => by rw [h18]; exact a3 k hk, fun k hk => by rw [h19]; exact a4 k hk⟩, fun w hw => by rw [h54]; exact a5 w hw, fun k hk => by rw [h55]; exact a6 k hk⟩
theorem lk_no {L : Nat} {q : zPl} (h : klb 0 q.1 0 = true) : ¬ lkP L q := fun hh => by rw [hh.2] at h; cases h
theorem RT.k {L : Nat} {c m c' m' : zMem} {G : Nat → Prop} (h : RT c m) (hc : sK (lkP L) c c') (hm : sJ G m m') : RT c' m' := h.kp (hc _ rfl (lk_no rfl)) (hc _ rfl (lk_no rfl)) (hc _ rfl (lk_no rfl)) (hc _ rfl (lk_no rfl)) (hm.1 _ rfl) (hm.1 _ rfl)
def G0 (k : Nat) : Prop := 7 ≤ k ∧ k < 1033
/-- a step on link L -/
def RS (L : Nat) (B : Int) (c m c' m' : zMem) : Prop := RK L B c' (m' (51, 0, 0)) ∧ sK (lkP L) c c' ∧ sJ G0 m m'
theorem RS.tr {L : Nat} {B B' : Int} {c m c1 m1 c' m' : zMem} (h1 : RS L B c m c1 m1) (h2 : RS L B' c1 m1 c' m') : RS L B' c m c' m' := ⟨h2.1, h1.2.1.tr h2.2.1, h1.2.2.tr h2.2.2⟩
theorem RK.mo {L : Nat} {B B' : Int} {c : zMem} {g : Nat → Int} (h : RK L B c g) (hB : B ≤ B') : RK L B' c g := ⟨h.1, h.2.1, h.2.2.1.mo hB, h.2.2.2⟩
theorem RS.rf {L : Nat} {B : Int} {c m : zMem} (h : RK L B c (m (51, 0, 0))) : RS L B c m c m := ⟨h, sK.rf _ _, sJ.rf _ _⟩
theorem RS.mo {L : Nat} {B B' : Int} {c m c' m' : zMem} (h : RS L B c m c' m') (hB : B ≤ B') : RS L B' c m c' m' := ⟨h.1.mo hB, h.2⟩
theorem PH_lk {L p : Nat} {q : zPl} (h : PH L p q) : lkP L q := by
  rcases h with rfl | rfl | rfl | rfl | rfl <;> exact ⟨rfl, rfl⟩
theorem PT_lk {L p : Nat} {q : zPl} (h : PT L p q) : lkP L q := by
  rcases h with rfl | h
  · exact ⟨rfl, rfl⟩
  · exact PH_lk h
theorem PA_lk {L p : Nat} {q : zPl} (h : PA L p q) : lkP L q := by
  rcases h with rfl | rfl | rfl <;> exact ⟨rfl, rfl⟩
theorem PF_lk {L p : Nat} {q : zPl} (h : PF L p q) : lkP L q := by
  rcases h with rfl | rfl | rfl | rfl | rfl | rfl | rfl <;> exact ⟨rfl, rfl⟩
theorem PE_lk {L : Nat} {q : zPl} (h : PE L q) : lkP L q := by
  rcases h with ⟨p, rfl⟩ | rfl | rfl | rfl <;> exact ⟨rfl, rfl⟩
theorem sRc.K {L : Nat} {c c' : zMem} (h : sRc L c c') : sK (lkP L) c c' := fun q _ hp => h q (fun e => hp (by rw [e]; exact ⟨rfl, rfl⟩)) (fun e => hp (by rw [e]; exact ⟨rfl, rfl⟩)) (fun e => hp (by rw [e]; exact ⟨rfl, rfl⟩))
theorem sRm.J {m m' : zMem} (h : sRm m m') : sJ G0 m m' := ⟨fun q hq => h.1 q (kn_ne hq rfl), fun k hk => h.2 k (by unfold G0 at hk; omega)⟩
theorem r_begin {L p o len : Nat} {B pass : Int} {c m : zMem} (hp : p < 8) (ho : o = 329 + 88 * p) (h : RK L B c (m (51, 0, 0))) (ht : RT c m) (hlen : len ≤ 60) (hpn : (p : Int) < m (51, 0, 0) 0) (hask : m (51, 0, 0) (o + 4) = 0) (hab : m (51, 0, 0) o = -1 → m (51, 0, 0) 30 ≤ 0 → 0 < m (51, 0, 0) 7 ∧ (m (51, 0, 0) 28 - m (51, 0, 0) 29) % 8 < m (51, 0, 0) 1) : ∃ (C M : zMem) (sq : Nat → Int) (w : Nat), fX0_transmit L (p : Int) (len : Int) pass c = tailT L (p : Int) (len : Int) pass p C ∧ fX12_beginsSend (p : Int) (len : Int) m = some M ∧ RS L B c m C M ∧ w < 2048 ∧ fX7_wordOn L L p C = some (w : Int) ∧ (∀ i, i < len → C (20, 0, 0) i = sq i ∧ 0 ≤ sq i ∧ sq i ≤ 38) ∧ (∀ i, i < len → M (56, 0, 0) i = sq i) ∧ (∀ i, i < len → M (63, 0, 0) i = psg (pcb w (sq i).toNat) (M (51, 0, 0) 6)) ∧ C (28, 0, 0) = c (28, 0, 0) := by
  have xp : ix (p : Int) = p := ix_nat (by omega)
  have hl := h.2.2.2.2.1 p hp
  rw [← ho] at hl
  have b1 := hl.1
  have w0 : w32 (m (51, 0, 0) o) = m (51, 0, 0) o := w32_id (by omega) (by omega)
  have x0 : ix ((o : Int) + 0) = o := io o 0 (by omega)
  have z0 : zin ((o : Int) + 0) 3099 := zo o 0 (by omega)
  by_cases c0 : m (51, 0, 0) o = -1
  · obtain ⟨C0, M0, f1, f2, f3, f4, f5, f6, f7, f8⟩ := r_fill (len := (len : Int)) hp ho h hpn c0 (hab c0)
    have hC0 : sK (lkP L) c C0 := fun q _ hq => f6 q (fun hh => hq (PF_lk hh))
    have hM0 : sJ G0 m M0 := ⟨fun q hq => f7 q (kn_ne hq rfl), fun k hk => f8 k (by unfold G0 at hk; unfold GF; omega)⟩
    have ht0 := ht.k hC0 hM0
    obtain ⟨C, M, sq, w, g1, g2, g3, g4, g5, g6, g7, g8, g9, g10, g11, g12⟩ := r_beginB (pass := pass) hp ho f3 ht0.2.1 ht0.2.2.2 hlen f4 f5
    refine ⟨C, M, sq, w, ?_, f2.trans g2, ⟨g3, hC0.tr (fun q a1 a2 => g9 q (fun e => a2 (by rw [e]; exact ⟨rfl, rfl⟩)) (fun e => a2 (by rw [e]; exact ⟨rfl, rfl⟩)) (ka_ne a1 rfl)), hM0.tr ⟨fun q hq => g10 q (kn_ne hq rfl) (kn_ne hq rfl) (kn_ne hq rfl), fun k hk => g11 k (by unfold G0 at hk; omega) (by unfold G0 at hk; omega)⟩⟩, g4, g5, g6, g7, fun i hi => ?_, ?_⟩
    · unfold fX0_transmit
      simp only [xp, b1.1, w0]
      rw [if_pos (zin_nat hp (by decide)), if_pos c0, f1, zb_some]
      exact g1
    · rw [g8 i hi, g11 6 (by omega) (by omega)]
    · rw [g9 _ (by simp) (by simp) (by simp), f6 _ (by unfold PF; simp)]
  · obtain ⟨C, M, sq, w, g1, g2, g3, g4, g5, g6, g7, g8, g9, g10, g11, g12⟩ := r_beginB (pass := pass) hp ho h ht.2.1 ht.2.2.2 hlen c0 hask
    refine ⟨C, M, sq, w, ?_, ?_, ⟨g3, fun q a1 a2 => g9 q (fun e => a2 (by rw [e]; exact ⟨rfl, rfl⟩)) (fun e => a2 (by rw [e]; exact ⟨rfl, rfl⟩)) (ka_ne a1 rfl), ⟨fun q hq => g10 q (kn_ne hq rfl) (kn_ne hq rfl) (kn_ne hq rfl), fun k hk => g11 k (by unfold G0 at hk; omega) (by unfold G0 at hk; omega)⟩⟩, g4, g5, g6, g7, fun i hi => ?_, ?_⟩
    · unfold fX0_transmit
      simp only [xp, b1.1, w0]
      rw [if_pos (zin_nat hp (by decide)), if_neg c0]
      exact g1
    · unfold fX12_beginsSend
      simp only [m_own ho, zb_some, x0, w0]
      rw [if_pos z0, if_neg c0]
      exact g2
    · rw [g8 i hi, g11 6 (by omega) (by omega)]
    · rw [g9 _ (by simp) (by simp) (by simp)]
/-- a sending: noise v laid in the class, added in the model -/
theorem r_trans {L p o len : Nat} {B pass : Int} {c m : zMem} {v : Nat → Int} (hp : p < 8) (ho : o = 329 + 88 * p) (h : RK L B c (m (51, 0, 0))) (hB : B + 1 ≤ 1000000000) (ht : RT c m) (hlen : len ≤ 60) (hpn : (p : Int) < m (51, 0, 0) 0) (hask : m (51, 0, 0) (o + 4) = 0) (hab : m (51, 0, 0) o = -1 → m (51, 0, 0) 30 ≤ 0 → 0 < m (51, 0, 0) 7 ∧ (m (51, 0, 0) 28 - m (51, 0, 0) 29) % 8 < m (51, 0, 0) 1) (hv : ∀ i, i < len → c (28, 0, 0) i = v i ∧ -300 ≤ v i ∧ v i ≤ 300) (hpass : pass = 0 ∨ pass = 1) : ∃ M1, fX12_beginsSend (p : Int) (len : Int) m = some M1 ∧ sJ G0 m M1 ∧ ∀ M2 : zMem, (∀ q, q ≠ (50, 0, 0) → q ≠ (63, 0, 0) → M2 q = M1 q) → (∀ i, i < len → M2 (63, 0, 0) i = M1 (63, 0, 0) i + v i) → ∃ r c' m', fX0_transmit L (p : Int) (len : Int) pass c = some (r, c') ∧ fX12_endsSend (p : Int) (len : Int) pass M2 = some m' ∧ RK L (B + 1) c' (m' (51, 0, 0)) ∧ sK (lkP L) c c' ∧ (∀ q, knb q.1 = true → q ≠ (50, 0, 0) → m' q = m q) ∧ m' (50, 0, 0) = M2 (50, 0, 0) ∧ (∀ k, ¬ G0 k → m' (51, 0, 0) k = m (51, 0, 0) k) ∧ r = if m' (51, 0, 0) (o + 5) = 1 then m' (51, 0, 0) (o + 8) else -1 := by
  obtain ⟨C, M, sq, w, g1, g2, g3, g4, g5, g6, g7, g8, g9⟩ := r_begin (pass := pass) hp ho h ht hlen hpn hask hab
  refine ⟨M, g2, g3.2.2, fun M2 k1 k2 => ?_⟩
  have e51 : M2 (51, 0, 0) = M (51, 0, 0) := k1 _ (by simp) (by simp)
  have ht1 := ht.k g3.2.1 g3.2.2
  obtain ⟨r, c', m', e1, e2, e3, e4, e5, e6⟩ := r_end (pass := pass) (m := M2) (sq := sq) (v := v) (w := w) hp ho (by rw [e51]; exact g3.1) hB ht1.1 hlen g6 (fun i hi => by rw [k1 _ (by simp) (by simp)]; exact g7 i hi) g4 g5 (fun i hi => by rw [g9]; exact hv i hi) (fun i hi => by rw [k2 i hi, g8 i hi, e51]) hpass
  refine ⟨r, c', m', g1.trans e1, e2, e3, g3.2.1.tr (e4.mo (fun q hq => PT_lk hq)), fun q a1 a2 => ?_, e5.1 _ rfl, fun k hk => ?_, e6⟩
  · rw [e5.1 q a1, k1 q a2 (kn_ne a1 rfl), g3.2.2.1 q a1]
  · rw [e5.2 k (by unfold G0 at hk; unfold GT GH; omega), e51, g3.2.2.2 k hk]
theorem r_tickS {L : Nat} {B : Int} {c m : zMem} (h : RK L B c (m (51, 0, 0))) (hB : B ≤ 1000000000) : ∃ c' m', fX5_passTime L (c (7, L, 0) 2) c = some c' ∧ fX12_ticks m = some m' ∧ RS L B c m c' m' := by
  obtain ⟨p0, -, -, ⟨p3a, p3b⟩, -⟩ := h.1
  obtain ⟨c', m', k1, k2, k3, k4, k5, k6, k7⟩ := r_tick (v := m (51, 0, 0) 2) h.2.2.1.1 hB h.2.2.2.1 h.2.2.1.2 rfl ⟨p3a, p3b⟩
  rw [p0 2 (by decide)]
  exact ⟨c', m', k1, k2, h.rv ⟨k3, k7⟩ k4 k5 k6.2, k5.K, k6.J⟩
theorem r_learnS {L : Nat} {B : Int} {c m : zMem} (h : RK L B c (m (51, 0, 0))) : ∃ c' m', fX7_learn L L c = some c' ∧ fX12_reports m = some m' ∧ RS L B c m c' m' := by
  obtain ⟨c', m', k1, k2, k3, k4, k5, k6⟩ := r_learn h
  exact ⟨c', m', k1, k2, k3, fun q _ hq => k4 q (fun hh => hq (PE_lk hh)), ⟨fun q hq => k5 q (kn_ne hq rfl), fun k hk => k6 k (by unfold G0 at hk; unfold GE; omega)⟩⟩
theorem r_readsS {L p o : Nat} {B how : Int} {c m : zMem} (hp : p < 8) (ho : o = 329 + 88 * p) (h : RK L B c (m (51, 0, 0))) (hask : m (51, 0, 0) (o + 4) = 1) (hh : 0 ≤ how ∧ how ≤ 2) : ∃ w c' m', fX4_readAnswer L (p : Int) how c = some (w, c') ∧ fX12_reads (p : Int) how m = some (w, m') ∧ RS L B c m c' m' ∧ m' (51, 0, 0) 0 = m (51, 0, 0) 0 := by
  obtain ⟨w, c', m', k1, k2, k3, k4, k5⟩ := r_reads hp ho h hask hh
  exact ⟨w, c', m', k1, k2, ⟨k3, k4.mo (fun q hq => PA_lk hq), k5.mo (fun k hk => by unfold GA at hk; unfold G0; omega)⟩, k5.2 0 (by unfold GA; omega)⟩
