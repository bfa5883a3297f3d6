/-! BETWEEN CALLS: what class and model have in common -/
def Ry (c m : zMem) : Prop := ∀ t : Nat, t < 4 → c (31, 0, 0) t = m (66, 0, 0) t ∧ (-1 ≤ m (66, 0, 0) t ∧ m (66, 0, 0) t ≤ 60) ∧ ∀ i : Nat, (i : Int) < m (66, 0, 0) t → c (30, 0, t) i = m (67, 0, 0) (60 * t + i) ∧ -128 ≤ m (67, 0, 0) (60 * t + i) ∧ m (67, 0, 0) (60 * t + i) ≤ 127
def RI (n : Int) (e : Nat → Prop) (c m : zMem) : Prop := ∀ i : Nat, i < 2 → (m (53, 0, 0) i = 0 ∧ ¬ e (2 + i)) ∨ (m (53, 0, 0) i = 1 ∧ e (2 + i) ∧ RK (2 + i) n c (fun k => m (51, 0, 0) (1033 * (i + 1) + k)))
def RW (n : Int) (e : Nat → Prop) (c m : zMem) : Prop := RT c m ∧ RK 1 n c (m (51, 0, 0)) ∧ RI n e c m ∧ Ry c m
theorem RK.ck {L : Nat} {B : Int} {c c' : zMem} {g g' : Nat → Int} (h : RK L B c g) (hc : ∀ r p, r = 7 ∨ r = 8 ∨ r = 9 ∨ r = 10 ∨ r = 11 ∨ r = 33 ∨ r = 34 ∨ r = 35 ∨ r = 36 ∨ r = 37 ∨ r = 39 ∨ r = 40 ∨ r = 41 → c' (r, L, p) = c (r, L, p)) (hg : ∀ k, k < 1033 → g' k = g k) : RK L B c' g' := by
  obtain ⟨g1, g2, g3, g4, g5, g6⟩ := h
  exact ⟨g1.cg (fun k _ => by rw [hc 7 0 (by decide)]) (fun k hk => hg k (by omega)), g2.cg (hc 8 0 (by decide)) (hc 33 0 (by decide)) (hc 34 0 (by decide)) (hc 35 0 (by decide)) (hc 36 0 (by decide)) (fun k _ hk => hg k (by omega)), g3.cg (fun k _ _ => by rw [hc 9 0 (by decide)]) (hc 39 0 (by decide)) (hc 40 0 (by decide)) (fun k _ hk _ _ _ _ => hg k (by omega)), g4.cg (by rw [hc 9 0 (by decide)]) (by rw [hc 9 0 (by decide)]) (hg _ (by omega)) (hg _ (by omega)) (hg _ (by omega)), fun p' hp' => (g5 p' hp').cg (hc 10 p' (by decide)) (hc 37 p' (by decide)) (hg _ (by omega)) (hg _ (by omega)) (fun k _ hk _ => hg k (by omega)) (fun k _ hk => hg k (by omega)), fun p' hp' => (g6 p' hp').cg (hc 11 p' (by decide)) (hc 41 p' (by decide)) (fun k _ hk => hg k (by omega))⟩
theorem kl_other {L L2 r : Nat} (h : L2 ≠ L) (hr : r = 7 ∨ r = 8 ∨ r = 9 ∨ r = 10 ∨ r = 11 ∨ r = 33 ∨ r = 34 ∨ r = 35 ∨ r = 36 ∨ r = 37 ∨ r = 39 ∨ r = 40 ∨ r = 41) : klb L r L2 = true := by
  rcases hr with rfl | rfl | rfl | rfl | rfl | rfl | rfl | rfl | rfl | rfl | rfl | rfl | rfl <;> simp [klb, h]
/-- images stay where another link or none changed -/
theorem RI.st {n n' : Int} {e : Nat → Prop} {L : Nat} {c m c' m' : zMem} (h : RI n e c m) (hL : L < 2) (hn : n ≤ n') (hc : sL L c c') (hm : sN m m') : RI n' e c' m' := fun i hi => by
  have e53 : m' (53, 0, 0) = m (53, 0, 0) := hm.1 _ rfl
  rw [e53]
  rcases h i hi with ⟨h1, h2⟩ | ⟨h1, h2, h3⟩
  · exact Or.inl ⟨h1, h2⟩
  · exact Or.inr ⟨h1, h2, (h3.mo hn).ck (fun r p hr => hc (r, 2 + i, p) (kl_other (show 2 + i ≠ L by omega) hr)) (fun k hk => hm.2 _ (by omega))⟩
theorem Ry.st {L : Nat} {c m c' m' : zMem} (h : Ry c m) (hc : sL L c c') (hm : sN m m') : Ry c' m' := fun t ht => by
  rw [hc (31, 0, 0) rfl, hc (30, 0, t) rfl, hm.1 (66, 0, 0) rfl, hm.1 (67, 0, 0) rfl]
  exact h t ht
/-- a step on the link now -/
theorem RW.st {n n' : Int} {e : Nat → Prop} {c m c' m' : zMem} (h : RW n e c m) (hn : n ≤ n') (hk : RK 1 n' c' (m' (51, 0, 0))) (hc : sL 1 c c') (hm : sN m m') : RW n' e c' m' := ⟨h.1.z hc hm, hk, h.2.2.1.st (by decide) hn hc hm, h.2.2.2.st hc hm⟩
theorem kc_1 {r : Nat} (hr : r = 7 ∨ r = 8 ∨ r = 9 ∨ r = 10 ∨ r = 11 ∨ r = 33 ∨ r = 34 ∨ r = 35 ∨ r = 36 ∨ r = 37 ∨ r = 39 ∨ r = 40 ∨ r = 41) {L : Nat} (hL : L ≠ 0) : kcb r L = true := by
  rcases hr with rfl | rfl | rfl | rfl | rfl | rfl | rfl | rfl | rfl | rfl | rfl | rfl | rfl <;> simp [kcb, hL]
/-- nothing but scratch changed -/
theorem RW.kp {n n' : Int} {e : Nat → Prop} {c m c' m' : zMem} (h : RW n e c m) (hn : n ≤ n') (hc : sC c c') (hm : sM m m') : RW n' e c' m' := by
  obtain ⟨h1, h2, h3, h4⟩ := h
  refine ⟨h1.kp (hc _ rfl) (hc _ rfl) (hc _ rfl) (hc _ rfl) (hm _ rfl) (hm _ rfl), (h2.mo hn).ck (fun r p hr => hc (r, 1, p) (kc_1 (L := 1) hr (by decide))) (fun k hk => by rw [hm (51, 0, 0) rfl]), fun i hi => ?_, fun t ht => ?_⟩
  · rw [hm (53, 0, 0) rfl]
    rcases h3 i hi with ⟨f1, f2⟩ | ⟨f1, f2, f3⟩
    · exact Or.inl ⟨f1, f2⟩
    · exact Or.inr ⟨f1, f2, (f3.mo hn).ck (fun r p hr => hc (r, 2 + i, p) (kc_1 (L := 2 + i) hr (by omega))) (fun k hk => by rw [hm (51, 0, 0) rfl])⟩
  · rw [hc (31, 0, 0) rfl, hc (30, 0, t) rfl, hm (66, 0, 0) rfl, hm (67, 0, 0) rfl]
    exact h4 t ht
theorem RW.th {n : Int} {e : Nat → Prop} {c m : zMem} (h : RW n e c m) : RW n e c (zst m (50, 0, 0) 0 0) := h.kp (Int.le_refl _) (sC.rf c) (sM_th m 0)
theorem RW.mo {n n' : Int} {e : Nat → Prop} {c m : zMem} (h : RW n e c m) (hn : n ≤ n') : RW n' e c m := h.kp hn (sC.rf c) (sM.rf m)
theorem RW.C {n : Int} {e : Nat → Prop} {c m : zMem} (h : RW n e c m) : RC c m := by
  obtain ⟨p0, -, -, -, -, ⟨p5a, p5b⟩, -⟩ := h.2.1.1
  obtain ⟨room, er⟩ := nat_of (show 0 ≤ m (51, 0, 0) 4 by omega)
  exact ⟨h.1.1, h.1.2.1, h.1.2.2.1, h.1.2.2.2, room, by omega, by omega, by rw [p0 4 (by decide), er], er⟩
theorem RW.E {n : Int} {e : Nat → Prop} {c m : zMem} (h : RW n e c m) : RE c m := by
  obtain ⟨p0, ⟨p1a, p1b⟩, -⟩ := h.2.1.1
  obtain ⟨pn, epn⟩ := nat_of (show 0 ≤ m (51, 0, 0) 0 by omega)
  refine ⟨pn, by omega, by omega, by rw [p0 0 (by decide), epn], epn, fun p hp => ?_⟩
  obtain ⟨⟨a1, a2, a3⟩, -, -, a4, a5⟩ := h.2.1.2.2.2.2.2 p (by omega)
  rw [a1]
  refine ⟨⟨a2, a3⟩, a4, fun k hk => ?_⟩
  rw [(a5 k hk).1]
  exact ⟨rfl, (a5 k hk).2⟩
/-- what a call's two functions owe each other -/
def okC (n : Int) (e : Nat → Prop) (f g : Option (Int × zMem)) : Prop := ∃ r c' m', f = some (r, c') ∧ g = some (r, m') ∧ RW (n + 60) e c' m'
/-- the same of a call that changes nothing in the class -/
def okR (n : Int) (e : Nat → Prop) (c : zMem) (f : Option Int) (g : Option (Int × zMem)) : Prop := ∃ r m', f = some r ∧ g = some (r, m') ∧ RW (n + 60) e c m'
theorem Q_word {n : Int} {e : Nat → Prop} {c m : zMem} (h : RW n e c m) {a b : Int} (ha : i32 a) (hb : i32 b) : okR n e c (fX11_word a b) (fX12_word a b m) := by
  obtain ⟨r, m', h1, h2, h3⟩ := P_word (c := c) (m := m) ha hb
  exact ⟨r, m', h1, h2, h.kp (by omega) (sC.rf c) h3⟩
theorem Q_whole {n : Int} {e : Nat → Prop} {c m : zMem} (h : RW n e c m) {a : Int} (ha : i32 a) : okR n e c (fX11_whole a) (fX12_whole a m) := by
  obtain ⟨r, m', h1, h2, h3⟩ := P_whole (m := m) ha
  exact ⟨r, m', h1, h2, h.kp (by omega) (sC.rf c) h3⟩
theorem Q_bits {n : Int} {e : Nat → Prop} {c m : zMem} (h : RW n e c m) {a : Int} (ha : i32 a) : okR n e c (fX11_bits a c) (fX12_bits a m) := by
  obtain ⟨r, m', h1, h2, h3⟩ := P_bits h.C ha
  exact ⟨r, m', h1, h2, h.kp (by omega) (sC.rf c) h3⟩
theorem Q_place {n : Int} {e : Nat → Prop} {c m : zMem} (h : RW n e c m) {a : Int} (ha : i32 a) : okR n e c (fX11_place a c) (fX12_place a m) := by
  obtain ⟨r, m', h1, h2, h3⟩ := P_place h.C ha
  exact ⟨r, m', h1, h2, h.kp (by omega) (sC.rf c) h3⟩
theorem Q_sent {n : Int} {e : Nat → Prop} {c m : zMem} (h : RW n e c m) {a b d : Int} (ha : i32 a) (hb : i32 b) (hd : i32 d) : okC n e (fX11_sent a b d c) (fX12_sent a b d m) := by
  obtain ⟨r, c', m', h1, h2, h3, h4⟩ := P_sent h.C ha hb hd
  exact ⟨r, c', m', h1, h2, h.kp (by omega) h3 h4⟩
theorem Q_covers {n : Int} {e : Nat → Prop} {c m : zMem} (h : RW n e c m) {a b : Int} (ha : i32 a) (hb : i32 b) : okC n e (fX11_covers a b c) (fX12_covers a b m) := by
  obtain ⟨r, c', m', h1, h2, h3, h4⟩ := P_covers h.C ha hb
  exact ⟨r, c', m', h1, h2, h.kp (by omega) h3 h4⟩
theorem Q_lacks {n : Int} {e : Nat → Prop} {c m : zMem} (h : RW n e c m) {a b : Int} (ha : i32 a) (hb : i32 b) : okC n e (fX11_lacks a b c) (fX12_lacks a b m) := by
  obtain ⟨r, c', m', h1, h2, h3, h4⟩ := P_lacks h.C ha hb
  exact ⟨r, c', m', h1, h2, h.kp (by omega) h3 h4⟩
theorem Q_between {n : Int} {e : Nat → Prop} {c m : zMem} (h : RW n e c m) {a b s l : Int} (ha : i32 a) (hb : i32 b) (hs : i32 s) (hl : i32 l) : okC n e (fX11_between a b s l c) (fX12_between a b s l m) := by
  obtain ⟨r, c', m', h1, h2, h3, h4⟩ := P_between h.C ha hb hs hl
  exact ⟨r, c', m', h1, h2, h.kp (by omega) h3 h4⟩
theorem Q_distance {n : Int} {e : Nat → Prop} {c m : zMem} (h : RW n e c m) {a b d : Int} (ha : i32 a) (hb : i32 b) (hd : i32 d) : okC n e (fX11_distance a b d c) (fX12_distance a b d m) := by
  obtain ⟨r, c', m', h1, h2, h3, h4⟩ := P_distance h.C ha hb hd
  exact ⟨r, c', m', h1, h2, h.kp (by omega) h3 h4⟩
theorem Q_shortest {n : Int} {e : Nat → Prop} {c m : zMem} (h : RW n e c m) {a b : Int} (ha : i32 a) (hb : i32 b) : okC n e (fX11_shortest a b c) (fX12_shortest a b m) := by
  obtain ⟨r, c', m', h1, h2, h3, h4⟩ := P_shortest h.C ha hb
  exact ⟨r, c', m', h1, h2, h.kp (by omega) h3 h4⟩
theorem Q_versions {n : Int} {e : Nat → Prop} {c m : zMem} (h : RW n e c m) {a b : Int} (ha : i32 a) (hb : i32 b) : okC n e (fX11_versions a b c) (fX12_versions a b m) := by
  obtain ⟨r, c', m', h1, h2, h3, h4⟩ := P_versions h.C ha hb
  exact ⟨r, c', m', h1, h2, h.kp (by omega) h3 h4⟩
theorem Q_soft {n : Int} {e : Nat → Prop} {c m : zMem} (h : RW n e c m) {a b : Int} (ha : i32 a) (hb : i32 b) : okR n e c (fX11_soft a b c) (fX12_soft a b m) := by
  obtain ⟨r, m', h1, h2, h3⟩ := P_soft h.E ha hb
  exact ⟨r, m', h1, h2, h.kp (by omega) (sC.rf c) h3⟩
theorem Q_best {n : Int} {e : Nat → Prop} {c m : zMem} (h : RW n e c m) {a : Int} (ha : i32 a) : okC n e (fX11_best a c) (fX12_best a m) := by
  obtain ⟨r, c', m', h1, h2, h3, h4⟩ := P_best h.E ha
  exact ⟨r, c', m', h1, h2, h.kp (by omega) h3 h4⟩
theorem Q_sum {n : Int} {e : Nat → Prop} {c m : zMem} (h : RW n e c m) {a b : Int} (ha : i32 a) (hb : i32 b) : okR n e c (fX11_sum a b c) (fX12_sum a b m) := by
  obtain ⟨r, m', h1, h2, h3⟩ := P_sum h.1.1 h.1.2.2.1 h.E ha hb
  exact ⟨r, m', h1, h2, h.kp (by omega) (sC.rf c) h3⟩
theorem Q_margin {n : Int} {e : Nat → Prop} {c m : zMem} (h : RW n e c m) {a : Int} (ha : i32 a) : okC n e (fX11_margin a c) (fX12_margin a m) := by
  obtain ⟨r, c', m', h1, h2, h3, h4⟩ := P_margin h.1.2.2.1 h.E ha
  exact ⟨r, c', m', h1, h2, h.kp (by omega) h3 h4⟩
theorem Q_second {n : Int} {e : Nat → Prop} {c m : zMem} (h : RW n e c m) {a : Int} (ha : i32 a) : okC n e (fX11_second a c) (fX12_second a m) := by
  obtain ⟨r, c', m', h1, h2, h3, h4⟩ := P_second h.1.2.2.1 h.E ha
  exact ⟨r, c', m', h1, h2, h.kp (by omega) h3 h4⟩
theorem Q_lean {n : Int} {e : Nat → Prop} {c m : zMem} (h : RW n e c m) {a b : Int} (ha : i32 a) (hb : i32 b) : okC n e (fX11_lean a b c) (fX12_lean a b m) := by
  obtain ⟨r, c', m', h1, h2, h3, h4⟩ := P_lean h.1.2.2.1 h.E ha hb
  exact ⟨r, c', m', h1, h2, h.kp (by omega) h3 h4⟩
theorem Q_ties {n : Int} {e : Nat → Prop} {c m : zMem} (h : RW n e c m) {a b : Int} (ha : i32 a) (hb : i32 b) : okC n e (fX11_ties a b c) (fX12_ties a b m) := by
  obtain ⟨r, c', m', h1, h2, h3, h4⟩ := P_ties h.1.2.2.1 h.E ha hb
  exact ⟨r, c', m', h1, h2, h.kp (by omega) h3 h4⟩
theorem Q_rank {n : Int} {e : Nat → Prop} {c m : zMem} (h : RW n e c m) {a b : Int} (ha : i32 a) (hb : i32 b) : okC n e (fX11_rank a b c) (fX12_rank a b m) := by
  obtain ⟨r, c', m', h1, h2, h3, h4⟩ := P_rank h.1.2.2.1 h.E ha hb
  exact ⟨r, c', m', h1, h2, h.kp (by omega) h3 h4⟩
theorem Q_against {n : Int} {e : Nat → Prop} {c m : zMem} (h : RW n e c m) {a b : Int} (ha : i32 a) (hb : i32 b) : okR n e c (fX11_against a b c) (fX12_against a b m) := by
  obtain ⟨r, m', h1, h2, h3⟩ := P_against h.1.1 h.E ha hb
  exact ⟨r, m', h1, h2, h.kp (by omega) (sC.rf c) h3⟩
theorem Q_known {n : Int} {e : Nat → Prop} {c m : zMem} (h : RW n e c m) {a b : Int} (ha : i32 a) (hb : i32 b) : okC n e (fX11_known a b c) (fX12_known a b m) := by
  obtain ⟨r, c', m', h1, h2, h3, h4⟩ := P_known h.1.1 h.1.2.2.1 h.E ha hb
  exact ⟨r, c', m', h1, h2, h.kp (by omega) h3 h4⟩
theorem Q_wrong {n : Int} {e : Nat → Prop} {c m : zMem} (h : RW n e c m) {a : Int} (ha : i32 a) : okC n e (fX11_wrong a c) (fX12_wrong a m) := by
  obtain ⟨r, c', m', h1, h2, h3, h4⟩ := P_wrong h.1.1 h.E ha
  exact ⟨r, c', m', h1, h2, h.kp (by omega) h3 h4⟩
