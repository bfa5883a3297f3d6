/-! THE LINK: what class and model have in common -/
theorem io (o k : Nat) (h : o + k < 3099) : ix ((o : Int) + (k : Int)) = o + k := by
  rw [ix_of (by omega) (by omega)]; omega
theorem zo (o k : Nat) (h : o + k < 3099) : zin ((o : Int) + (k : Int)) 3099 := zin_of (by omega) (by omega) (by decide)
/-- a number that is kept -/
def pky (g : Nat → Int) (s : Int) : Prop := (s - g 29) % 8 < (g 28 - g 29) % 8
def Rp (L : Nat) (c : zMem) (g : Nat → Int) : Prop := (∀ k, k < 7 → c (7, L, 0) k = g k) ∧ (1 ≤ g 0 ∧ g 0 ≤ 8) ∧ (1 ≤ g 1 ∧ g 1 ≤ 4) ∧ (1 ≤ g 2 ∧ g 2 ≤ 60) ∧ (1 ≤ g 3 ∧ g 3 ≤ 8) ∧ (16 ≤ g 4 ∧ g 4 ≤ 48) ∧ (1 ≤ g 5 ∧ g 5 ≤ 9999) ∧ 0 ≤ g 6 ∧ g 6 ≤ 60
def Rs (L : Nat) (c : zMem) (g : Nat → Int) : Prop := (c (8, L, 0) 5 = g 7 ∧ 0 ≤ g 7 ∧ g 7 ≤ 20) ∧ (∀ i : Nat, (i : Int) < g 7 → c (33, L, 0) i = g (8 + i) ∧ 0 ≤ g (8 + i) ∧ g (8 + i) ≤ 31) ∧ (c (8, L, 0) 6 = g 30 ∧ 0 ≤ g 30 ∧ g 30 ≤ 8) ∧ (∀ i : Nat, (i : Int) < g 30 → c (36, L, 0) i = g (31 + i) ∧ (0 ≤ g (31 + i) ∧ g (31 + i) ≤ 7) ∧ pky g (g (31 + i))) ∧ (c (8, L, 0) 7 = g 28 ∧ 0 ≤ g 28 ∧ g 28 ≤ 7) ∧ (c (8, L, 0) 8 = g 29 ∧ 0 ≤ g 29 ∧ g 29 ≤ 7) ∧ (∀ s : Nat, s < 8 → (pky g s → c (34, L, 0) s = g (39 + s) ∧ (0 ≤ g (39 + s) ∧ g (39 + s) ≤ 31) ∧ c (35, L, 0) s = g (47 + s)) ∧ (¬ pky g s → g (39 + s) = -1)) ∧ c (8, L, 0) 9 = g 70 ∧ c (8, L, 0) 10 = g 71
def Rl (L p o : Nat) (c : zMem) (g : Nat → Int) : Prop := (c (10, L, p) 0 = g o ∧ -1 ≤ g o ∧ g o ≤ 7) ∧ (c (10, L, p) 1 = g (o + 2) ∧ 0 ≤ g (o + 2) ∧ g (o + 2) ≤ 1) ∧ (c (10, L, p) 2 = g (o + 3) ∧ 0 ≤ g (o + 3) ∧ g (o + 3) ≤ 8) ∧ (c (10, L, p) 3 = g (o + 4) ∧ 0 ≤ g (o + 4) ∧ g (o + 4) ≤ 1) ∧ (c (10, L, p) 4 = g (o + 5) ∧ 0 ≤ g (o + 5) ∧ g (o + 5) ≤ 1) ∧ (g o = -1 → g (o + 3) = 0 ∧ g (o + 4) = 0) ∧ (¬ g o = -1 → pky g (g o) ∧ g (o + 1) = g (39 + (g o).toNat) ∧ g (o + 3) ≤ g 3 ∧ (g (o + 4) = 0 → g (o + 3) < g 3) ∧ ∀ k, k < 39 → c (37, L, p) k = g (o + 49 + k) ∧ 0 ≤ g (o + 49 + k) ∧ g (o + 49 + k) ≤ 5 * g (o + 3)) ∧ (g 0 ≤ (p : Int) → g o = -1)
def Rr (L p o : Nat) (c : zMem) (g : Nat → Int) : Prop := (c (11, L, p) 0 = g (o + 6) ∧ -1 ≤ g (o + 6) ∧ g (o + 6) ≤ 1) ∧ c (11, L, p) 1 = g (o + 7) ∧ (c (11, L, p) 2 = g (o + 8) ∧ 0 ≤ g (o + 8) ∧ g (o + 8) ≤ 1) ∧ g (o + 9) = (if g (o + 6) = -1 then 0 else 1) ∧ ∀ k, k < 39 → c (41, L, p) k = g (o + 10 + k) ∧ -9999 ≤ g (o + 10 + k) ∧ g (o + 10 + k) ≤ 9999
def Rw (L : Nat) (B : Int) (c : zMem) (g : Nat → Int) : Prop := Rv L B c g ∧ Rq g
theorem Rw.cg {L : Nat} {B : Int} {c c' : zMem} {g g' : Nat → Int} (h : Rw L B c g) (h1 : ∀ k, k ≠ 4 → k ≠ 5 → c' (9, L, 0) k = c (9, L, 0) k) (h2 : c' (39, L, 0) = c (39, L, 0)) (h3 : c' (40, L, 0) = c (40, L, 0)) (h4 : ∀ k, 55 ≤ k → k < 329 → k ≠ 64 → k ≠ 65 → k ≠ 70 → k ≠ 71 → g' k = g k) : Rw L B c' g' := by
  have e := h.1.1
  exact ⟨h.1.cg h1 h2 h3 h4, h.2.cg (h4 55 (by decide) (by decide) (by decide) (by decide) (by decide) (by decide)) (h4 _ (by omega) (by omega) (by omega) (by omega) (by omega) (by omega))⟩
theorem Rw.mo {L : Nat} {B B' : Int} {c : zMem} {g : Nat → Int} (h : Rw L B c g) (hB : B ≤ B') : Rw L B' c g := ⟨h.1.mo hB, h.2⟩
def RK (L : Nat) (B : Int) (c : zMem) (g : Nat → Int) : Prop := Rp L c g ∧ Rs L c g ∧ Rw L B c g ∧ Rt L c g ∧ (∀ p, p < 8 → Rl L p (329 + 88 * p) c g) ∧ ∀ p, p < 8 → Rr L p (329 + 88 * p) c g
theorem pky_cg {g g' : Nat → Int} (h28 : g' 28 = g 28) (h29 : g' 29 = g 29) (s : Int) : pky g' s ↔ pky g s := by
  unfold pky; rw [h28, h29]
theorem Rp.cg {L : Nat} {c c' : zMem} {g g' : Nat → Int} (h : Rp L c g) (hc : ∀ k, k < 7 → c' (7, L, 0) k = c (7, L, 0) k) (hg : ∀ k, k < 7 → g' k = g k) : Rp L c' g' := by
  obtain ⟨a0, a1⟩ := h
  refine ⟨fun k hk => by rw [hc k hk, hg k hk]; exact a0 k hk, ?_⟩
  rw [hg 0 (by decide), hg 1 (by decide), hg 2 (by decide), hg 3 (by decide), hg 4 (by decide), hg 5 (by decide), hg 6 (by decide)]; exact a1
theorem Rs.cg {L : Nat} {c c' : zMem} {g g' : Nat → Int} (h : Rs L c g) (h8 : c' (8, L, 0) = c (8, L, 0)) (h33 : c' (33, L, 0) = c (33, L, 0)) (h34 : c' (34, L, 0) = c (34, L, 0)) (h35 : c' (35, L, 0) = c (35, L, 0)) (h36 : c' (36, L, 0) = c (36, L, 0)) (hg : ∀ k, 7 ≤ k → k < 55 ∨ k = 70 ∨ k = 71 → g' k = g k) : Rs L c' g' := by
  obtain ⟨a1, a2, a3, a4, a5, a6, a7, a8, a9⟩ := h
  have e7 := hg 7 (by decide) (by decide)
  have e30 := hg 30 (by decide) (by decide)
  have e28 := hg 28 (by decide) (by decide)
  have e29 := hg 29 (by decide) (by decide)
  refine ⟨by rw [h8, e7]; exact a1, fun i hi => ?_, by rw [h8, e30]; exact a3, fun i hi => ?_, by rw [h8, e28]; exact a5, by rw [h8, e29]; exact a6, fun s hs => ?_, by rw [h8, hg 70 (by decide) (by decide)]; exact a8, by rw [h8, hg 71 (by decide) (by decide)]; exact a9⟩
  · rw [e7] at hi
    rw [h33, hg (8 + i) (by omega) (by omega)]; exact a2 i hi
  · rw [e30] at hi
    rw [h36, hg (31 + i) (by omega) (by omega), pky_cg e28 e29]; exact a4 i hi
  · rw [h34, h35, hg (39 + s) (by omega) (by omega), hg (47 + s) (by omega) (by omega), pky_cg e28 e29]; exact a7 s hs
theorem Rl.cg {L p o : Nat} {c c' : zMem} {g g' : Nat → Int} (h : Rl L p o c g) (h10 : c' (10, L, p) = c (10, L, p)) (h37 : c' (37, L, p) = c (37, L, p)) (g0 : g' 0 = g 0) (g3 : g' 3 = g 3) (gk : ∀ k, 28 ≤ k → k < 47 → k ≠ 30 → g' k = g k) (ho : ∀ k, o ≤ k → k < o + 6 ∨ o + 49 ≤ k ∧ k < o + 88 → g' k = g k) : Rl L p o c' g' := by
  obtain ⟨a1, a2, a3, a4, a5, a6, a7, a8⟩ := h
  have e0 := ho o (by omega) (by omega)
  have e1 := ho (o + 1) (by omega) (by omega)
  have e2 := ho (o + 2) (by omega) (by omega)
  have e3 := ho (o + 3) (by omega) (by omega)
  have e4 := ho (o + 4) (by omega) (by omega)
  have e5 := ho (o + 5) (by omega) (by omega)
  refine ⟨by rw [h10, e0]; exact a1, by rw [h10, e2]; exact a2, by rw [h10, e3]; exact a3, by rw [h10, e4]; exact a4, by rw [h10, e5]; exact a5, by rw [e0, e3, e4]; exact a6, fun hn => ?_, by rw [g0, e0]; exact a8⟩
  rw [e0] at hn
  obtain ⟨b1, b2, b3, b4, b5⟩ := a7 hn
  rw [e0, e1, e3, e4, g3, pky_cg (gk 28 (by decide) (by decide) (by decide)) (gk 29 (by decide) (by decide) (by decide)), gk (39 + (g o).toNat) (by omega) (by omega) (by omega)]
  refine ⟨b1, b2, b3, b4, fun k hk => ?_⟩
  rw [h37, ho (o + 49 + k) (by omega) (by omega)]; exact b5 k hk
theorem Rr.cg {L p o : Nat} {c c' : zMem} {g g' : Nat → Int} (h : Rr L p o c g) (h11 : c' (11, L, p) = c (11, L, p)) (h41 : c' (41, L, p) = c (41, L, p)) (ho : ∀ k, o + 6 ≤ k → k < o + 49 → g' k = g k) : Rr L p o c' g' := by
  obtain ⟨a1, a2, a3, a4, a5⟩ := h
  refine ⟨by rw [h11, ho (o + 6) (by omega) (by omega)]; exact a1, by rw [h11, ho (o + 7) (by omega) (by omega)]; exact a2, by rw [h11, ho (o + 8) (by omega) (by omega)]; exact a3, by rw [ho (o + 9) (by omega) (by omega), ho (o + 6) (by omega) (by omega)]; exact a4, fun k hk => by rw [h41, ho (o + 10 + k) (by omega) (by omega)]; exact a5 k hk⟩
/-- places that a step on link L leaves -/
def klb (L r l : Nat) : Bool := match r with
  | 12 => true
  | 16 => true
  | 17 => true
  | 18 => true
  | 19 => true
  | 30 => true
  | 31 => true
  | 7 => !(l == L)
  | 8 => !(l == L)
  | 9 => !(l == L)
  | 10 => !(l == L)
  | 11 => !(l == L)
  | 32 => !(l == L)
  | 33 => !(l == L)
  | 34 => !(l == L)
  | 35 => !(l == L)
  | 36 => !(l == L)
  | 37 => !(l == L)
  | 38 => !(l == L)
  | 39 => !(l == L)
  | 40 => !(l == L)
  | 41 => !(l == L)
  | _ => false
def knb (r : Nat) : Bool := match r with
  | 50 => true
  | 52 => true
  | 53 => true
  | 54 => true
  | 55 => true
  | 66 => true
  | 67 => true
  | _ => false
def kob (r : Nat) : Bool := match r with
  | 52 => true
  | 53 => true
  | 54 => true
  | 55 => true
  | 66 => true
  | 67 => true
  | _ => false
def sL (L : Nat) (c c' : zMem) : Prop := ∀ q : zPl, klb L q.1 q.2.1 = true → c' q = c q
def sN (m m' : zMem) : Prop := (∀ q : zPl, kob q.1 = true → m' q = m q) ∧ ∀ k, 1033 ≤ k → m' (51, 0, 0) k = m (51, 0, 0) k
theorem sL.rf (L : Nat) (c : zMem) : sL L c c := fun _ _ => rfl
theorem sN.rf (m : zMem) : sN m m := ⟨fun _ _ => rfl, fun _ _ => rfl⟩
theorem sL.tr {L : Nat} {a b c : zMem} (h1 : sL L a b) (h2 : sL L b c) : sL L a c := fun q hq => (h2 q hq).trans (h1 q hq)
theorem sN.tr {a b c : zMem} (h1 : sN a b) (h2 : sN b c) : sN a c := ⟨fun q hq => (h2.1 q hq).trans (h1.1 q hq), fun k hk => (h2.2 k hk).trans (h1.2 k hk)⟩
theorem kl_ne {L : Nat} {q q0 : zPl} (h : klb L q.1 q.2.1 = true) (h0 : klb L q0.1 q0.2.1 = false) : q ≠ q0 := fun e => by rw [e, h0] at h; cases h
theorem kn_ne {q q0 : zPl} (h : knb q.1 = true) (h0 : knb q0.1 = false) : q ≠ q0 := fun e => by rw [e, h0] at h; cases h
theorem ko_ne {q q0 : zPl} (h : kob q.1 = true) (h0 : kob q0.1 = false) : q ≠ q0 := fun e => by rw [e, h0] at h; cases h
theorem ko_kn {r : Nat} (h : kob r = true) : knb r = true := by
  unfold kob at h
  unfold knb
  split at h <;> simp_all
theorem kl_L (L r p : Nat) (h : klb 0 r 0 = false) : klb L r L = false := by
  unfold klb at h ⊢
  split at h <;> simp_all
theorem sRc.L {L : Nat} {c c' : zMem} (h : sRc L c c') : sL L c c' := fun q hq => h q (kl_ne hq (kl_L L 9 0 rfl)) (kl_ne hq (kl_L L 39 0 rfl)) (kl_ne hq (kl_L L 40 0 rfl))
theorem sRm.N {m m' : zMem} (h : sRm m m') : sN m m' := ⟨fun q hq => h.1 q (ko_ne hq rfl), fun k hk => h.2 k (by omega)⟩
/-! frames by what changed -/
def kab (r : Nat) : Bool := match r with
  | 5 => true
  | 12 => true
  | 16 => true
  | 17 => true
  | 18 => true
  | 19 => true
  | 30 => true
  | 31 => true
  | 7 => true
  | 8 => true
  | 9 => true
  | 10 => true
  | 11 => true
  | 32 => true
  | 33 => true
  | 34 => true
  | 35 => true
  | 36 => true
  | 37 => true
  | 38 => true
  | 39 => true
  | 40 => true
  | 41 => true
  | _ => false
def sK (P : zPl → Prop) (c c' : zMem) : Prop := ∀ q : zPl, kab q.1 = true → ¬ P q → c' q = c q
def sJ (P : Nat → Prop) (m m' : zMem) : Prop := (∀ q : zPl, knb q.1 = true → m' q = m q) ∧ ∀ k, ¬ P k → m' (51, 0, 0) k = m (51, 0, 0) k
theorem sK.rf (P : zPl → Prop) (c : zMem) : sK P c c := fun _ _ _ => rfl
theorem sJ.rf (P : Nat → Prop) (m : zMem) : sJ P m m := ⟨fun _ _ => rfl, fun _ _ => rfl⟩
theorem sK.tr {P : zPl → Prop} {a b c : zMem} (h1 : sK P a b) (h2 : sK P b c) : sK P a c := fun q hq hp => (h2 q hq hp).trans (h1 q hq hp)
theorem sJ.tr {P : Nat → Prop} {a b c : zMem} (h1 : sJ P a b) (h2 : sJ P b c) : sJ P a c := ⟨fun q hq => (h2.1 q hq).trans (h1.1 q hq), fun k hk => (h2.2 k hk).trans (h1.2 k hk)⟩
theorem sK.mo {P Q : zPl → Prop} {a b : zMem} (h : sK P a b) (hm : ∀ q, P q → Q q) : sK Q a b := fun q hq hp => h q hq (fun c => hp (hm q c))
theorem sJ.mo {P Q : Nat → Prop} {a b : zMem} (h : sJ P a b) (hm : ∀ k, P k → Q k) : sJ Q a b := ⟨h.1, fun k hk => h.2 k (fun c => hk (hm k c))⟩
theorem ka_ne {q q0 : zPl} (h : kab q.1 = true) (h0 : kab q0.1 = false) : q ≠ q0 := fun e => by rw [e, h0] at h; cases h
/-- places of link L -/
def lkP (L : Nat) (q : zPl) : Prop := q.2.1 = L ∧ klb 0 q.1 0 = false
theorem kl_ka {L : Nat} {q : zPl} (h : klb L q.1 q.2.1 = true) : kab q.1 = true ∧ ¬ lkP L q := by
  unfold klb at h
  unfold kab lkP klb
  split at h <;> simp_all
theorem sK.L {L : Nat} {P : zPl → Prop} {c c' : zMem} (h : sK P c c') (hP : ∀ q, P q → lkP L q) : sL L c c' := fun q hq => h q (kl_ka hq).1 (fun hp => (kl_ka hq).2 (hP q hp))
theorem sJ.N {P : Nat → Prop} {m m' : zMem} (h : sJ P m m') (hP : ∀ k, P k → k < 1033) : sN m m' := ⟨fun q hq => h.1 q (ko_kn hq), fun k hk => h.2 k (fun hp => by have := hP k hp; omega)⟩
