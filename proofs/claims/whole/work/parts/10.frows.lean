/-! rows that carry the rest of the method's function along: hf -/
def zlet {α β : Type} (x : α) (F : α → β) : β := F x
def zb {α β : Type} (o : Option α) (F : α → Option β) : Option β := match o with
  | none => none
  | some x => F x
def zbr {α γ β : Type} (o : Option (α ⊕ γ)) (F : α → Option β) (G : γ → β) : Option β := match o with
  | none => none
  | some (.inl x) => F x
  | some (.inr z) => some (G z)
def zlp {σ ρ : Type} (body : σ → Option (σ ⊕ ρ)) : Nat → σ → Option ρ
  | 0, _ => none
  | n + 1, s => match body s with
    | none => none
    | some (.inl s') => zlp body n s'
    | some (.inr r) => some r
theorem zgd {c : Prop} [Decidable c] {α : Type} {A : Option α} {u : α} (h : (if c then A else none) = some u) : c ∧ A = some u := by
  by_cases hc : c
  · rw [if_pos hc] at h; exact ⟨hc, h⟩
  · rw [if_neg hc] at h; cases h
theorem zif {c : Prop} [Decidable c] {α : Type} {A B : Option α} {u : α} (h : (if c then A else B) = some u) : (c ∧ A = some u) ∨ (¬ c ∧ B = some u) := by
  by_cases hc : c
  · rw [if_pos hc] at h; exact Or.inl ⟨hc, h⟩
  · rw [if_neg hc] at h; exact Or.inr ⟨hc, h⟩
theorem zb_inv {α β : Type} {o : Option α} {F : α → Option β} {u : β} (h : zb o F = some u) : ∃ x, o = some x ∧ F x = some u := by
  cases o with
  | none => cases h
  | some x => exact ⟨x, rfl, h⟩
theorem zbr_inv {α γ β : Type} {o : Option (α ⊕ γ)} {F : α → Option β} {G : γ → β} {u : β} (h : zbr o F G = some u) : (∃ x, o = some (.inl x) ∧ F x = some u) ∨ ∃ z, o = some (.inr z) ∧ G z = u := by
  cases o with
  | none => cases h
  | some x =>
    cases x with
    | inl x => exact Or.inl ⟨x, rfl, h⟩
    | inr z => exact Or.inr ⟨z, rfl, Option.some.inj h⟩
theorem zlp_W {σ ρ : Type} {body : σ → Option (σ ⊕ ρ)} {P : σ → Prop} {E : ρ → Prop} (hb : ∀ s u, body s = some u → (∀ s', u = .inl s' → P s') → (∀ x, u = .inr x → E x) → P s) : ∀ (n : Nat) (s : σ) (r : ρ), zlp body n s = some r → E r → P s := by
  intro n
  induction n with
  | zero => intro s r h; cases h
  | succ n ih =>
    intro s r h hE
    unfold zlp at h
    cases hu : body s with
    | none => rw [hu] at h; cases h
    | some u =>
      rw [hu] at h
      cases u with
      | inl s2 => exact hb s _ hu (fun s' e => by cases e; exact ih s2 r h hE) (fun x e => by cases e)
      | inr r2 => exact hb s _ hu (fun s' e => by cases e) (fun x e => by cases e; cases h; exact hE)
theorem w32_lit (n : Int) (h : decide (-2147483648 ≤ n ∧ n < 2147483648) = true) : w32 n = n := by
  have h := of_decide_eq_true h
  exact w32_id h.1 h.2
theorem w64_lit (n : Int) (h : decide (-9223372036854775808 ≤ n ∧ n < 9223372036854775808) = true) : w64 n = n := by
  have h := of_decide_eq_true h
  exact w64_id h.1 h.2
theorem w32_ne0 (n : Int) (h : decide (-2147483648 ≤ n ∧ n < 2147483648 ∧ n ≠ 0) = true) : ¬ w32 n = 0 := by
  have h := of_decide_eq_true h
  rw [w32_id h.1 h.2.1]; exact h.2.2
theorem zin_lit (n : Int) (N : Nat) (h : decide (0 ≤ n ∧ n < N ∧ n < 2147483648) = true) : zin n N := by
  have h := of_decide_eq_true h
  have e : w32 n = n := w32_id (by omega) h.2.2
  unfold zin; rw [e]; exact ⟨h.1, h.2.1⟩
theorem ix_lit (n : Nat) (h : decide (n < 2147483648) = true) : ix (n : Int) = n := by
  have h := of_decide_eq_true h
  unfold ix; rw [w32_id (by omega) (by omega)]; rfl
theorem w32_emod (a m : Int) (h : decide (0 < m ∧ m ≤ 2147483648) = true) : w32 (a % m) = a % m := by
  have h := of_decide_eq_true h
  have h1 := Int.emod_nonneg a (show m ≠ 0 by omega)
  have h2 := Int.emod_lt_of_pos a h.1
  exact w32_id (by omega) (by omega)
theorem w64_w32 (a : Int) : w64 (w32 a) = w32 a := by
  have h := w32_rng a
  exact w64_id (by omega) (by omega)
theorem w32_nat (n : Nat) (h : decide (n < 2147483648) = true) : w32 (n : Int) = (n : Int) := by
  have h := of_decide_eq_true h
  exact w32_id (by omega) (by omega)
def zOk (e : Nat → Prop) (q : zPl) : Prop := match zrk q.1 with
  | 0 => e 0 ∧ q.2.1 = 0 ∧ q.2.2 = 0
  | 1 => (e q.2.1 ∧ q.2.1 < 9) ∧ q.2.2 = 0
  | 2 => (e q.2.1 ∧ q.2.1 < 9) ∧ q.2.2 < 8
  | 3 => e 0 ∧ q.2.1 = 0 ∧ q.2.2 < 4
  | 4 => e 9 ∧ q.2.1 = 0 ∧ q.2.2 = 0
  | _ => False
/-- the world as it is between calls: every place is there, and the references are the skeleton's -/
def zWf (X : zX) (e : Nat → Prop) : Prop := (∀ q, zOk e q → zDom X q) ∧ (∀ q k q', zOk e q → zPs q k = some q' → zP X q k = some q') ∧ zHq X
theorem zWf.N {X : zX} {e : Nat → Prop} (h : zWf X e) : zWf (zN X) e := ⟨h.1, h.2.1, zHq_N X⟩
section
variable {e : Nat → Prop} {r r' L p : Nat}
theorem zokA (o : zOk e (r, 0, 0)) (h : zrk r = 0) (h' : zrk r' = 0) : zOk e (r', 0, 0) := by
  unfold zOk at o ⊢; simp only [h, h'] at o ⊢; exact o
theorem zokM (o : zOk e (r, 0, 0)) (h : zrk r = 4) (h' : zrk r' = 4) : zOk e (r', 0, 0) := by
  unfold zOk at o ⊢; simp only [h, h'] at o ⊢; exact o
theorem zokA0 (o : zOk e (r, 0, 0)) (h : zrk r = 0) (h' : zrk r' = 1) : zOk e (r', 0, 0) := by
  unfold zOk at o ⊢; simp only [h, h'] at o ⊢; exact ⟨⟨o.1, by decide⟩, trivial⟩
theorem zok1 (hL : e L) (h' : zrk r' = 1) (h9 : L < 9 := by decide) : zOk e (r', L, 0) := by
  unfold zOk; simp only [h']; exact ⟨⟨hL, h9⟩, trivial⟩
theorem zokB (o : zOk e (r, L, 0)) (h : zrk r = 1) (h' : zrk r' = 1) : zOk e (r', L, 0) := by
  unfold zOk at o ⊢; simp only [h, h'] at o ⊢; exact o
theorem zokC (o : zOk e (r, L, p)) (h : zrk r = 2) (h' : zrk r' = 2) : zOk e (r', L, p) := by
  unfold zOk at o ⊢; simp only [h, h'] at o ⊢; exact o
theorem zokE {v : Int} (o : zOk e (r, L, 0)) (h : zrk r = 1) (h' : zrk r' = 2) (hv : zin v 8) : zOk e (r', L, ix v) := by
  unfold zOk at o ⊢; simp only [h, h'] at o ⊢; exact ⟨o.1, ix_lt hv⟩
theorem zokT {v : Int} (o : zOk e (r, 0, 0)) (h : zrk r = 0) (h' : zrk r' = 3) (hv : zin v 4) : zOk e (r', 0, ix v) := by
  unfold zOk at o ⊢; simp only [h, h'] at o ⊢; exact ⟨o.1, trivial, ix_lt hv⟩
end
section
variable {X : zX} {T : zT} {M : zM} {pc : Nat} {lv : List (Nat × Value)} {st : List Value} {I : zMem} {α : Type} {A B : Option α} {u : α}
theorem zF_icmp_lt {a b ca cb off : Int} [Decidable (ca < cb)] (tgt : Nat) (hd : decode M.1 pc = .ok (.if_icmp .lt off, 3)) (ht : (pc : Int) + off = (tgt : Int)) (ha : w32 a = ca) (hb : w32 b = cb) (hf : (if ca < cb then A else B) = some u) (k1 : ca < cb → A = some u → zW X T M tgt lv st I) (k2 : ¬ ca < cb → B = some u → zW X T M (pc + 3) lv st I) : zW X T M pc lv (vi b :: vi a :: st) I := by
  subst ha hb
  exact zW_icmp_lt tgt hd ht (fun h => k1 h (by rw [if_pos h] at hf; exact hf)) (fun h => k2 h (by rw [if_neg h] at hf; exact hf))
theorem zF_icmp_ge {a b ca cb off : Int} [Decidable (cb ≤ ca)] (tgt : Nat) (hd : decode M.1 pc = .ok (.if_icmp .ge off, 3)) (ht : (pc : Int) + off = (tgt : Int)) (ha : w32 a = ca) (hb : w32 b = cb) (hf : (if cb ≤ ca then A else B) = some u) (k1 : cb ≤ ca → A = some u → zW X T M tgt lv st I) (k2 : ¬ cb ≤ ca → B = some u → zW X T M (pc + 3) lv st I) : zW X T M pc lv (vi b :: vi a :: st) I := by
  subst ha hb
  exact zW_icmp_ge tgt hd ht (fun h => k1 h (by rw [if_pos h] at hf; exact hf)) (fun h => k2 h (by rw [if_neg h] at hf; exact hf))
theorem zF_icmp_gt {a b ca cb off : Int} [Decidable (cb < ca)] (tgt : Nat) (hd : decode M.1 pc = .ok (.if_icmp .gt off, 3)) (ht : (pc : Int) + off = (tgt : Int)) (ha : w32 a = ca) (hb : w32 b = cb) (hf : (if cb < ca then A else B) = some u) (k1 : cb < ca → A = some u → zW X T M tgt lv st I) (k2 : ¬ cb < ca → B = some u → zW X T M (pc + 3) lv st I) : zW X T M pc lv (vi b :: vi a :: st) I := by
  subst ha hb
  exact zW_icmp_gt tgt hd ht (fun h => k1 h (by rw [if_pos h] at hf; exact hf)) (fun h => k2 h (by rw [if_neg h] at hf; exact hf))
theorem zF_icmp_le {a b ca cb off : Int} [Decidable (ca ≤ cb)] (tgt : Nat) (hd : decode M.1 pc = .ok (.if_icmp .le off, 3)) (ht : (pc : Int) + off = (tgt : Int)) (ha : w32 a = ca) (hb : w32 b = cb) (hf : (if ca ≤ cb then A else B) = some u) (k1 : ca ≤ cb → A = some u → zW X T M tgt lv st I) (k2 : ¬ ca ≤ cb → B = some u → zW X T M (pc + 3) lv st I) : zW X T M pc lv (vi b :: vi a :: st) I := by
  subst ha hb
  exact zW_icmp_le tgt hd ht (fun h => k1 h (by rw [if_pos h] at hf; exact hf)) (fun h => k2 h (by rw [if_neg h] at hf; exact hf))
theorem zF_icmp_eq {a b ca cb off : Int} [Decidable (ca = cb)] (tgt : Nat) (hd : decode M.1 pc = .ok (.if_icmp .eq off, 3)) (ht : (pc : Int) + off = (tgt : Int)) (ha : w32 a = ca) (hb : w32 b = cb) (hf : (if ca = cb then A else B) = some u) (k1 : ca = cb → A = some u → zW X T M tgt lv st I) (k2 : ¬ ca = cb → B = some u → zW X T M (pc + 3) lv st I) : zW X T M pc lv (vi b :: vi a :: st) I := by
  subst ha hb
  exact zW_icmp_eq tgt hd ht (fun h => k1 h (by rw [if_pos h] at hf; exact hf)) (fun h => k2 h (by rw [if_neg h] at hf; exact hf))
theorem zF_icmp_ne {a b ca cb off : Int} [Decidable (ca = cb)] (tgt : Nat) (hd : decode M.1 pc = .ok (.if_icmp .ne off, 3)) (ht : (pc : Int) + off = (tgt : Int)) (ha : w32 a = ca) (hb : w32 b = cb) (hf : (if ca = cb then A else B) = some u) (k1 : ca = cb → A = some u → zW X T M (pc + 3) lv st I) (k2 : ¬ ca = cb → B = some u → zW X T M tgt lv st I) : zW X T M pc lv (vi b :: vi a :: st) I := by
  subst ha hb
  exact zW_icmp_ne tgt hd ht (fun h => k1 h (by rw [if_pos h] at hf; exact hf)) (fun h => k2 h (by rw [if_neg h] at hf; exact hf))
theorem zF_if_lt {a ca off : Int} [Decidable (ca < 0)] (tgt : Nat) (hd : decode M.1 pc = .ok (.ifCond .lt off, 3)) (ht : (pc : Int) + off = (tgt : Int)) (ha : w32 a = ca) (hf : (if ca < 0 then A else B) = some u) (k1 : ca < 0 → A = some u → zW X T M tgt lv st I) (k2 : ¬ ca < 0 → B = some u → zW X T M (pc + 3) lv st I) : zW X T M pc lv (vi a :: st) I := by
  subst ha
  exact zW_if_lt tgt hd ht (fun h => k1 h (by rw [if_pos h] at hf; exact hf)) (fun h => k2 h (by rw [if_neg h] at hf; exact hf))
theorem zF_if_ge {a ca off : Int} [Decidable (0 ≤ ca)] (tgt : Nat) (hd : decode M.1 pc = .ok (.ifCond .ge off, 3)) (ht : (pc : Int) + off = (tgt : Int)) (ha : w32 a = ca) (hf : (if 0 ≤ ca then A else B) = some u) (k1 : 0 ≤ ca → A = some u → zW X T M tgt lv st I) (k2 : ¬ 0 ≤ ca → B = some u → zW X T M (pc + 3) lv st I) : zW X T M pc lv (vi a :: st) I := by
  subst ha
  exact zW_if_ge tgt hd ht (fun h => k1 h (by rw [if_pos h] at hf; exact hf)) (fun h => k2 h (by rw [if_neg h] at hf; exact hf))
theorem zF_if_gt {a ca off : Int} [Decidable (0 < ca)] (tgt : Nat) (hd : decode M.1 pc = .ok (.ifCond .gt off, 3)) (ht : (pc : Int) + off = (tgt : Int)) (ha : w32 a = ca) (hf : (if 0 < ca then A else B) = some u) (k1 : 0 < ca → A = some u → zW X T M tgt lv st I) (k2 : ¬ 0 < ca → B = some u → zW X T M (pc + 3) lv st I) : zW X T M pc lv (vi a :: st) I := by
  subst ha
  exact zW_if_gt tgt hd ht (fun h => k1 h (by rw [if_pos h] at hf; exact hf)) (fun h => k2 h (by rw [if_neg h] at hf; exact hf))
theorem zF_if_le {a ca off : Int} [Decidable (ca ≤ 0)] (tgt : Nat) (hd : decode M.1 pc = .ok (.ifCond .le off, 3)) (ht : (pc : Int) + off = (tgt : Int)) (ha : w32 a = ca) (hf : (if ca ≤ 0 then A else B) = some u) (k1 : ca ≤ 0 → A = some u → zW X T M tgt lv st I) (k2 : ¬ ca ≤ 0 → B = some u → zW X T M (pc + 3) lv st I) : zW X T M pc lv (vi a :: st) I := by
  subst ha
  exact zW_if_le tgt hd ht (fun h => k1 h (by rw [if_pos h] at hf; exact hf)) (fun h => k2 h (by rw [if_neg h] at hf; exact hf))
theorem zF_if_eq {a ca off : Int} [Decidable (ca = 0)] (tgt : Nat) (hd : decode M.1 pc = .ok (.ifCond .eq off, 3)) (ht : (pc : Int) + off = (tgt : Int)) (ha : w32 a = ca) (hf : (if ca = 0 then A else B) = some u) (k1 : ca = 0 → A = some u → zW X T M tgt lv st I) (k2 : ¬ ca = 0 → B = some u → zW X T M (pc + 3) lv st I) : zW X T M pc lv (vi a :: st) I := by
  subst ha
  exact zW_if_eq tgt hd ht (fun h => k1 h (by rw [if_pos h] at hf; exact hf)) (fun h => k2 h (by rw [if_neg h] at hf; exact hf))
theorem zF_if_ne {a ca off : Int} [Decidable (ca = 0)] (tgt : Nat) (hd : decode M.1 pc = .ok (.ifCond .ne off, 3)) (ht : (pc : Int) + off = (tgt : Int)) (ha : w32 a = ca) (hf : (if ca = 0 then A else B) = some u) (k1 : ca = 0 → A = some u → zW X T M (pc + 3) lv st I) (k2 : ¬ ca = 0 → B = some u → zW X T M tgt lv st I) : zW X T M pc lv (vi a :: st) I := by
  subst ha
  exact zW_if_ne tgt hd ht (fun h => k1 h (by rw [if_pos h] at hf; exact hf)) (fun h => k2 h (by rw [if_neg h] at hf; exact hf))
theorem zF_lcmp_lt {a b ca cb off : Int} [Decidable (ca < cb)] (tgt : Nat) (hd : decode M.1 pc = .ok (.lcmp, 1)) (hd2 : decode M.1 (pc + 1) = .ok (.ifCond .lt off, 3)) (ht : ((pc + 1 : Nat) : Int) + off = (tgt : Int)) (ha : w64 a = ca) (hb : w64 b = cb) (hf : (if ca < cb then A else B) = some u) (k1 : ca < cb → A = some u → zW X T M tgt lv st I) (k2 : ¬ ca < cb → B = some u → zW X T M (pc + 1 + 3) lv st I) : zW X T M pc lv (vl b :: vl a :: st) I := by
  subst ha hb
  exact zW_lcmp_lt tgt hd hd2 ht (fun h => k1 h (by rw [if_pos h] at hf; exact hf)) (fun h => k2 h (by rw [if_neg h] at hf; exact hf))
theorem zF_lcmp_ge {a b ca cb off : Int} [Decidable (cb ≤ ca)] (tgt : Nat) (hd : decode M.1 pc = .ok (.lcmp, 1)) (hd2 : decode M.1 (pc + 1) = .ok (.ifCond .ge off, 3)) (ht : ((pc + 1 : Nat) : Int) + off = (tgt : Int)) (ha : w64 a = ca) (hb : w64 b = cb) (hf : (if cb ≤ ca then A else B) = some u) (k1 : cb ≤ ca → A = some u → zW X T M tgt lv st I) (k2 : ¬ cb ≤ ca → B = some u → zW X T M (pc + 1 + 3) lv st I) : zW X T M pc lv (vl b :: vl a :: st) I := by
  subst ha hb
  exact zW_lcmp_ge tgt hd hd2 ht (fun h => k1 h (by rw [if_pos h] at hf; exact hf)) (fun h => k2 h (by rw [if_neg h] at hf; exact hf))
theorem zF_lcmp_gt {a b ca cb off : Int} [Decidable (cb < ca)] (tgt : Nat) (hd : decode M.1 pc = .ok (.lcmp, 1)) (hd2 : decode M.1 (pc + 1) = .ok (.ifCond .gt off, 3)) (ht : ((pc + 1 : Nat) : Int) + off = (tgt : Int)) (ha : w64 a = ca) (hb : w64 b = cb) (hf : (if cb < ca then A else B) = some u) (k1 : cb < ca → A = some u → zW X T M tgt lv st I) (k2 : ¬ cb < ca → B = some u → zW X T M (pc + 1 + 3) lv st I) : zW X T M pc lv (vl b :: vl a :: st) I := by
  subst ha hb
  exact zW_lcmp_gt tgt hd hd2 ht (fun h => k1 h (by rw [if_pos h] at hf; exact hf)) (fun h => k2 h (by rw [if_neg h] at hf; exact hf))
theorem zF_lcmp_le {a b ca cb off : Int} [Decidable (ca ≤ cb)] (tgt : Nat) (hd : decode M.1 pc = .ok (.lcmp, 1)) (hd2 : decode M.1 (pc + 1) = .ok (.ifCond .le off, 3)) (ht : ((pc + 1 : Nat) : Int) + off = (tgt : Int)) (ha : w64 a = ca) (hb : w64 b = cb) (hf : (if ca ≤ cb then A else B) = some u) (k1 : ca ≤ cb → A = some u → zW X T M tgt lv st I) (k2 : ¬ ca ≤ cb → B = some u → zW X T M (pc + 1 + 3) lv st I) : zW X T M pc lv (vl b :: vl a :: st) I := by
  subst ha hb
  exact zW_lcmp_le tgt hd hd2 ht (fun h => k1 h (by rw [if_pos h] at hf; exact hf)) (fun h => k2 h (by rw [if_neg h] at hf; exact hf))
theorem zF_lcmp_eq {a b ca cb off : Int} [Decidable (ca = cb)] (tgt : Nat) (hd : decode M.1 pc = .ok (.lcmp, 1)) (hd2 : decode M.1 (pc + 1) = .ok (.ifCond .eq off, 3)) (ht : ((pc + 1 : Nat) : Int) + off = (tgt : Int)) (ha : w64 a = ca) (hb : w64 b = cb) (hf : (if ca = cb then A else B) = some u) (k1 : ca = cb → A = some u → zW X T M tgt lv st I) (k2 : ¬ ca = cb → B = some u → zW X T M (pc + 1 + 3) lv st I) : zW X T M pc lv (vl b :: vl a :: st) I := by
  subst ha hb
  exact zW_lcmp_eq tgt hd hd2 ht (fun h => k1 h (by rw [if_pos h] at hf; exact hf)) (fun h => k2 h (by rw [if_neg h] at hf; exact hf))
theorem zF_lcmp_ne {a b ca cb off : Int} [Decidable (ca = cb)] (tgt : Nat) (hd : decode M.1 pc = .ok (.lcmp, 1)) (hd2 : decode M.1 (pc + 1) = .ok (.ifCond .ne off, 3)) (ht : ((pc + 1 : Nat) : Int) + off = (tgt : Int)) (ha : w64 a = ca) (hb : w64 b = cb) (hf : (if ca = cb then A else B) = some u) (k1 : ca = cb → A = some u → zW X T M (pc + 1 + 3) lv st I) (k2 : ¬ ca = cb → B = some u → zW X T M tgt lv st I) : zW X T M pc lv (vl b :: vl a :: st) I := by
  subst ha hb
  exact zW_lcmp_ne tgt hd hd2 ht (fun h => k1 h (by rw [if_pos h] at hf; exact hf)) (fun h => k2 h (by rw [if_neg h] at hf; exact hf))
theorem zF_istore_n {n : Fin 4} {z : Int} {F : Int → Option α} {lv' : Int → List (Nat × Value)} (hd : decode M.1 pc = .ok (.istore_n n, 1)) (hf : zlet z F = some u) (hl' : ∀ v, ((n : Nat), (vi v : Value)) :: lv.filter (fun q => !(q.1 == (n : Nat)) && !(q.1 + 1 == (n : Nat) && q.2.category == 2)) = lv' v) (hn : decide ((n : Nat) < M.2.2.1) = true) (k : ∀ v, F v = some u → zW X T M (pc + 1) (lv' v) st I) : zW X T M pc lv (vi z :: st) I := zW_istore_n hd (hl' z) hn (k z hf)
theorem zF_istore {i : Nat} {z : Int} {F : Int → Option α} {lv' : Int → List (Nat × Value)} (hd : decode M.1 pc = .ok (.istore i, 2)) (hf : zlet z F = some u) (hl' : ∀ v, (i, (vi v : Value)) :: lv.filter (fun q => !(q.1 == i) && !(q.1 + 1 == i && q.2.category == 2)) = lv' v) (hn : decide (i < M.2.2.1) = true) (k : ∀ v, F v = some u → zW X T M (pc + 2) (lv' v) st I) : zW X T M pc lv (vi z :: st) I := zW_istore hd (hl' z) hn (k z hf)
theorem zF_lstore_n {n : Fin 4} {z : Int} {F : Int → Option α} {lv' : Int → List (Nat × Value)} (hd : decode M.1 pc = .ok (.lstore_n n, 1)) (hf : zlet z F = some u) (hl' : ∀ v, ((n : Nat), (vl v : Value)) :: lv.filter (fun q => !(q.1 == (n : Nat)) && (!(q.1 == (n : Nat) + 1) && !(q.1 + 1 == (n : Nat) && q.2.category == 2))) = lv' v) (hn : decide ((n : Nat) + 1 < M.2.2.1) = true) (k : ∀ v, F v = some u → zW X T M (pc + 1) (lv' v) st I) : zW X T M pc lv (vl z :: st) I := zW_lstore_n hd (hl' z) hn (k z hf)
theorem zF_lstore {i : Nat} {z : Int} {F : Int → Option α} {lv' : Int → List (Nat × Value)} (hd : decode M.1 pc = .ok (.lstore i, 2)) (hf : zlet z F = some u) (hl' : ∀ v, (i, (vl v : Value)) :: lv.filter (fun q => !(q.1 == i) && (!(q.1 == i + 1) && !(q.1 + 1 == i && q.2.category == 2))) = lv' v) (hn : decide (i + 1 < M.2.2.1) = true) (k : ∀ v, F v = some u → zW X T M (pc + 2) (lv' v) st I) : zW X T M pc lv (vl z :: st) I := zW_lstore hd (hl' z) hn (k z hf)
theorem zW_lconst0 (hd : decode M.1 pc = .ok (.lconst 0, 1)) (k : zW X T M (pc + 1) lv (vl 0 :: st) I) : zW X T M pc lv st I := zW_lconst hd k
theorem zW_lconst1 (hd : decode M.1 pc = .ok (.lconst 1, 1)) (k : zW X T M (pc + 1) lv (vl 1 :: st) I) : zW X T M pc lv st I := zW_lconst hd k
theorem zF_put {q : zPl} {idx ci N k : Nat} {t : FieldType} {z : Int} {F : zMem → Option α} (hfk : zFk M.2.1 idx ci N k false t) (hq : zDom X q) (hk : zkd q.1 = (ci, N)) (hz : zfr ci k = false) (hn : narrow t (vi z) = vi z ∧ fits t (vi z) = true) (hd : decode M.1 pc = .ok (.putfield idx, 3)) (hf : zlet (zst I q k z) F = some u) (kk : ∀ J, F J = some u → zW X T M (pc + 3) lv st J) : zW X T M pc lv (vi z :: .ref (zad X q) :: st) I := zW_put hfk hq hk hz hn hd (kk _ hf)
theorem zF_iald {q : zPl} {n j : Nat} {z : Int} (hq : zDom X q) (hk : zkd q.1 = (14, n)) (hb : zin z n) (hj : ix z = j) (hd : decode M.1 pc = .ok (.iaload, 1)) (kk : zW X T M (pc + 1) lv (vi (I q j) :: st) I) : zW X T M pc lv (vi z :: .ref (zad X q) :: st) I := by subst hj; exact zW_iald hq hk hb hd kk
theorem zF_lald {q : zPl} {n j : Nat} {z : Int} (hq : zDom X q) (hk : zkd q.1 = (15, n)) (hb : zin z n) (hj : ix z = j) (hd : decode M.1 pc = .ok (.laload, 1)) (kk : zW X T M (pc + 1) lv (vl (I q j) :: st) I) : zW X T M pc lv (vi z :: .ref (zad X q) :: st) I := by subst hj; exact zW_lald hq hk hb hd kk
theorem zF_bald {q : zPl} {n j : Nat} {z : Int} (hq : zDom X q) (hk : zkd q.1 = (13, n)) (hb : zin z n) (hj : ix z = j) (hd : decode M.1 pc = .ok (.baload, 1)) (kk : zW X T M (pc + 1) lv (vi (I q j) :: st) I) : zW X T M pc lv (vi z :: .ref (zad X q) :: st) I := by subst hj; exact zW_bald hq hk hb hd kk
theorem zF_zald {q : zPl} {n j : Nat} {z : Int} (hq : zDom X q) (hk : zkd q.1 = (16, n)) (hb : zin z n) (hj : ix z = j) (hd : decode M.1 pc = .ok (.baload, 1)) (kk : zW X T M (pc + 1) lv (vi (I q j) :: st) I) : zW X T M pc lv (vi z :: .ref (zad X q) :: st) I := by subst hj; exact zW_zald hq hk hb hd kk
theorem zF_iast {q : zPl} {n j : Nat} {z x : Int} {F : zMem → Option α} (hq : zDom X q) (hk : zkd q.1 = (14, n)) (hb : zin z n) (hj : ix z = j) (hd : decode M.1 pc = .ok (.iastore, 1)) (hf : zlet (zst I q j x) F = some u) (kk : ∀ J, F J = some u → zW X T M (pc + 1) lv st J) : zW X T M pc lv (vi x :: vi z :: .ref (zad X q) :: st) I := by subst hj; exact zW_iast hq hk hb hd (kk _ hf)
theorem zF_last {q : zPl} {n j : Nat} {z x : Int} {F : zMem → Option α} (hq : zDom X q) (hk : zkd q.1 = (15, n)) (hb : zin z n) (hj : ix z = j) (hd : decode M.1 pc = .ok (.lastore, 1)) (hf : zlet (zst I q j x) F = some u) (kk : ∀ J, F J = some u → zW X T M (pc + 1) lv st J) : zW X T M pc lv (vl x :: vi z :: .ref (zad X q) :: st) I := by subst hj; exact zW_last hq hk hb hd (kk _ hf)
theorem zF_bast {q : zPl} {n j : Nat} {z x : Int} {F : zMem → Option α} (hq : zDom X q) (hk : zkd q.1 = (13, n)) (hb : zin z n) (hj : ix z = j) (hd : decode M.1 pc = .ok (.bastore, 1)) (hf : zlet (zst I q j (w8 x)) F = some u) (kk : ∀ J, F J = some u → zW X T M (pc + 1) lv st J) : zW X T M pc lv (vi x :: vi z :: .ref (zad X q) :: st) I := by subst hj; exact zW_bast hq hk hb hd (kk _ hf)
theorem zF_zast {q : zPl} {n j : Nat} {z x : Int} {F : zMem → Option α} (hq : zDom X q) (hk : zkd q.1 = (16, n)) (hb : zin z n) (hj : ix z = j) (hx : zbo x) (hd : decode M.1 pc = .ok (.bastore, 1)) (hf : zlet (zst I q j x) F = some u) (kk : ∀ J, F J = some u → zW X T M (pc + 1) lv st J) : zW X T M pc lv (vi x :: vi z :: .ref (zad X q) :: st) I := by subst hj; exact zW_zast hq hk hb hx hd (kk _ hf)
theorem zF_copy {a b : zPl} {sp dp n : Int} {na nb idx s1 d1 n1 : Nat} {F : zMem → Option α} (hm : zMa M.2.1 idx) (ha : zDom X a) (hka : zkd a.1 = (14, na)) (hb : zDom X b) (hkb : zkd b.1 = (14, nb)) (hok : zcpok sp dp n na nb) (e1 : ix sp = s1) (e2 : ix dp = d1) (e3 : ix n = n1) (hr : decide (1 ≤ M.2.2.2.2.frames ∧ (st.map fun v => v.category).sum + (nativeFrameWords "java/lang/System" "arraycopy" 5 + 11) ≤ M.2.2.2.2.locals) = true) (hd : decode M.1 pc = .ok (.invokestatic idx, 3)) (hf : zlet (zcp I a s1 b d1 n1) F = some u) (kk : ∀ J, F J = some u → zW X T M (pc + 3) lv st J) : zW X T M pc lv (vi n :: vi dp :: .ref (zad X b) :: vi sp :: .ref (zad X a) :: st) I := by
  subst e1 e2 e3
  exact zW_copy hm ha hka hb hkb hok hr hd (kk _ hf)
theorem zR_i {e : Nat → Prop} {z : Int} {J : zMem} {u : Int × zMem} (hw : zWf X e) (hr : M.2.2.2.1 = some .int) (hd : decode M.1 pc = .ok (.ireturn, 1)) (hf : some (z, J) = some u) : zW X (some (vi u.1), u.2) M pc lv [vi z] J := by cases hf; exact zW_iret hw.2.2 hr hd
theorem zR_z {e : Nat → Prop} {z : Int} {J : zMem} {u : Int × zMem} (hw : zWf X e) (hr : M.2.2.2.1 = some .boolean) (hz : zbo z) (hd : decode M.1 pc = .ok (.ireturn, 1)) (hf : some (z, J) = some u) : zW X (some (vi u.1), u.2) M pc lv [vi z] J := by cases hf; exact zW_zret hw.2.2 hr hz hd
theorem zR_l {e : Nat → Prop} {z : Int} {J : zMem} {u : Int × zMem} (hw : zWf X e) (hr : M.2.2.2.1 = some .long) (hd : decode M.1 pc = .ok (.lreturn, 1)) (hf : some (z, J) = some u) : zW X (some (vl u.1), u.2) M pc lv [vl z] J := by cases hf; exact zW_lret hw.2.2 hr hd
theorem zR_v {e : Nat → Prop} {J u : zMem} (hw : zWf X e) (hr : M.2.2.2.1 = none) (hd : decode M.1 pc = .ok (.return_, 1)) (hf : some J = some u) : zW X (none, u) M pc lv [] J := by cases hf; exact zW_vret hw.2.2 hr hd
theorem zS_i {e : Nat → Prop} {z : Int} {u : Int} (hw : zWf X e) (hr : M.2.2.2.1 = some .int) (hd : decode M.1 pc = .ok (.ireturn, 1)) (hf : some z = some u) : zW X (some (vi u), I) M pc lv [vi z] I := by cases hf; exact zW_iret hw.2.2 hr hd
theorem zS_z {e : Nat → Prop} {z : Int} {u : Int} (hw : zWf X e) (hr : M.2.2.2.1 = some .boolean) (hz : zbo z) (hd : decode M.1 pc = .ok (.ireturn, 1)) (hf : some z = some u) : zW X (some (vi u), I) M pc lv [vi z] I := by cases hf; exact zW_zret hw.2.2 hr hz hd
theorem zS_l {e : Nat → Prop} {z : Int} {u : Int} (hw : zWf X e) (hr : M.2.2.2.1 = some .long) (hd : decode M.1 pc = .ok (.lreturn, 1)) (hf : some z = some u) : zW X (some (vl u), I) M pc lv [vl z] I := by cases hf; exact zW_lret hw.2.2 hr hd
theorem zQ_i {e : Nat → Prop} {z : Int} {J : zMem} (hw : zWf X e) (hr : M.2.2.2.1 = some .int) (hd : decode M.1 pc = .ok (.ireturn, 1)) (hT : T = (some (vi z), J)) : zW X T M pc lv [vi z] J := by subst hT; exact zW_iret hw.2.2 hr hd
theorem zQ_z {e : Nat → Prop} {z : Int} {J : zMem} (hw : zWf X e) (hr : M.2.2.2.1 = some .boolean) (hz : zbo z) (hd : decode M.1 pc = .ok (.ireturn, 1)) (hT : T = (some (vi z), J)) : zW X T M pc lv [vi z] J := by subst hT; exact zW_zret hw.2.2 hr hz hd
theorem zQ_l {e : Nat → Prop} {z : Int} {J : zMem} (hw : zWf X e) (hr : M.2.2.2.1 = some .long) (hd : decode M.1 pc = .ok (.lreturn, 1)) (hT : T = (some (vl z), J)) : zW X T M pc lv [vl z] J := by subst hT; exact zW_lret hw.2.2 hr hd
theorem zQ_v {e : Nat → Prop} {J : zMem} (hw : zWf X e) (hr : M.2.2.2.1 = none) (hd : decode M.1 pc = .ok (.return_, 1)) (hT : T = (none, J)) : zW X T M pc lv [] J := by subst hT; exact zW_vret hw.2.2 hr hd
theorem zC_Vwi {y : MethodName} {M' : zM} {As : List Value} {q : zPl} {idx n ci N : Nat} {stk : List Value} {o : Option (Int × zMem)} {F : Int × zMem → Option α} (hC : ∀ x, o = some x → zCn X M' y (.ref (zad X q) :: As) I (some (vi x.1), x.2)) (hm : zMv M.2.1 idx y M' n ci) (hq : zDom X q) (hk : zkd q.1 = (ci, N)) (hroom : decide (M'.2.2.2.2.frames + 1 ≤ M.2.2.2.2.frames ∧ 8 + (M'.2.2.1 + 11) + M'.2.2.2.2.locals ≤ M.2.2.2.2.locals) = true) (hn : As.length = n) (hsum : decide ((st.map fun v => v.category).sum ≤ 8) = true) (hstk : stk = As.reverse ++ .ref (zad X q) :: st) (hd : decode M.1 pc = .ok (.invokevirtual idx, 3)) (hf : zb o F = some u) (kk : ∀ x, F x = some u → zW X T M (pc + 3) lv (vi x.1 :: st) x.2) : zW X T M pc lv stk I := by
  obtain ⟨x, hx, hf⟩ := zb_inv hf
  exact zW_callV (hC x hx) hm hq hk hroom hn hsum hstk hd (kk x hf)
theorem zC_Vri {y : MethodName} {M' : zM} {As : List Value} {q : zPl} {idx n ci N : Nat} {stk : List Value} {o : Option Int} {F : Int → Option α} (hC : ∀ x, o = some x → zCn X M' y (.ref (zad X q) :: As) I (some (vi x), I)) (hm : zMv M.2.1 idx y M' n ci) (hq : zDom X q) (hk : zkd q.1 = (ci, N)) (hroom : decide (M'.2.2.2.2.frames + 1 ≤ M.2.2.2.2.frames ∧ 8 + (M'.2.2.1 + 11) + M'.2.2.2.2.locals ≤ M.2.2.2.2.locals) = true) (hn : As.length = n) (hsum : decide ((st.map fun v => v.category).sum ≤ 8) = true) (hstk : stk = As.reverse ++ .ref (zad X q) :: st) (hd : decode M.1 pc = .ok (.invokevirtual idx, 3)) (hf : zb o F = some u) (kk : ∀ x, F x = some u → zW X T M (pc + 3) lv (vi x :: st) I) : zW X T M pc lv stk I := by
  obtain ⟨x, hx, hf⟩ := zb_inv hf
  exact zW_callV (hC x hx) hm hq hk hroom hn hsum hstk hd (kk x hf)
theorem zC_Vwl {y : MethodName} {M' : zM} {As : List Value} {q : zPl} {idx n ci N : Nat} {stk : List Value} {o : Option (Int × zMem)} {F : Int × zMem → Option α} (hC : ∀ x, o = some x → zCn X M' y (.ref (zad X q) :: As) I (some (vl x.1), x.2)) (hm : zMv M.2.1 idx y M' n ci) (hq : zDom X q) (hk : zkd q.1 = (ci, N)) (hroom : decide (M'.2.2.2.2.frames + 1 ≤ M.2.2.2.2.frames ∧ 8 + (M'.2.2.1 + 11) + M'.2.2.2.2.locals ≤ M.2.2.2.2.locals) = true) (hn : As.length = n) (hsum : decide ((st.map fun v => v.category).sum ≤ 8) = true) (hstk : stk = As.reverse ++ .ref (zad X q) :: st) (hd : decode M.1 pc = .ok (.invokevirtual idx, 3)) (hf : zb o F = some u) (kk : ∀ x, F x = some u → zW X T M (pc + 3) lv (vl x.1 :: st) x.2) : zW X T M pc lv stk I := by
  obtain ⟨x, hx, hf⟩ := zb_inv hf
  exact zW_callV (hC x hx) hm hq hk hroom hn hsum hstk hd (kk x hf)
theorem zC_Vrl {y : MethodName} {M' : zM} {As : List Value} {q : zPl} {idx n ci N : Nat} {stk : List Value} {o : Option Int} {F : Int → Option α} (hC : ∀ x, o = some x → zCn X M' y (.ref (zad X q) :: As) I (some (vl x), I)) (hm : zMv M.2.1 idx y M' n ci) (hq : zDom X q) (hk : zkd q.1 = (ci, N)) (hroom : decide (M'.2.2.2.2.frames + 1 ≤ M.2.2.2.2.frames ∧ 8 + (M'.2.2.1 + 11) + M'.2.2.2.2.locals ≤ M.2.2.2.2.locals) = true) (hn : As.length = n) (hsum : decide ((st.map fun v => v.category).sum ≤ 8) = true) (hstk : stk = As.reverse ++ .ref (zad X q) :: st) (hd : decode M.1 pc = .ok (.invokevirtual idx, 3)) (hf : zb o F = some u) (kk : ∀ x, F x = some u → zW X T M (pc + 3) lv (vl x :: st) I) : zW X T M pc lv stk I := by
  obtain ⟨x, hx, hf⟩ := zb_inv hf
  exact zW_callV (hC x hx) hm hq hk hroom hn hsum hstk hd (kk x hf)
theorem zC_Vwv {y : MethodName} {M' : zM} {As : List Value} {q : zPl} {idx n ci N : Nat} {stk : List Value} {o : Option zMem} {F : zMem → Option α} (hC : ∀ x, o = some x → zCn X M' y (.ref (zad X q) :: As) I (none, x)) (hm : zMv M.2.1 idx y M' n ci) (hq : zDom X q) (hk : zkd q.1 = (ci, N)) (hroom : decide (M'.2.2.2.2.frames + 1 ≤ M.2.2.2.2.frames ∧ 8 + (M'.2.2.1 + 11) + M'.2.2.2.2.locals ≤ M.2.2.2.2.locals) = true) (hn : As.length = n) (hsum : decide ((st.map fun v => v.category).sum ≤ 8) = true) (hstk : stk = As.reverse ++ .ref (zad X q) :: st) (hd : decode M.1 pc = .ok (.invokevirtual idx, 3)) (hf : zb o F = some u) (kk : ∀ x, F x = some u → zW X T M (pc + 3) lv st x) : zW X T M pc lv stk I := by
  obtain ⟨x, hx, hf⟩ := zb_inv hf
  exact zW_callV (hC x hx) hm hq hk hroom hn hsum hstk hd (kk x hf)
theorem zC_Swi {y : MethodName} {M' : zM} {As : List Value} {idx n : Nat} {stk : List Value} {o : Option (Int × zMem)} {F : Int × zMem → Option α} (hC : ∀ x, o = some x → zCn X M' y (As) I (some (vi x.1), x.2)) (hm : zMs M.2.1 idx y M' n) (hroom : decide (M'.2.2.2.2.frames + 1 ≤ M.2.2.2.2.frames ∧ 8 + (M'.2.2.1 + 11) + M'.2.2.2.2.locals ≤ M.2.2.2.2.locals) = true) (hn : As.length = n) (hsum : decide ((st.map fun v => v.category).sum ≤ 8) = true) (hstk : stk = As.reverse ++ st) (hd : decode M.1 pc = .ok (.invokestatic idx, 3)) (hf : zb o F = some u) (kk : ∀ x, F x = some u → zW X T M (pc + 3) lv (vi x.1 :: st) x.2) : zW X T M pc lv stk I := by
  obtain ⟨x, hx, hf⟩ := zb_inv hf
  exact zW_callS (hC x hx) hm hroom hn hsum hstk hd (kk x hf)
theorem zC_Sri {y : MethodName} {M' : zM} {As : List Value} {idx n : Nat} {stk : List Value} {o : Option Int} {F : Int → Option α} (hC : ∀ x, o = some x → zCn X M' y (As) I (some (vi x), I)) (hm : zMs M.2.1 idx y M' n) (hroom : decide (M'.2.2.2.2.frames + 1 ≤ M.2.2.2.2.frames ∧ 8 + (M'.2.2.1 + 11) + M'.2.2.2.2.locals ≤ M.2.2.2.2.locals) = true) (hn : As.length = n) (hsum : decide ((st.map fun v => v.category).sum ≤ 8) = true) (hstk : stk = As.reverse ++ st) (hd : decode M.1 pc = .ok (.invokestatic idx, 3)) (hf : zb o F = some u) (kk : ∀ x, F x = some u → zW X T M (pc + 3) lv (vi x :: st) I) : zW X T M pc lv stk I := by
  obtain ⟨x, hx, hf⟩ := zb_inv hf
  exact zW_callS (hC x hx) hm hroom hn hsum hstk hd (kk x hf)
theorem zC_Swl {y : MethodName} {M' : zM} {As : List Value} {idx n : Nat} {stk : List Value} {o : Option (Int × zMem)} {F : Int × zMem → Option α} (hC : ∀ x, o = some x → zCn X M' y (As) I (some (vl x.1), x.2)) (hm : zMs M.2.1 idx y M' n) (hroom : decide (M'.2.2.2.2.frames + 1 ≤ M.2.2.2.2.frames ∧ 8 + (M'.2.2.1 + 11) + M'.2.2.2.2.locals ≤ M.2.2.2.2.locals) = true) (hn : As.length = n) (hsum : decide ((st.map fun v => v.category).sum ≤ 8) = true) (hstk : stk = As.reverse ++ st) (hd : decode M.1 pc = .ok (.invokestatic idx, 3)) (hf : zb o F = some u) (kk : ∀ x, F x = some u → zW X T M (pc + 3) lv (vl x.1 :: st) x.2) : zW X T M pc lv stk I := by
  obtain ⟨x, hx, hf⟩ := zb_inv hf
  exact zW_callS (hC x hx) hm hroom hn hsum hstk hd (kk x hf)
theorem zC_Srl {y : MethodName} {M' : zM} {As : List Value} {idx n : Nat} {stk : List Value} {o : Option Int} {F : Int → Option α} (hC : ∀ x, o = some x → zCn X M' y (As) I (some (vl x), I)) (hm : zMs M.2.1 idx y M' n) (hroom : decide (M'.2.2.2.2.frames + 1 ≤ M.2.2.2.2.frames ∧ 8 + (M'.2.2.1 + 11) + M'.2.2.2.2.locals ≤ M.2.2.2.2.locals) = true) (hn : As.length = n) (hsum : decide ((st.map fun v => v.category).sum ≤ 8) = true) (hstk : stk = As.reverse ++ st) (hd : decode M.1 pc = .ok (.invokestatic idx, 3)) (hf : zb o F = some u) (kk : ∀ x, F x = some u → zW X T M (pc + 3) lv (vl x :: st) I) : zW X T M pc lv stk I := by
  obtain ⟨x, hx, hf⟩ := zb_inv hf
  exact zW_callS (hC x hx) hm hroom hn hsum hstk hd (kk x hf)
theorem zC_Swv {y : MethodName} {M' : zM} {As : List Value} {idx n : Nat} {stk : List Value} {o : Option zMem} {F : zMem → Option α} (hC : ∀ x, o = some x → zCn X M' y (As) I (none, x)) (hm : zMs M.2.1 idx y M' n) (hroom : decide (M'.2.2.2.2.frames + 1 ≤ M.2.2.2.2.frames ∧ 8 + (M'.2.2.1 + 11) + M'.2.2.2.2.locals ≤ M.2.2.2.2.locals) = true) (hn : As.length = n) (hsum : decide ((st.map fun v => v.category).sum ≤ 8) = true) (hstk : stk = As.reverse ++ st) (hd : decode M.1 pc = .ok (.invokestatic idx, 3)) (hf : zb o F = some u) (kk : ∀ x, F x = some u → zW X T M (pc + 3) lv st x) : zW X T M pc lv stk I := by
  obtain ⟨x, hx, hf⟩ := zb_inv hf
  exact zW_callS (hC x hx) hm hroom hn hsum hstk hd (kk x hf)
end
