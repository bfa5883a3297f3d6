theorem zSm.ln {A B : zX} {L : Nat} (h : zSm A B) : zSm (zLn A L) (zLn B L) := by
  obtain ⟨⟨x1, x2, x3, x4, x5⟩, hd, hp, hz⟩ := h
  refine ⟨⟨x1, x2, x3, x4, x5⟩, fun a => ?_, fun a j ha hj => ?_, ?_⟩
  · show lkQ L a ∨ zDom B a ↔ lkQ L a ∨ zDom A a
    rw [hd a]
  · show (if lkQ L a then zPs a j else zP B a j) = if lkQ L a then zPs a j else zP A a j
    by_cases e : lkQ L a
    · rw [if_pos e, if_pos e]
    · rw [if_neg e, if_neg e]
      exact hp a j (ha.resolve_left e) hj
  · show zz B + 43 = zz A + 43
    rw [hz]
theorem zOk_or {e : Nat → Prop} {L : Nat} (h0 : L ≠ 0) (h9 : L ≠ 9) {q : zPl} (h : zOk (fun M => e M ∨ M = L) q) : zOk e q ∨ lkQ L q := by
  unfold zOk at h ⊢
  split at h
  · rename_i hr
    rcases h.1 with h1 | h1
    · exact Or.inl ⟨h1, h.2⟩
    · exact absurd h1.symm h0
  · rename_i hr
    rcases h.1.1 with h1 | h1
    · exact Or.inl ⟨⟨h1, h.1.2⟩, h.2⟩
    · exact Or.inr ⟨h1, Or.inl ⟨hr, h.2⟩⟩
  · rename_i hr
    rcases h.1.1 with h1 | h1
    · exact Or.inl ⟨⟨h1, h.1.2⟩, h.2⟩
    · exact Or.inr ⟨h1, Or.inr ⟨hr, h.2⟩⟩
  · rcases h.1 with h1 | h1
    · exact Or.inl ⟨h1, h.2⟩
    · exact absurd h1.symm h0
  · rcases h.1 with h1 | h1
    · exact Or.inl ⟨h1, h.2⟩
    · exact absurd h1.symm h9
  · exact h.elim
/-- the world behind a new image -/
def zIm (X : zX) (k : Nat) : zX := zpt (zLn X (2 + k)) (12, 0, 0) k (7, 2 + k, 0)
theorem zIm_wf {X : zX} {e : Nat → Prop} {k : Nat} (hk : k < 2) (h1 : ∀ q, zOk e q → zDom X q) (h2 : ∀ q j q', zOk e q → zPs q j = some q' → zP X q j = some q') (he : ¬ e (2 + k)) (hq : zHq (zIm X k)) : zWf (zIm X k) (fun L => e L ∨ L = 2 + k) := by
  refine ⟨fun q o => ?_, fun q j q' o hp => ?_, hq⟩
  · rcases zOk_or (by omega) (by omega) o with h | h
    · exact Or.inr (h1 q h)
    · exact Or.inl h
  · show (if q = (12, 0, 0) ∧ j = k then some (7, 2 + k, 0) else if lkQ (2 + k) q then zPs q j else zP X q j) = some q'
    have hne : q ≠ (12, 0, 0) := fun e => by rw [e] at hp; cases hp
    rw [if_neg (fun c => hne c.1)]
    by_cases hl : lkQ (2 + k) q
    · rw [if_pos hl]; exact hp
    · rw [if_neg hl]
      exact h2 q j q' ((zOk_or (by omega) (by omega) o).resolve_right hl) hp
