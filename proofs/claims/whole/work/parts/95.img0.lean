theorem zSm.ln {A B : zX} {L : Nat} (h : zSm A B) : zSm (zLn A L) (zLn B L) := by
  obtain ⟨⟨x1, x2, x3, x4, x5⟩, hd, hp, hz⟩ := h
  refine ⟨⟨x1, x2, x3, x4, x5⟩, fun a => ?_, fun a j ha hj => ?_, ?_⟩
  · show lkQ L a ∨ zDom B a ↔ lkQ L a ∨ zDom A a
    rw [hd a]
  · show (if lkQ L a then zPs a j else zP B a j) = if lkQ L a then zPs a j else zP A a j
    by_cases e : lkQ L a
    · rw [if_pos e, if_pos e]
    · rw [if_neg e, if_neg e]
      exact hp a j (ha.resolve_left e) hj
  · show zz B + 43 = zz A + 43
    rw [hz]
theorem zOk_or {e : Nat → Prop} {L : Nat} (h0 : L ≠ 0) (h9 : L ≠ 9) {q : zPl} (h : zOk (fun M => e M ∨ M = L) q) : zOk e q ∨ lkQ L q := by
  unfold zOk at h ⊢
  split at h
  · rename_i hr
    rcases h.1 with h1 | h1
    · exact Or.inl ⟨h1, h.2⟩
    · exact absurd h1.symm h0
  · rename_i hr
    rcases h.1.1 with h1 | h1
    · exact Or.inl ⟨⟨h1, h.1.2⟩, h.2⟩
    · exact Or.inr ⟨h1, Or.inl ⟨hr, h.2⟩⟩
  · rename_i hr
    rcases h.1.1 with h1 | h1
    · exact Or.inl ⟨⟨h1, h.1.2⟩, h.2⟩
    · exact Or.inr ⟨h1, Or.inr ⟨hr, h.2⟩⟩
  · rcases h.1 with h1 | h1
    · exact Or.inl ⟨h1, h.2⟩
    · exact absurd h1.symm h0
  · rcases h.1 with h1 | h1
    · exact Or.inl ⟨h1, h.2⟩
    · exact absurd h1.symm h9
  · exact h.elim
/-- the world behind a new image -/
def zIm (X : zX) (k : Nat) : zX := zpt (zLn X (2 + k)) (12, 0, 0) k (7, 2 + k, 0)
theorem zIm_wf {X : zX} {e : Nat → Prop} {k : Nat} (hk : k < 2) (h1 : ∀ q, zOk e q → zDom X q) (h2 : ∀ q j q', zOk e q → zPs q j = some q' → zP X q j = some q') (he : ¬ e (2 + k)) (hq : zHq (zIm X k)) : zWf (zIm X k) (fun L => e L ∨ L = 2 + k) := by
  refine ⟨fun q o => ?_, fun q j q' o hp => ?_, hq⟩
  · rcases zOk_or (by omega) (by omega) o with h | h
    · exact Or.inr (h1 q h)
    · exact Or.inl h
  · show (if q = (12, 0, 0) ∧ j = k then some (7, 2 + k, 0) else if lkQ (2 + k) q then zPs q j else zP X q j) = some q'
    have hne : q ≠ (12, 0, 0) := fun e => by rw [e] at hp; cases hp
    rw [if_neg (fun c => hne c.1)]
    by_cases hl : lkQ (2 + k) q
    · rw [if_pos hl]; exact hp
    · rw [if_neg hl]
      exact h2 q j q' ((zOk_or (by omega) (by omega) o).resolve_right hl) hp
set_option maxRecDepth 100000 in
theorem kX11_image0 {X : zX} {I : zMem} {e : Nat → Prop} (hw : zWf X e) (o : zOk e (0, 0, 0)) (h1 : e 1) {k : Nat} (hk : k < 2) (he : ¬ e (2 + k)) (hp : zP X (12, 0, 0) k = none) (h : zAt X (zz X) ((7, 2 + k, 0) :: lX4_init (2 + k))) {u : zMem} (hf : fX4_copyFrom (2 + k) 1 (gX4_init (2 + k) (zzr I (7, 2 + k, 0))) = some u) : zCk X (zIm X k) mX11_image yX11_image [.ref (zad X (0, 0, 0)), vi (k : Int)] I (some (vi 0), u) := by
  refine zCk_of (by decide +kernel) rfl rfl (fun h => by cases h) ?_
  have hd0 : zDom (zK X (zIm X k)) (0, 0, 0) := hw.1 _ o
  have hd12 : zDom (zK X (zIm X k)) (12, 0, 0) := hw.1 _ (zokA (r' := 12) o rfl rfl)
  have hp0 : zP (zK X (zIm X k)) (0, 0, 0) 7 = some (12, 0, 0) := hw.2.1 _ _ _ o rfl
  have hA : zNA (zK X (zIm X k)) := fun a h => Or.inr h
  have hw2 : w32 2 = 2 := rfl
  have hk32 := w32_k hk
  have hh0 : zad (zK X (zIm X k)) (7, 2 + k, 0) = zz (zK X (zIm X k)) := h 0 _ rfl
  have hh1 : zAt (znw (zK X (zIm X k)) (7, 2 + k, 0) 9) (zz (znw (zK X (zIm X k)) (7, 2 + k, 0) 9)) (lX4_init (2 + k)) := fun i q hi => by
    have := h (i + 1) q hi
    show zad X q = zz X + 1 + i
    rw [this]; omega
  refine zW_iload_n 1 dX11_image_0 rfl ?_
  refine zW_if_lt 9 dX11_image_1 rfl (fun c => by omega) (fun c => ?_)
  refine zW_iload_n 1 dX11_image_4 rfl ?_
  refine zW_iconst dX11_image_5 ?_
  refine zW_icmp_lt 12 dX11_image_6 rfl (fun c2 => ?_) (fun c2 => by omega)
  refine zW_aload_n 0 dX11_image_12 rfl ?_
  refine zW_getR (X := zK X (zIm X k)) (q := (0, 0, 0)) (q' := (12, 0, 0)) lj_RX11_60 hd0 rfl rfl hp0 dX11_image_13 ?_
  refine zW_iload_n 1 dX11_image_16 rfl ?_
  refine zW_aaldN (X := zK X (zIm X k)) (q := (12, 0, 0)) (kd := 18) (n := 2) 5 rfl rfl hd12 rfl rfl (zin_k hk) (by rw [ix_k hk]; exact hp) dX11_image_17 ?_
  refine zW_ifnnN dX11_image_18 ?_
  refine zW_aload_n 0 dX11_image_21 rfl ?_
  refine zW_getR (X := zK X (zIm X k)) (q := (0, 0, 0)) (q' := (12, 0, 0)) lj_RX11_60 hd0 rfl rfl hp0 dX11_image_22 ?_
  refine zW_iload_n 1 dX11_image_25 rfl ?_
  refine zU_new (q := (7, 2 + k, 0)) (zad X (7, 2 + k, 0)) nj_RX11_53 rfl rfl hh0 hA ⟨Nat.le_of_ble_eq_true rfl, Nat.le_of_ble_eq_true rfl⟩ dX11_image_26 (fun hA => ?_)
  refine zW_dup dX11_image_29 rfl ?_
  refine zU_ini (q := (7, 2 + k, 0)) (As := []) (zad X (7, 2 + k, 0)) (kX4_init hh1 (Or.inl rfl)) (Or.inr ⟨RX11, fun U h => h.2.2.2.2.2.2.2.2.1⟩) ij_X4_init (wwX4_init hh1) weX4_init ⟨rfl, rfl⟩ rfl hA ⟨Nat.le_of_ble_eq_true rfl, Nat.le_of_ble_eq_true rfl⟩ rfl rfl rfl rfl dX11_image_30 (fun hA => ?_)
  obtain ⟨-, y1, y2, y3, y4⟩ := weX4_init (X := znw (zK X (zIm X k)) (7, 2 + k, 0) 9) (L := 2 + k)
  refine zW_sm zln_sm y1.symm y2.symm (y3.trans rfl).symm (y4.trans rfl).symm ?_
  have hwf : zWf (zIm (zK X (zIm X k)) k) (fun L => e L ∨ L = 2 + k) := zIm_wf hk hw.1 hw.2.1 he (zHk (B := zB X) (zSm.pt (zSm.ln zSm.K)) rfl rfl)
  have o' : zOk (fun L => e L ∨ L = 2 + k) (0, 0, 0) := ⟨Or.inl o.1, rfl, rfl⟩
  have o1 : zOk (fun L => e L ∨ L = 2 + k) (7, 1, 0) := zok1 (Or.inl h1) rfl
  have o2 : zOk (fun L => e L ∨ L = 2 + k) (7, 2 + k, 0) := zok1 (Or.inr rfl) rfl (by omega)
  refine zV_aast (qa := (12, 0, 0)) (qv := (7, 2 + k, 0)) 5 k (ix_k hk) rfl (show vwCl[4]? = some (RX4, TX4, 9) from rfl) (Or.inr hd12) rfl rfl (Or.inl ⟨rfl, Or.inl ⟨rfl, rfl⟩⟩) rfl (zin_k hk) dX11_image_33 ?_
  refine zW_aload_n 0 dX11_image_34 rfl ?_
  refine zW_getR (X := zIm (zK X (zIm X k)) k) (q := (0, 0, 0)) (q' := (12, 0, 0)) lj_RX11_60 (hwf.1 _ o') rfl rfl (hwf.2.1 _ _ _ o' rfl) dX11_image_35 ?_
  refine zW_iload_n 1 dX11_image_38 rfl ?_
  refine zW_aald (X := zIm (zK X (zIm X k)) k) (q := (12, 0, 0)) (q' := (7, 2 + k, 0)) (kd := 18) (n := 2) 5 rfl rfl (hwf.1 _ (zokA (r' := 12) o' rfl rfl)) rfl rfl (zin_k hk) (by rw [ix_k hk]; exact if_pos ⟨rfl, rfl⟩) dX11_image_39 ?_
  refine zW_aload_n 0 dX11_image_40 rfl ?_
  refine zW_getR (X := zIm (zK X (zIm X k)) k) (q := (0, 0, 0)) (q' := (7, 1, 0)) lj_RX11_56 (hwf.1 _ o') rfl rfl (hwf.2.1 _ _ _ o' rfl) dX11_image_41 ?_
  refine zW_callV (X := zIm (zK X (zIm X k)) k) (q := (7, 2 + k, 0)) (As := [.ref (zad X (7, 1, 0))]) (T' := (none, u)) (kX4_copyFrom hwf o2 o1 hf) mvj_RX11_424 (hwf.1 _ o2) rfl rfl rfl rfl rfl dX11_image_44 ?_
  refine zW_iconst dX11_image_47 ?_
  exact zW_iret hwf.2.2 rfl dX11_image_48
