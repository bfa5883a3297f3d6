def fX0_within (v0 : Int) (v1 : Int) : Option Int :=
  some (zmax (-v1) (zmin v1 v0))
def fJ7_fill_53178_l5 (q0 : zPl) (n0 : Nat) (v1 : Int) (w3 : Int) (s : (Int × zMem)) : Option ((Int × zMem) ⊕ (Int × zMem)) :=
  if w32 w3 ≤ w32 s.1 then some (.inr (s.1, s.2)) else if zin s.1 n0 then zlet (zst s.2 q0 (ix s.1) v1) (fun I3 => some (.inl (s.1 + 1, I3))) else none
def fJ7_fill_53178 (q0 : zPl) (n0 : Nat) (v1 : Int) (I : zMem) : Option zMem :=
  zlet ((n0 : Int)) (fun a1 => zb (zlp (fJ7_fill_53178_l5 q0 n0 v1 a1) 5000 (0, I)) (fun x4 => some x4.2))
def fX0_quiet  (I : zMem) : Option zMem :=
  zb (fJ7_fill_53178 (28, 0, 0) 60 0 I) (fun r1 => some r1)
def fX7_fill (L : Nat) (L2 : Nat) (p2 : Nat) (I : zMem) : Option zMem :=
  zlet (zst I (10, L2, p2) 1 (1 - (I (10, L2, p2) 1))) (fun I1 => zlet (zst I1 (10, L2, p2) 2 0) (fun I2 => zb (fJ7_fill_53178 (37, L2, p2) 39 0 I2) (fun r3 => if w32 (r3 (8, L, 0) 6) ≤ 0 then zlet (zst r3 (10, L2, p2) 0 (r3 (8, L, 0) 7)) (fun I4 => if zin (I4 (8, L, 0) 7) 8 then zlet (zst I4 (34, L, 0) (ix (I4 (8, L, 0) 7)) (I4 (33, L, 0) 0)) (fun I6 => if zin (I6 (8, L, 0) 7) 8 then zlet (zst I6 (35, L, 0) (ix (I6 (8, L, 0) 7)) 0) (fun I8 => zlet (zst I8 (8, L, 0) 5 ((I8 (8, L, 0) 5) - 1)) (fun I9 => if zcpok 1 0 (I9 (8, L, 0) 5) 20 20 then zlet (zcp I9 (33, L, 0) 1 (33, L, 0) 0 (ix (I9 (8, L, 0) 5))) (fun I10 => zlet (zst I10 (8, L, 0) 7 (((I10 (8, L, 0) 7) + 1) % 8)) (fun I11 => some I11)) else none)) else none) else none) else zlet (zst r3 (10, L2, p2) 0 (r3 (36, L, 0) 0)) (fun I12 => zlet (zst I12 (8, L, 0) 6 ((I12 (8, L, 0) 6) - 1)) (fun I13 => if zcpok 1 0 (I13 (8, L, 0) 6) 8 8 then zlet (zcp I13 (36, L, 0) 1 (36, L, 0) 0 (ix (I13 (8, L, 0) 6))) (fun I14 => some I14) else none)))))
def fX6_lay_b23_39 (v1 : Int) (v2 : Int) (v3 : Int) (w4 : Int) (w5 : Int) (w6 : Int) (I : zMem) : Option ((Int × Int × zMem) ⊕ (Int × Int × zMem)) :=
  if zin w5 39 then if zin w6 60 then zlet (zst I (20, 0, 0) (ix w6) (I (18, 0, 0) (ix w5))) (fun I7 => some (.inl (w5 + 1, w6 + 1, I7))) else none else none
def fX6_lay_l23 (v1 : Int) (v2 : Int) (v3 : Int) (w4 : Int) (s : (Int × Int × zMem)) : Option ((Int × Int × zMem) ⊕ (Int × Int × zMem)) :=
  if w32 v3 ≤ w32 s.2.1 then some (.inr (s.1, s.2.1, s.2.2)) else if w32 s.1 < w32 w4 then fX6_lay_b23_39 v1 v2 v3 w4 s.1 s.2.1 s.2.2 else fX6_lay_b23_39 v1 v2 v3 w4 0 s.2.1 s.2.2
def fX6_lay (v1 : Int) (v2 : Int) (v3 : Int) (I : zMem) : Option zMem :=
  if zin v1 49 then zlet (I (19, 0, 0) (ix v1)) (fun a2 => if zin (ishr (v2 * v1) 2) 49 then zlet (I (19, 0, 0) (ix (ishr (v2 * v1) 2))) (fun a4 => zb (zlp (fX6_lay_l23 v1 v2 v3 a2) 5000 (a4, 0, I)) (fun x8 => some x8.2.2)) else none) else none
def fX6_addTo_l2 (q1 : zPl) (v2 : Int) (s : (Int × zMem)) : Option ((Int × zMem) ⊕ (Int × zMem)) :=
  if w32 v2 ≤ w32 s.1 then some (.inr (s.1, s.2)) else if zin s.1 60 then if zin (s.2 (20, 0, 0) (ix s.1)) 39 then zlet (zst s.2 q1 (ix (s.2 (20, 0, 0) (ix s.1))) ((s.2 q1 (ix (s.2 (20, 0, 0) (ix s.1)))) + 1)) (fun I3 => some (.inl (s.1 + 1, I3))) else none else none
def fX6_addTo (q1 : zPl) (v2 : Int) (I : zMem) : Option zMem :=
  zb (zlp (fX6_addTo_l2 q1 v2) 5000 (0, I)) (fun x4 => some x4.2)
def fX1_restOf_b5_28 (v0 : Int) (w1 : Int) (w2 : Int) : Option ((Int × Int) ⊕ (Int × Int)) :=
  some (.inl (w1, w2 + (-1)))
def fX1_restOf_l5 (v0 : Int) (s : (Int × Int)) : Option ((Int × Int) ⊕ (Int × Int)) :=
  if w32 s.2 < 3 then some (.inr (s.1, s.2)) else if (ishr s.1 s.2) % 2 = 1 then zlet (ixor s.1 (ishl 11 (s.2 - 3))) (fun a1 => fX1_restOf_b5_28 v0 a1 s.2) else fX1_restOf_b5_28 v0 s.1 s.2
def fX1_restOf (v0 : Int) : Option Int :=
  zb (zlp (fX1_restOf_l5 v0) 5000 (v0, 10)) (fun x2 => some x2.1)
def fX1_wholeWord (v0 : Int) : Option Int :=
  zlet (ishl v0 3) (fun a1 => zb (fX1_restOf a1) (fun r2 => some (ior a1 (ixor r2 5))))
def fX7_wordOn (L : Nat) (L2 : Nat) (p2 : Nat) (I : zMem) : Option Int :=
  if zin (I (10, L2, p2) 0) 8 then zb (fX1_wholeWord (ior (ishl (I (10, L2, p2) 0) 5) (I (34, L, 0) (ix (I (10, L2, p2) 0))))) (fun r2 => some r2) else none
def fX1_isOne (v0 : Int) (v2 : Int) : Option Int :=
  if w64 (land (lshr v0 v2) 1) = 1 then some 1 else some 0
def fX3_begin (L : Nat) (p : Nat) (v1 : Int) (I : zMem) : Option zMem :=
  zlet (zst I (11, L, p) 0 v1) (fun I1 => zlet (zst I1 (11, L, p) 1 0) (fun I2 => zlet (zst I2 (11, L, p) 2 0) (fun I3 => zb (fJ7_fill_53178 (41, L, p) 39 0 I3) (fun r4 => some r4))))
def fX2_measure_l2 (q1 : zPl) (s : (Int × zMem)) : Option ((Int × zMem) ⊕ (Int × zMem)) :=
  if 13 ≤ w32 s.1 then some (.inr (s.1, s.2)) else if zin s.1 39 then zlet (s.2 q1 (ix s.1)) (fun a2 => if zin (13 + s.1) 39 then zlet (s.2 q1 (ix (13 + s.1))) (fun a4 => if zin (26 + s.1) 39 then zlet (s.2 q1 (ix (26 + s.1))) (fun a6 => zlet (8 * s.1) (fun a7 => if zin a7 104 then zlet (zst s.2 (22, 0, 0) (ix a7) (((-a2) - a4) - a6)) (fun I9 => if zin (a7 + 1) 104 then zlet (zst I9 (22, 0, 0) (ix (a7 + 1)) ((a2 + a4) + a6)) (fun I11 => if zin (a7 + 2) 104 then zlet (zst I11 (22, 0, 0) (ix (a7 + 2)) (((-a2) + a4) - a6)) (fun I13 => if zin (a7 + 3) 104 then zlet (zst I13 (22, 0, 0) (ix (a7 + 3)) ((a2 - a4) + a6)) (fun I15 => if zin (a7 + 4) 104 then zlet (zst I15 (22, 0, 0) (ix (a7 + 4)) (((-a2) + a4) + a6)) (fun I17 => if zin (a7 + 5) 104 then zlet (zst I17 (22, 0, 0) (ix (a7 + 5)) ((a2 - a4) - a6)) (fun I19 => if zin (a7 + 6) 104 then zlet (zst I19 (22, 0, 0) (ix (a7 + 6)) (((-a2) - a4) + a6)) (fun I21 => if zin (a7 + 7) 104 then zlet (zst I21 (22, 0, 0) (ix (a7 + 7)) ((a2 + a4) - a6)) (fun I23 => some (.inl (s.1 + 1, I23))) else none) else none) else none) else none) else none) else none) else none) else none)) else none) else none) else none
def fX2_measure (q1 : zPl) (I : zMem) : Option zMem :=
  zb (zlp (fX2_measure_l2 q1) 5000 (0, I)) (fun x24 => some x24.2)
def fX2_extend_b127 (v1 : Int) (v2 : Int) (k0 : Int) (k1 : Int) (I : zMem) : Option zMem :=
  if zin k1 4 then zlet (zst I (27, 0, 0) (ix k1) (ior (ishl k0 1) (v1 % 2))) (fun I13 => some I13) else none
def fX2_extend_b100 (v1 : Int) (v2 : Int) (w3 : Int) (w4 : Int) (w7 : Int) (k0 : Int) (k1 : Int) (I : zMem) : Option zMem :=
  if zin k1 4 then zlet (zst I (26, 0, 0) (ix k1) k0) (fun I10 => if w32 w7 = 0 then if zin w4 4 then fX2_extend_b127 v1 v2 (I10 (25, 0, 0) (ix w4)) v1 I10 else none else if zin w3 4 then fX2_extend_b127 v1 v2 (I10 (25, 0, 0) (ix w3)) v1 I10 else none) else none
def fX2_extend_b81 (v1 : Int) (v2 : Int) (w3 : Int) (w4 : Int) (w5 : Int) (w6 : Int) (k0 : Int) (I : zMem) : Option zMem :=
  if w32 k0 = 0 then fX2_extend_b100 v1 v2 w3 w4 k0 w6 v1 I else fX2_extend_b100 v1 v2 w3 w4 k0 w5 v1 I
def fX2_extend_b76 (v1 : Int) (v2 : Int) (w3 : Int) (w4 : Int) (w5 : Int) (w6 : Int) (I : zMem) : Option zMem :=
  fX2_extend_b81 v1 v2 w3 w4 w5 w6 1 I
def fX2_extend_b80 (v1 : Int) (v2 : Int) (w3 : Int) (w4 : Int) (w5 : Int) (w6 : Int) (I : zMem) : Option zMem :=
  fX2_extend_b81 v1 v2 w3 w4 w5 w6 0 I
def fX2_extend (v1 : Int) (v2 : Int) (I : zMem) : Option zMem :=
  zlet (ishr v1 1) (fun a1 => zlet (a1 + 2) (fun a2 => if zin a1 4 then if zin (v2 + v1) 104 then zlet ((I (24, 0, 0) (ix a1)) + (I (22, 0, 0) (ix (v2 + v1)))) (fun a5 => if zin a2 4 then if zin ((v2 + v1) + 4) 104 then zlet ((I (24, 0, 0) (ix a2)) + (I (22, 0, 0) (ix ((v2 + v1) + 4)))) (fun a8 => if w32 a8 < w32 a5 then fX2_extend_b76 v1 v2 a1 a2 a5 a8 I else if w32 a5 = w32 a8 then if w32 (I (25, 0, 0) (ix a2)) ≤ w32 (I (25, 0, 0) (ix a1)) then fX2_extend_b80 v1 v2 a1 a2 a5 a8 I else fX2_extend_b76 v1 v2 a1 a2 a5 a8 I else fX2_extend_b80 v1 v2 a1 a2 a5 a8 I) else none else none) else none else none))
def fX2_tailGain (v1 : Int) (I : zMem) : Option Int :=
  if zin (88 + ((ishl v1 1) % 8)) 104 then if zin (96 + ((ishl v1 2) % 8)) 104 then some ((I (22, 0, 0) (ix (88 + ((ishl v1 1) % 8)))) + (I (22, 0, 0) (ix (96 + ((ishl v1 2) % 8))))) else none else none
def fX2_bestWord_l39 (q1 : zPl) (w2 : Int) (s : (Int × zMem)) : Option ((Int × zMem) ⊕ (Int × zMem)) :=
  if 4 ≤ w32 s.1 then some (.inr (s.1, s.2)) else zb (fX2_extend s.1 (8 * w2) s.2) (fun r5 => some (.inl (s.1 + 1, r5)))
def fX2_bestWord_l31 (q1 : zPl) (s : (Int × zMem)) : Option ((Int × zMem) ⊕ (Int × zMem)) :=
  if 11 ≤ w32 s.1 then some (.inr (s.1, s.2)) else zb (zlp (fX2_bestWord_l39 q1 s.1) 5000 (0, s.2)) (fun x6 => zlet (zcp x6.2 (26, 0, 0) 0 (24, 0, 0) 0 4) (fun I7 => zlet (zcp I7 (27, 0, 0) 0 (25, 0, 0) 0 4) (fun I8 => some (.inl (s.1 + 1, I8)))))
def fX2_bestWord_b101_157 (q1 : zPl) (I : zMem) (w2 : Int) (w3 : Int) (w4 : Int) : Option ((Int × Int × Int) ⊕ (Int × Int × Int)) :=
  some (.inl (w2, w3, w4 + 1))
def fX2_bestWord_b101_146 (q1 : zPl) (I : zMem) (w4 : Int) (w5 : Int) : Option ((Int × Int × Int) ⊕ (Int × Int × Int)) :=
  if zin w4 4 then zlet (I (25, 0, 0) (ix w4)) (fun a14 => fX2_bestWord_b101_157 q1 I a14 w5 w4) else none
def fX2_bestWord_l101 (q1 : zPl) (I : zMem) (s : (Int × Int × Int)) : Option ((Int × Int × Int) ⊕ (Int × Int × Int)) :=
  if 4 ≤ w32 s.2.2 then some (.inr (s.1, s.2.1, s.2.2)) else if zin s.2.2 4 then zb (fX2_tailGain s.2.2 I) (fun r11 => zlet ((I (24, 0, 0) (ix s.2.2)) + r11) (fun a12 => if w32 s.2.1 < w32 a12 then fX2_bestWord_b101_146 q1 I s.2.2 a12 else if w32 a12 = w32 s.2.1 then if w32 s.1 ≤ w32 (I (25, 0, 0) (ix s.2.2)) then fX2_bestWord_b101_157 q1 I s.1 s.2.1 s.2.2 else fX2_bestWord_b101_146 q1 I s.2.2 a12 else fX2_bestWord_b101_157 q1 I s.1 s.2.1 s.2.2)) else none
def fX2_bestWord (q1 : zPl) (I : zMem) : Option (Int × zMem) :=
  zb (fX2_measure q1 I) (fun r1 => zb (fJ7_fill_53178 (24, 0, 0) 4 (-100000000) r1) (fun r2 => zb (fJ7_fill_53178 (25, 0, 0) 4 0 r2) (fun r3 => zlet (zst r3 (24, 0, 0) 0 0) (fun I4 => zb (zlp (fX2_bestWord_l31 q1) 5000 (0, I4)) (fun x9 => zb (zlp (fX2_bestWord_l101 q1 x9.2) 5000 (0, (-100000000), 0)) (fun x15 => some (x15.1, x9.2)))))))
def fX1_isWhole (v0 : Int) : Option Int :=
  zb (fX1_restOf v0) (fun r1 => if w32 r1 = 5 then some 1 else some 0)
def fX5_fateOf (L : Nat) (v1 : Int) (v2 : Int) (I : zMem) : Option Int :=
  zlet ((v1 - (I (9, L, 0) 3)) % 8) (fun a1 => if w32 a1 < w32 v2 then if zin v1 8 then if w32 (I (39, L, 0) (ix v1)) = (-1) then if w32 a1 = 0 then some 0 else some 1 else some 2 else none else some 3)
def fX5_shelve (L : Nat) (v1 : Int) (v2 : Int) (v3 : Int) (I : zMem) : Option zMem :=
  zb (fX5_fateOf L v1 v3 I) (fun r1 => if w32 r1 = 3 then zlet (zst I (9, L, 0) 8 ((I (9, L, 0) 8) + 1)) (fun I2 => some I2) else if w32 r1 = 2 then zlet (zst I (9, L, 0) 9 ((I (9, L, 0) 9) + 1)) (fun I3 => some I3) else if zin v1 8 then zlet (zst I (39, L, 0) (ix v1) v2) (fun I5 => some I5) else none)
def fX5_moveOn_b62 (L : Nat) (I : zMem) : Option zMem :=
  zlet (zst I (9, L, 0) 3 (((I (9, L, 0) 3) + 1) % 8)) (fun I4 => if w32 (I4 (9, L, 0) 4) ≤ 0 then some I4 else zlet (zst I4 (9, L, 0) 5 ((I4 (9, L, 0) 5) - 1)) (fun I5 => if 0 < w32 (I5 (9, L, 0) 5) then some I5 else zlet (zst I5 (9, L, 0) 4 0) (fun I6 => some I6)))
def fX5_moveOn (L : Nat) (I : zMem) : Option zMem :=
  if zin (I (9, L, 0) 3) 8 then zlet (I (39, L, 0) (ix (I (9, L, 0) 3))) (fun a2 => if w32 a2 = (-1) then zlet (zst I (9, L, 0) 7 ((I (9, L, 0) 7) + 1)) (fun I3 => fX5_moveOn_b62 L I3) else if zin ((I (9, L, 0) 6) % 256) 256 then zlet (zst I (40, L, 0) (ix ((I (9, L, 0) 6) % 256)) a2) (fun I8 => zlet (zst I8 (9, L, 0) 6 ((I8 (9, L, 0) 6) + 1)) (fun I9 => if zin (I9 (9, L, 0) 3) 8 then zlet (zst I9 (39, L, 0) (ix (I9 (9, L, 0) 3)) (-1)) (fun I11 => fX5_moveOn_b62 L I11) else none)) else none) else none
def fX5_farthestStored_b4_30 (L : Nat) (I : zMem) (w1 : Int) (w2 : Int) : Option ((Int × Int) ⊕ (Int × Int)) :=
  some (.inl (w1, w2 + 1))
def fX5_farthestStored_l4 (L : Nat) (I : zMem) (s : (Int × Int)) : Option ((Int × Int) ⊕ (Int × Int)) :=
  if 8 ≤ w32 s.2 then some (.inr (s.1, s.2)) else if zin (((I (9, L, 0) 3) + s.2) % 8) 8 then if w32 (I (39, L, 0) (ix (((I (9, L, 0) 3) + s.2) % 8))) = (-1) then fX5_farthestStored_b4_30 L I s.1 s.2 else fX5_farthestStored_b4_30 L I s.2 s.2 else none
def fX5_farthestStored (L : Nat) (I : zMem) : Option Int :=
  zb (zlp (fX5_farthestStored_l4 L I) 5000 ((-1), 0)) (fun x2 => some x2.1)
def fX5_settle_l2 (L : Nat) (v1 : Int) (s : (Int × zMem)) : Option ((Int × zMem) ⊕ (Int × zMem)) :=
  if 8 ≤ w32 s.1 then some (.inr (s.1, s.2)) else if zin (s.2 (9, L, 0) 3) 8 then if w32 (s.2 (39, L, 0) (ix (s.2 (9, L, 0) 3))) = (-1) then some (.inr (s.1, s.2)) else zb (fX5_moveOn L s.2) (fun r2 => some (.inl (s.1 + 1, r2))) else none
def fX5_settle (L : Nat) (v1 : Int) (I : zMem) : Option zMem :=
  zb (zlp (fX5_settle_l2 L v1) 5000 (0, I)) (fun x3 => zb (fX5_farthestStored L x3.2) (fun r4 => if w32 (x3.2 (9, L, 0) 4) = 0 then if w32 r4 = (-1) then some x3.2 else zlet (zst x3.2 (9, L, 0) 4 v1) (fun I5 => zlet (zst I5 (9, L, 0) 5 (r4 + 1)) (fun I6 => some I6)) else some x3.2))
def fX0_hear_l65 (L2 : Nat) (v2 : Int) (v3 : Int) (v4 : Int) (wp6 : Nat) (s : (Int × zMem)) : Option ((Int × zMem) ⊕ (Int × zMem)) :=
  if w32 v4 ≤ w32 s.1 then some (.inr (s.1, s.2)) else if zin s.1 60 then zlet (s.2 (20, 0, 0) (ix s.1)) (fun a4 => if zin a4 39 then zb (fX0_within ((s.2 (41, L2, wp6) (ix a4)) + (s.2 (28, 0, 0) (ix s.1))) (s.2 (7, L2, 0) 5)) (fun r6 => zlet (zst s.2 (41, L2, wp6) (ix a4) r6) (fun I7 => some (.inl (s.1 + 1, I7)))) else none) else none
def fX0_hear_b30 (L2 : Nat) (v2 : Int) (v3 : Int) (v4 : Int) (wp6 : Nat) (I : zMem) : Option (Int × zMem) :=
  if w32 (I (11, L2, wp6) 2) = 0 then zlet (zst I (11, L2, wp6) 1 ((I (11, L2, wp6) 1) + 1)) (fun I2 => zb (zlp (fX0_hear_l65 L2 v2 v3 v4 wp6) 5000 (0, I2)) (fun x8 => zb (fX2_bestWord (41, L2, wp6) x8.2) (fun r9 => zb (fX1_isWhole r9.1) (fun r10 => if w32 r10 = 0 then some (0, r9.2) else zlet (zst r9.2 (11, L2, wp6) 2 1) (fun I11 => zb (fX5_shelve L2 ((ishr r9.1 8) % 8) ((ishr r9.1 3) % 32) (I11 (7, L2, 0) 1) I11) (fun r12 => zb (fX5_settle L2 (r12 (7, L2, 0) 2) r12) (fun r13 => some (1, r13)))))))) else zlet (zst I (9, L2, 0) 10 ((I (9, L2, 0) 10) + 1)) (fun I14 => some (1, I14))
def fX0_hear (L2 : Nat) (v2 : Int) (v3 : Int) (v4 : Int) (I : zMem) : Option (Int × zMem) :=
  if zin v2 8 then if w32 (I (11, L2, ix v2) 0) = w32 v3 then fX0_hear_b30 L2 v2 v3 v4 (ix v2) I else zb (fX3_begin L2 (ix v2) v3 I) (fun r15 => fX0_hear_b30 L2 v2 v3 v4 (ix v2) r15) else none
def fX0_transmit_b136_172 (L2 : Nat) (v2 : Int) (v3 : Int) (v4 : Int) (wp5 : Nat) (w6 : Int) (w8 : Int) (k0 : Int) (I : zMem) : Option ((Int × zMem) ⊕ (Int × zMem)) :=
  if zin w8 60 then zb (fX0_within (k0 + (I (28, 0, 0) (ix w8))) 127) (fun r15 => zlet (zst I (28, 0, 0) (ix w8) r15) (fun I16 => some (.inl (w8 + 1, I16)))) else none
def fX0_transmit_l136 (L2 : Nat) (v2 : Int) (v3 : Int) (v4 : Int) (wp5 : Nat) (w6 : Int) (s : (Int × zMem)) : Option ((Int × zMem) ⊕ (Int × zMem)) :=
  if w32 v3 ≤ w32 s.1 then some (.inr (s.1, s.2)) else if zin s.1 60 then zb (fX1_isOne w6 (s.2 (20, 0, 0) (ix s.1))) (fun r13 => if w32 r13 = 0 then fX0_transmit_b136_172 L2 v2 v3 v4 wp5 w6 s.1 (-(s.2 (7, L2, 0) 6)) s.2 else fX0_transmit_b136_172 L2 v2 v3 v4 wp5 w6 s.1 (s.2 (7, L2, 0) 6) s.2) else none
def fX0_transmit_b101 (L2 : Nat) (v2 : Int) (v3 : Int) (v4 : Int) (wp5 : Nat) (k0 : Int) (kp1 : Nat) (I : zMem) : Option (Int × zMem) :=
  if zbo k0 then zlet (zst I (10, L2, kp1) 4 k0) (fun I8 => if w32 (I8 (10, L2, wp5) 4) = 0 then some ((-1), I8) else zb (fX7_wordOn L2 L2 wp5 I8) (fun r9 => if zin r9 2048 then zlet (I8 (16, 0, 0) (ix r9)) (fun a11 => zb (zlp (fX0_transmit_l136 L2 v2 v3 v4 wp5 a11) 5000 (0, I8)) (fun x17 => zb (fX0_hear L2 v2 (x17.2 (10, L2, wp5) 1) v3 x17.2) (fun r18 => some (r18.1, r18.2)))) else none)) else none
def fX0_transmit_b100 (L2 : Nat) (v2 : Int) (v3 : Int) (v4 : Int) (wp5 : Nat) (kp0 : Nat) (I : zMem) : Option (Int × zMem) :=
  fX0_transmit_b101 L2 v2 v3 v4 wp5 0 kp0 I
def fX0_transmit_b29 (L2 : Nat) (v2 : Int) (v3 : Int) (v4 : Int) (wp5 : Nat) (I : zMem) : Option (Int × zMem) :=
  if zin ((I (10, L2, wp5) 2) % 4) 4 then zb (fX6_lay (I (7, L2, 0) 4) (zver (ix ((I (10, L2, wp5) 2) % 4))) v3 I) (fun r4 => zb (fX6_addTo (37, L2, wp5) v3 r4) (fun r5 => zlet (zst r5 (10, L2, wp5) 2 ((r5 (10, L2, wp5) 2) + 1)) (fun I6 => zlet (zst I6 (10, L2, wp5) 3 1) (fun I7 => if w32 v4 = 0 then fX0_transmit_b100 L2 v2 v3 v4 wp5 wp5 I7 else if w32 (I7 (7, L2, 0) 6) ≤ 0 then fX0_transmit_b100 L2 v2 v3 v4 wp5 wp5 I7 else fX0_transmit_b101 L2 v2 v3 v4 wp5 1 wp5 I7)))) else none
def fX0_transmit (L2 : Nat) (v2 : Int) (v3 : Int) (v4 : Int) (I : zMem) : Option (Int × zMem) :=
  if zin v2 8 then if w32 (I (10, L2, ix v2) 0) = (-1) then zb (fX7_fill L2 L2 (ix v2) I) (fun r2 => fX0_transmit_b29 L2 v2 v3 v4 (ix v2) r2) else fX0_transmit_b29 L2 v2 v3 v4 (ix v2) I else none
def fX0_addClean_b3_46 (q1 : zPl) (v2 : Int) (v4 : Int) (v5 : Int) (v6 : Int) (w7 : Int) (k0 : Int) (k1 : Int) (k2 : Int) (I : zMem) : Option ((Int × zMem) ⊕ (Int × zMem)) :=
  zb (fX0_within (k1 + k0) v6) (fun r5 => if zin k2 39 then zlet (zst I q1 (ix k2) r5) (fun I7 => some (.inl (w7 + 1, I7))) else none)
def fX0_addClean_l3 (q1 : zPl) (v2 : Int) (v4 : Int) (v5 : Int) (v6 : Int) (s : (Int × zMem)) : Option ((Int × zMem) ⊕ (Int × zMem)) :=
  if w32 v4 ≤ w32 s.1 then some (.inr (s.1, s.2)) else if zin s.1 60 then zlet (s.2 (20, 0, 0) (ix s.1)) (fun a2 => if zin a2 39 then zb (fX1_isOne v2 a2) (fun r4 => if w32 r4 = 0 then fX0_addClean_b3_46 q1 v2 v4 v5 v6 s.1 (-v5) (s.2 q1 (ix a2)) a2 s.2 else fX0_addClean_b3_46 q1 v2 v4 v5 v6 s.1 v5 (s.2 q1 (ix a2)) a2 s.2) else none) else none
def fX0_addClean (q1 : zPl) (v2 : Int) (v4 : Int) (v5 : Int) (v6 : Int) (I : zMem) : Option zMem :=
  zb (zlp (fX0_addClean_l3 q1 v2 v4 v5 v6) 5000 (0, I)) (fun x8 => some x8.2)
def fX0_draw  (I : zMem) : Option (Int × zMem) :=
  zlet (zst I (5, 0, 0) 5 ((1103515245 * (I (5, 0, 0) 5)) + 12345)) (fun I1 => some (iushr (I1 (5, 0, 0) 5) 16, I1))
def fX8_letGo (L : Nat) (p : Nat) (I : zMem) : Option zMem :=
  zlet (zst I (10, L, p) 0 (-1)) (fun I1 => zlet (zst I1 (10, L, p) 2 0) (fun I2 => zlet (zst I2 (10, L, p) 3 0) (fun I3 => some I3)))
def fX4_readAnswer_b65 (L : Nat) (v1 : Int) (v2 : Int) (wp3 : Nat) (w4 : Int) (I : zMem) : Option (Int × zMem) :=
  zlet (zst I (10, L, wp3) 3 0) (fun I2 => if w32 w4 = 1 then zb (fX8_letGo L wp3 I2) (fun r3 => some (w4, r3)) else if w32 (I2 (10, L, wp3) 2) < w32 (I2 (7, L, 0) 3) then some (w4, I2) else zb (fX8_letGo L wp3 I2) (fun r4 => zlet (zst r4 (8, L, 0) 9 ((r4 (8, L, 0) 9) + 1)) (fun I5 => some (w4, I5))))
def fX4_readAnswer_b63 (L : Nat) (v1 : Int) (v2 : Int) (wp3 : Nat) (k0 : Int) (I : zMem) : Option (Int × zMem) :=
  fX4_readAnswer_b65 L v1 v2 wp3 k0 I
def fX4_readAnswer_b47 (L : Nat) (v1 : Int) (v2 : Int) (wp3 : Nat) (w4 : Int) (I : zMem) : Option (Int × zMem) :=
  if w32 v2 = 1 then if w32 w4 = 1 then fX4_readAnswer_b63 L v1 v2 wp3 0 I else fX4_readAnswer_b63 L v1 v2 wp3 1 I else fX4_readAnswer_b65 L v1 v2 wp3 w4 I
def fX4_readAnswer_b45 (L : Nat) (v1 : Int) (v2 : Int) (wp3 : Nat) (k0 : Int) (I : zMem) : Option (Int × zMem) :=
  fX4_readAnswer_b47 L v1 v2 wp3 k0 I
def fX4_readAnswer (L : Nat) (v1 : Int) (v2 : Int) (I : zMem) : Option (Int × zMem) :=
  if zin v1 8 then if w32 v2 = 2 then fX4_readAnswer_b47 L v1 v2 (ix v1) (-1) I else if w32 (I (10, L, ix v1) 4) = 0 then fX4_readAnswer_b47 L v1 v2 (ix v1) (-1) I else if w32 (I (11, L, ix v1) 2) = 0 then fX4_readAnswer_b45 L v1 v2 (ix v1) 0 I else fX4_readAnswer_b45 L v1 v2 (ix v1) 1 I else none
def fX7_howManyKept (L : Nat) (I : zMem) : Option Int :=
  some (((I (8, L, 0) 7) - (I (8, L, 0) 8)) % 8)
def fX7_isAble_b46 (L : Nat) (v1 : Int) (v2 : Int) (I : zMem) : Option Int :=
  some 1
def fX7_isAble_b50 (L : Nat) (v1 : Int) (v2 : Int) (I : zMem) : Option Int :=
  some 0
def fX7_isAble (L : Nat) (v1 : Int) (v2 : Int) (I : zMem) : Option Int :=
  if zin v1 8 then if w32 (I (10, L, ix v1) 3) = 0 then if w32 (I (10, L, ix v1) 0) = (-1) then if 0 < w32 (I (8, L, 0) 6) then fX7_isAble_b46 L v1 v2 I else if w32 (I (8, L, 0) 5) ≤ 0 then fX7_isAble_b50 L v1 v2 I else zb (fX7_howManyKept L I) (fun r2 => if w32 v2 ≤ w32 r2 then fX7_isAble_b50 L v1 v2 I else fX7_isAble_b46 L v1 v2 I) else fX7_isAble_b46 L v1 v2 I else some 0 else none
def fX5_passTime_l31 (L : Nat) (v1 : Int) (s : (Int × zMem)) : Option ((Int × zMem) ⊕ (Int × zMem)) :=
  if w32 s.1 ≤ 0 then some (.inr (s.1, s.2)) else zb (fX5_moveOn L s.2) (fun r3 => some (.inl (s.1 + (-1), r3)))
def fX5_passTime (L : Nat) (v1 : Int) (I : zMem) : Option zMem :=
  if w32 (I (9, L, 0) 4) = 0 then some I else zlet (zst I (9, L, 0) 4 ((I (9, L, 0) 4) - 1)) (fun I1 => if w32 (I1 (9, L, 0) 4) ≤ 0 then zlet (I1 (9, L, 0) 5) (fun a2 => zb (zlp (fX5_passTime_l31 L v1) 5000 (a2, I1)) (fun x4 => zb (fX5_settle L v1 x4.2) (fun r5 => some r5))) else some I1)
def fX7_isKept (L : Nat) (v1 : Int) (I : zMem) : Option Int :=
  zb (fX7_howManyKept L I) (fun r1 => if w32 r1 ≤ (v1 - (I (8, L, 0) 8)) % 8 then some 0 else some 1)
def fX7_learn_b51_112 (L : Nat) (L2 : Nat) (w3 : Int) (w4 : Int) (I : zMem) : Option ((Int × Int × zMem) ⊕ (Int × Int × zMem)) :=
  some (.inl (w3, w4 + 1, I))
def fX7_learn_b51_93 (L : Nat) (L2 : Nat) (w3 : Int) (w4 : Int) (wp5 : Nat) (I : zMem) : Option ((Int × Int × zMem) ⊕ (Int × Int × zMem)) :=
  if w32 (I (10, L, wp5) 0) = (-1) then fX7_learn_b51_112 L L2 w3 w4 I else zlet (ior w3 (ishl 1 (I (10, L, wp5) 0))) (fun a6 => fX7_learn_b51_112 L L2 a6 w4 I)
def fX7_learn_l51 (L : Nat) (L2 : Nat) (s : (Int × Int × zMem)) : Option ((Int × Int × zMem) ⊕ (Int × Int × zMem)) :=
  if 8 ≤ w32 s.2.1 then some (.inr (s.1, s.2.1, s.2.2)) else if zin s.2.1 8 then if w32 (s.2.2 (10, L, ix s.2.1) 0) = (-1) then fX7_learn_b51_93 L L2 s.1 s.2.1 (ix s.2.1) s.2.2 else zb (fX7_isKept L (s.2.2 (10, L, ix s.2.1) 0) s.2.2) (fun r7 => if w32 r7 = 0 then zb (fX8_letGo L (ix s.2.1) s.2.2) (fun r8 => fX7_learn_b51_93 L L2 s.1 s.2.1 (ix s.2.1) r8) else fX7_learn_b51_93 L L2 s.1 s.2.1 (ix s.2.1) s.2.2) else none
def fX7_learn_b127_209 (L : Nat) (L2 : Nat) (w3 : Int) (w4 : Int) (w5 : Int) (I : zMem) : Option ((Int × zMem) ⊕ (Int × zMem)) :=
  some (.inl (w5 + 1, I))
def fX7_learn_b127_168 (L : Nat) (L2 : Nat) (w3 : Int) (w4 : Int) (w5 : Int) (w6 : Int) (k0 : Int) (k1 : Int) (I : zMem) : Option ((Int × zMem) ⊕ (Int × zMem)) :=
  if zin k1 8 then zlet (zst I (35, L, 0) (ix k1) k0) (fun I14 => if zin w6 8 then if w32 (I14 (35, L, 0) (ix w6)) = 0 then if (ishr w3 w6) % 2 = 0 then if zin (I14 (8, L, 0) 6) 8 then zlet (zst I14 (36, L, 0) (ix (I14 (8, L, 0) 6)) w6) (fun I17 => zlet (zst I17 (8, L, 0) 6 ((I17 (8, L, 0) 6) + 1)) (fun I18 => fX7_learn_b127_209 L L2 w3 w4 w5 I18)) else none else fX7_learn_b127_209 L L2 w3 w4 w5 I14 else fX7_learn_b127_209 L L2 w3 w4 w5 I14 else none) else none
def fX7_learn_l127 (L : Nat) (L2 : Nat) (w3 : Int) (w4 : Int) (s : (Int × zMem)) : Option ((Int × zMem) ⊕ (Int × zMem)) :=
  if w32 w4 ≤ w32 s.1 then some (.inr (s.1, s.2)) else zlet (((s.2 (8, L, 0) 8) + s.1) % 8) (fun a11 => if zin a11 8 then if w32 (s.2 (39, L2, 0) (ix a11)) = (-1) then fX7_learn_b127_168 L L2 w3 w4 s.1 a11 0 a11 s.2 else fX7_learn_b127_168 L L2 w3 w4 s.1 a11 1 a11 s.2 else none)
def fX7_learn_b41 (L : Nat) (L2 : Nat) (w2 : Int) (I : zMem) : Option zMem :=
  zlet (zst I (8, L, 0) 8 w2) (fun I4 => zb (zlp (fX7_learn_l51 L L2) 5000 (0, 0, I4)) (fun x9 => zb (fX7_howManyKept L x9.2.2) (fun r10 => zb (zlp (fX7_learn_l127 L L2 x9.1 r10) 5000 (0, x9.2.2)) (fun x19 => some x19.2))))
def fX7_learn (L : Nat) (L2 : Nat) (I : zMem) : Option zMem :=
  zlet (I (9, L2, 0) 3) (fun a1 => zlet (zst I (8, L, 0) 6 0) (fun I2 => zb (fX7_howManyKept L I2) (fun r3 => if (a1 - (I2 (8, L, 0) 8)) % 8 ≤ w32 r3 then fX7_learn_b41 L L2 a1 I2 else zlet (zst I2 (8, L, 0) 10 ((I2 (8, L, 0) 10) + 1)) (fun I20 => zlet (zst I20 (8, L, 0) 7 a1) (fun I21 => fX7_learn_b41 L L2 a1 I21)))))
def fX0_drawnRound_b144 (L2 : Nat) (v2 : Int) (v3 : Int) (v4 : Int) (I : zMem) : Option zMem :=
  zb (fX5_passTime L2 (I (7, L2, 0) 2) I) (fun r4 => if v2 % 8 = 7 then zb (fX7_learn L2 L2 r4) (fun r5 => some r5) else some r4)
def fX0_drawnRound_l100 (L2 : Nat) (v2 : Int) (v3 : Int) (v4 : Int) (w5 : Int) (w6 : Int) (s : (Int × zMem)) : Option ((Int × zMem) ⊕ (Int × zMem)) :=
  if w32 v3 ≤ w32 s.1 then some (.inr (s.1, s.2)) else zb (fX0_draw s.2) (fun r7 => if ¬ w32 ((2 * v4) + 1) = 0 then if zin s.1 60 then zlet (zst r7.2 (28, 0, 0) (ix s.1) ((irem r7.1 ((2 * v4) + 1)) - v4)) (fun I9 => some (.inl (s.1 + 1, I9))) else none else none)
def fX0_drawnRound_b95 (L2 : Nat) (v2 : Int) (v3 : Int) (v4 : Int) (w5 : Int) (k0 : Int) (I : zMem) : Option zMem :=
  zb (zlp (fX0_drawnRound_l100 L2 v2 v3 v4 w5 k0) 5000 (0, I)) (fun x10 => zb (fX0_transmit L2 w5 v3 k0 x10.2) (fun r11 => fX0_drawnRound_b144 L2 v2 v3 v4 r11.2))
def fX0_drawnRound_b64 (L2 : Nat) (v2 : Int) (v3 : Int) (v4 : Int) (w5 : Int) (I : zMem) : Option zMem :=
  zb (fX7_isAble L2 w5 (I (7, L2, 0) 1) I) (fun r3 => if w32 r3 = 0 then fX0_drawnRound_b144 L2 v2 v3 v4 I else zb (fX0_draw I) (fun r6 => if r6.1 % 16 = 0 then fX0_drawnRound_b95 L2 v2 v3 v4 w5 0 r6.2 else fX0_drawnRound_b95 L2 v2 v3 v4 w5 1 r6.2))
def fX0_drawnRound_b60 (L2 : Nat) (v2 : Int) (v3 : Int) (v4 : Int) (w5 : Int) (k0 : Int) (k1 : Int) (I : zMem) : Option zMem :=
  zb (fX4_readAnswer L2 k1 k0 I) (fun r14 => fX0_drawnRound_b64 L2 v2 v3 v4 w5 r14.2)
def fX0_drawnRound (L2 : Nat) (v2 : Int) (v3 : Int) (v4 : Int) (I : zMem) : Option zMem :=
  if ¬ w32 (zmax 1 (I (7, L2, 0) 0)) = 0 then zlet (irem v2 (zmax 1 (I (7, L2, 0) 0))) (fun a1 => if zin a1 8 then if w32 (I (10, L2, ix a1) 3) = 0 then fX0_drawnRound_b64 L2 v2 v3 v4 a1 I else zb (fX0_draw I) (fun r12 => zlet (r12.1 % 8) (fun a13 => if w32 a13 = 0 then fX0_drawnRound_b60 L2 v2 v3 v4 a1 1 a1 r12.2 else if w32 a13 = 1 then fX0_drawnRound_b60 L2 v2 v3 v4 a1 2 a1 r12.2 else fX0_drawnRound_b60 L2 v2 v3 v4 a1 0 a1 r12.2)) else none) else none
def fX0_cleanRound_b2_61 (L2 : Nat) (v2 : Int) (w3 : Int) (I : zMem) : Option ((Int × zMem) ⊕ (Int × zMem)) :=
  some (.inl (w3 + 1, I))
def fX0_cleanRound_b2_32 (L2 : Nat) (v2 : Int) (w3 : Int) (I : zMem) : Option ((Int × zMem) ⊕ (Int × zMem)) :=
  zb (fX7_isAble L2 w3 (I (7, L2, 0) 1) I) (fun r2 => if w32 r2 = 0 then fX0_cleanRound_b2_61 L2 v2 w3 I else zb (fX0_quiet I) (fun r3 => zb (fX0_transmit L2 w3 39 1 r3) (fun r4 => fX0_cleanRound_b2_61 L2 v2 w3 r4.2)))
def fX0_cleanRound_l2 (L2 : Nat) (v2 : Int) (s : (Int × zMem)) : Option ((Int × zMem) ⊕ (Int × zMem)) :=
  if w32 (s.2 (7, L2, 0) 0) ≤ w32 s.1 then some (.inr (s.1, s.2)) else if zin s.1 8 then if w32 (s.2 (10, L2, ix s.1) 3) = 0 then fX0_cleanRound_b2_32 L2 v2 s.1 s.2 else zb (fX4_readAnswer L2 s.1 v2 s.2) (fun r5 => fX0_cleanRound_b2_32 L2 v2 s.1 r5.2) else none
def fX0_cleanRound (L2 : Nat) (v2 : Int) (I : zMem) : Option zMem :=
  zb (zlp (fX0_cleanRound_l2 L2 v2) 5000 (0, I)) (fun x6 => zb (fX5_passTime L2 (x6.2 (7, L2, 0) 2) x6.2) (fun r7 => zb (fX7_learn L2 L2 r7) (fun r8 => some r8)))
def fX8_copyFrom (L : Nat) (p : Nat) (L2 : Nat) (p2 : Nat) (I : zMem) : Option zMem :=
  zlet (zst I (10, L, p) 0 (I (10, L2, p2) 0)) (fun I1 => zlet (zst I1 (10, L, p) 1 (I1 (10, L2, p2) 1)) (fun I2 => zlet (zst I2 (10, L, p) 2 (I2 (10, L2, p2) 2)) (fun I3 => if zbo (I3 (10, L2, p2) 3) then zlet (zst I3 (10, L, p) 3 (I3 (10, L2, p2) 3)) (fun I4 => if zbo (I4 (10, L2, p2) 4) then zlet (zst I4 (10, L, p) 4 (I4 (10, L2, p2) 4)) (fun I5 => zlet (zcp I5 (37, L2, p2) 0 (37, L, p) 0 39) (fun I6 => some I6)) else none) else none)))
def fX7_copyFrom_l2 (L : Nat) (L2 : Nat) (s : (Int × zMem)) : Option ((Int × zMem) ⊕ (Int × zMem)) :=
  if 8 ≤ w32 s.1 then some (.inr (s.1, s.2)) else if zin s.1 8 then zb (fX8_copyFrom L (ix s.1) L2 (ix s.1) s.2) (fun r2 => some (.inl (s.1 + 1, r2))) else none
def fX7_copyFrom (L : Nat) (L2 : Nat) (I : zMem) : Option zMem :=
  zb (zlp (fX7_copyFrom_l2 L L2) 5000 (0, I)) (fun x3 => zlet (zcp x3.2 (33, L2, 0) 0 (33, L, 0) 0 20) (fun I4 => zlet (zcp I4 (34, L2, 0) 0 (34, L, 0) 0 8) (fun I5 => zlet (zcp I5 (35, L2, 0) 0 (35, L, 0) 0 8) (fun I6 => zlet (zcp I6 (36, L2, 0) 0 (36, L, 0) 0 8) (fun I7 => zlet (zst I7 (8, L, 0) 5 (I7 (8, L2, 0) 5)) (fun I8 => zlet (zst I8 (8, L, 0) 6 (I8 (8, L2, 0) 6)) (fun I9 => zlet (zst I9 (8, L, 0) 7 (I9 (8, L2, 0) 7)) (fun I10 => zlet (zst I10 (8, L, 0) 8 (I10 (8, L2, 0) 8)) (fun I11 => zlet (zst I11 (8, L, 0) 9 (I11 (8, L2, 0) 9)) (fun I12 => zlet (zst I12 (8, L, 0) 10 (I12 (8, L2, 0) 10)) (fun I13 => some I13)))))))))))
def fX3_copyFrom (L : Nat) (p : Nat) (L2 : Nat) (p2 : Nat) (I : zMem) : Option zMem :=
  zlet (zst I (11, L, p) 0 (I (11, L2, p2) 0)) (fun I1 => zlet (zst I1 (11, L, p) 1 (I1 (11, L2, p2) 1)) (fun I2 => if zbo (I2 (11, L2, p2) 2) then zlet (zst I2 (11, L, p) 2 (I2 (11, L2, p2) 2)) (fun I3 => zlet (zcp I3 (41, L2, p2) 0 (41, L, p) 0 39) (fun I4 => some I4)) else none))
def fX5_copyFrom_l2 (L : Nat) (L2 : Nat) (s : (Int × zMem)) : Option ((Int × zMem) ⊕ (Int × zMem)) :=
  if 8 ≤ w32 s.1 then some (.inr (s.1, s.2)) else if zin s.1 8 then zb (fX3_copyFrom L (ix s.1) L2 (ix s.1) s.2) (fun r2 => some (.inl (s.1 + 1, r2))) else none
def fX5_copyFrom (L : Nat) (L2 : Nat) (I : zMem) : Option zMem :=
  zb (zlp (fX5_copyFrom_l2 L L2) 5000 (0, I)) (fun x3 => zlet (zcp x3.2 (39, L2, 0) 0 (39, L, 0) 0 8) (fun I4 => zlet (zcp I4 (40, L2, 0) 0 (40, L, 0) 0 256) (fun I5 => zlet (zst I5 (9, L, 0) 3 (I5 (9, L2, 0) 3)) (fun I6 => zlet (zst I6 (9, L, 0) 4 (I6 (9, L2, 0) 4)) (fun I7 => zlet (zst I7 (9, L, 0) 5 (I7 (9, L2, 0) 5)) (fun I8 => zlet (zst I8 (9, L, 0) 6 (I8 (9, L2, 0) 6)) (fun I9 => zlet (zst I9 (9, L, 0) 7 (I9 (9, L2, 0) 7)) (fun I10 => zlet (zst I10 (9, L, 0) 8 (I10 (9, L2, 0) 8)) (fun I11 => zlet (zst I11 (9, L, 0) 9 (I11 (9, L2, 0) 9)) (fun I12 => zlet (zst I12 (9, L, 0) 10 (I12 (9, L2, 0) 10)) (fun I13 => some I13)))))))))))
def fX4_copyFrom (L : Nat) (L2 : Nat) (I : zMem) : Option zMem :=
  zlet (zst I (7, L, 0) 0 (I (7, L2, 0) 0)) (fun I1 => zlet (zst I1 (7, L, 0) 1 (I1 (7, L2, 0) 1)) (fun I2 => zlet (zst I2 (7, L, 0) 2 (I2 (7, L2, 0) 2)) (fun I3 => zlet (zst I3 (7, L, 0) 3 (I3 (7, L2, 0) 3)) (fun I4 => zlet (zst I4 (7, L, 0) 4 (I4 (7, L2, 0) 4)) (fun I5 => zlet (zst I5 (7, L, 0) 5 (I5 (7, L2, 0) 5)) (fun I6 => zlet (zst I6 (7, L, 0) 6 (I6 (7, L2, 0) 6)) (fun I7 => zb (fX7_copyFrom L L2 I7) (fun r8 => zb (fX5_copyFrom L L2 r8) (fun r9 => some r9)))))))))
def fX7_isClear_b22 (L : Nat) (I : zMem) : Option Int :=
  some 0
def fX7_isClear (L : Nat) (I : zMem) : Option Int :=
  if w32 (I (8, L, 0) 5) = 0 then if w32 (I (8, L, 0) 8) = w32 (I (8, L, 0) 7) then some 1 else fX7_isClear_b22 L I else fX7_isClear_b22 L I
def fX0_roundsTillClear_b19_59 (L2 : Nat) (v2 : Int) (w3 : Int) (k0 : Int) (I : zMem) : Option ((Int × zMem) ⊕ ((Int × zMem) ⊕ (Int × zMem))) :=
  zb (fX0_cleanRound 0 k0 I) (fun r4 => some (.inl (w3 + 1, r4)))
def fX0_roundsTillClear_l19 (L2 : Nat) (v2 : Int) (s : (Int × zMem)) : Option ((Int × zMem) ⊕ ((Int × zMem) ⊕ (Int × zMem))) :=
  if 30 ≤ w32 s.1 then some (.inr (.inl (s.1, s.2))) else zb (fX7_isClear 0 s.2) (fun r3 => if w32 r3 = 0 then if (ishr v2 s.1) % 2 = 1 then fX0_roundsTillClear_b19_59 L2 v2 s.1 1 s.2 else fX0_roundsTillClear_b19_59 L2 v2 s.1 0 s.2 else some (.inr (.inr (s.1, s.2))))
def fX0_roundsTillClear (L2 : Nat) (v2 : Int) (I : zMem) : Option (Int × zMem) :=
  zb (fX4_copyFrom 0 L2 I) (fun r1 => zlet (zst r1 (7, 0, 0) 6 20) (fun I2 => zbr (zlp (fX0_roundsTillClear_l19 L2 v2) 5000 (0, I2)) (fun x5 => zb (fX7_isClear 0 x5.2) (fun r6 => if w32 r6 = 0 then some ((-1), x5.2) else some (30, x5.2))) (fun z => z)))
def fX2_sumAll_l26 (q1 : zPl) (w2 : Int) (s : (Int × zMem)) : Option ((Int × zMem) ⊕ (Int × zMem)) :=
  if w32 s.1 < 0 then some (.inr (s.1, s.2)) else if zin (ishr s.1 1) 2048 then if zin ((8 * w2) + (s.1 % 8)) 104 then if zin s.1 2048 then zlet (zst s.2 (23, 0, 0) (ix s.1) ((s.2 (23, 0, 0) (ix (ishr s.1 1))) + (s.2 (22, 0, 0) (ix ((8 * w2) + (s.1 % 8)))))) (fun I7 => some (.inl (s.1 + (-1), I7))) else none else none else none
def fX2_sumAll_l14 (q1 : zPl) (s : (Int × zMem)) : Option ((Int × zMem) ⊕ (Int × zMem)) :=
  if 11 ≤ w32 s.1 then some (.inr (s.1, s.2)) else zlet ((ishl 2 s.1) - 1) (fun a3 => zb (zlp (fX2_sumAll_l26 q1 s.1) 5000 (a3, s.2)) (fun x8 => some (.inl (s.1 + 1, x8.2))))
def fX2_sumAll_l73 (q1 : zPl) (s : (Int × zMem)) : Option ((Int × zMem) ⊕ (Int × zMem)) :=
  if 2048 ≤ w32 s.1 then some (.inr (s.1, s.2)) else if zin s.1 2048 then zb (fX2_tailGain (s.1 % 4) s.2) (fun r11 => zlet (zst s.2 (23, 0, 0) (ix s.1) ((s.2 (23, 0, 0) (ix s.1)) + r11)) (fun I12 => some (.inl (s.1 + 1, I12)))) else none
def fX2_sumAll (q1 : zPl) (I : zMem) : Option zMem :=
  zb (fX2_measure q1 I) (fun r1 => zlet (zst r1 (23, 0, 0) 0 0) (fun I2 => zb (zlp (fX2_sumAll_l14 q1) 5000 (0, I2)) (fun x9 => zb (zlp (fX2_sumAll_l73 q1) 5000 (0, x9.2)) (fun x13 => some x13.2))))
def fX2_greatestBut_b14_43 (v1 : Int) (I : zMem) (w2 : Int) (w3 : Int) : Option ((Int × Int) ⊕ (Int × Int)) :=
  some (.inl (w2, w3 + 1))
def fX2_greatestBut_l14 (v1 : Int) (I : zMem) (s : (Int × Int)) : Option ((Int × Int) ⊕ (Int × Int)) :=
  if 2048 ≤ w32 s.2 then some (.inr (s.1, s.2)) else if w32 s.2 = w32 v1 then fX2_greatestBut_b14_43 v1 I s.1 s.2 else if zin s.2 2048 then if zin s.1 2048 then if w32 (I (23, 0, 0) (ix s.2)) ≤ w32 (I (23, 0, 0) (ix s.1)) then fX2_greatestBut_b14_43 v1 I s.1 s.2 else fX2_greatestBut_b14_43 v1 I s.2 s.2 else none else none
def fX2_greatestBut_b9 (v1 : Int) (I : zMem) (k0 : Int) : Option Int :=
  zlet (k0 + 1) (fun a1 => zb (zlp (fX2_greatestBut_l14 v1 I) 5000 (k0, a1)) (fun x4 => some x4.1))
def fX2_greatestBut (v1 : Int) (I : zMem) : Option Int :=
  if w32 v1 = 0 then fX2_greatestBut_b9 v1 I 1 else fX2_greatestBut_b9 v1 I 0
def fX2_greatestWith_b6_36 (v1 : Int) (v2 : Int) (I : zMem) (w3 : Int) (w4 : Int) : Option ((Int × Int) ⊕ (Int × Int)) :=
  some (.inl (w3, w4 + 1))
def fX2_greatestWith_l6 (v1 : Int) (v2 : Int) (I : zMem) (s : (Int × Int)) : Option ((Int × Int) ⊕ (Int × Int)) :=
  if 2048 ≤ w32 s.2 then some (.inr (s.1, s.2)) else if (ishr s.2 v1) % 2 = w32 v2 then if zin s.2 2048 then zlet (zmax s.1 (I (23, 0, 0) (ix s.2))) (fun a2 => fX2_greatestWith_b6_36 v1 v2 I a2 s.2) else none else fX2_greatestWith_b6_36 v1 v2 I s.1 s.2
def fX2_greatestWith (v1 : Int) (v2 : Int) (I : zMem) : Option Int :=
  zb (zlp (fX2_greatestWith_l6 v1 v2 I) 5000 ((-100000000), 0)) (fun x3 => some x3.1)
def fX8_begin (L : Nat) (p : Nat) (I : zMem) : Option zMem :=
  zb (fX8_letGo L p I) (fun r1 => zlet (zst r1 (10, L, p) 1 0) (fun I2 => zlet (zst I2 (10, L, p) 4 0) (fun I3 => zb (fJ7_fill_53178 (37, L, p) 39 0 I3) (fun r4 => some r4))))
def fX7_begin_l2 (L : Nat) (s : (Int × zMem)) : Option ((Int × zMem) ⊕ (Int × zMem)) :=
  if 8 ≤ w32 s.1 then some (.inr (s.1, s.2)) else if zin s.1 8 then zb (fX8_begin L (ix s.1) s.2) (fun r2 => some (.inl (s.1 + 1, r2))) else none
def fX7_begin (L : Nat) (I : zMem) : Option zMem :=
  zb (zlp (fX7_begin_l2 L) 5000 (0, I)) (fun x3 => zlet (zst x3.2 (8, L, 0) 5 0) (fun I4 => zlet (zst I4 (8, L, 0) 6 0) (fun I5 => zlet (zst I5 (8, L, 0) 7 0) (fun I6 => zlet (zst I6 (8, L, 0) 8 0) (fun I7 => zlet (zst I7 (8, L, 0) 9 0) (fun I8 => zlet (zst I8 (8, L, 0) 10 0) (fun I9 => some I9)))))))
def fX5_begin_l2 (L : Nat) (s : (Int × zMem)) : Option ((Int × zMem) ⊕ (Int × zMem)) :=
  if 8 ≤ w32 s.1 then some (.inr (s.1, s.2)) else if zin s.1 8 then zb (fX3_begin L (ix s.1) (-1) s.2) (fun r2 => some (.inl (s.1 + 1, r2))) else none
def fX5_begin (L : Nat) (I : zMem) : Option zMem :=
  zb (zlp (fX5_begin_l2 L) 5000 (0, I)) (fun x3 => zb (fJ7_fill_53178 (39, L, 0) 8 (-1) x3.2) (fun r4 => zlet (zst r4 (9, L, 0) 3 0) (fun I5 => zlet (zst I5 (9, L, 0) 4 0) (fun I6 => zlet (zst I6 (9, L, 0) 5 0) (fun I7 => zlet (zst I7 (9, L, 0) 6 0) (fun I8 => zlet (zst I8 (9, L, 0) 7 0) (fun I9 => zlet (zst I9 (9, L, 0) 8 0) (fun I10 => zlet (zst I10 (9, L, 0) 9 0) (fun I11 => zlet (zst I11 (9, L, 0) 10 0) (fun I12 => some I12))))))))))
def fX4_begin (L : Nat) (I : zMem) : Option zMem :=
  zlet (zst I (7, L, 0) 5 500) (fun I1 => zlet (zst I1 (7, L, 0) 6 20) (fun I2 => zb (fX7_begin L I2) (fun r3 => zb (fX5_begin L r3) (fun r4 => some r4))))
def fX5_firstStored_l2 (L : Nat) (I : zMem) (s : Int) : Option (Int ⊕ (Int ⊕ Int)) :=
  if 8 ≤ w32 s then some (.inr (.inl s)) else zlet (((I (9, L, 0) 3) + s) % 8) (fun a1 => if zin a1 8 then if w32 (I (39, L, 0) (ix a1)) = (-1) then some (.inl (s + 1)) else some (.inr (.inr a1)) else none)
def fX5_firstStored (L : Nat) (I : zMem) : Option Int :=
  zbr (zlp (fX5_firstStored_l2 L I) 5000 0) (fun x3 => some (-1)) (fun z => z)
def fX5_howManyStored_b4_23 (L : Nat) (I : zMem) (w1 : Int) (w2 : Int) : Option ((Int × Int) ⊕ (Int × Int)) :=
  some (.inl (w1, w2 + 1))
def fX5_howManyStored_l4 (L : Nat) (I : zMem) (s : (Int × Int)) : Option ((Int × Int) ⊕ (Int × Int)) :=
  if 8 ≤ w32 s.2 then some (.inr (s.1, s.2)) else if zin s.2 8 then if w32 (I (39, L, 0) (ix s.2)) = (-1) then fX5_howManyStored_b4_23 L I s.1 s.2 else fX5_howManyStored_b4_23 L I (s.1 + 1) s.2 else none
def fX5_howManyStored (L : Nat) (I : zMem) : Option Int :=
  zb (zlp (fX5_howManyStored_l4 L I) 5000 (0, 0)) (fun x2 => some x2.1)
def fX5_readyBehindExpected_l2 (L : Nat) (I : zMem) (s : Int) : Option (Int ⊕ Int) :=
  if 7 ≤ w32 s then some (.inr s) else if zin ((((I (9, L, 0) 3) + 1) + s) % 8) 8 then if w32 (I (39, L, 0) (ix ((((I (9, L, 0) 3) + 1) + s) % 8))) = (-1) then some (.inr s) else some (.inl (s + 1)) else none
def fX5_readyBehindExpected (L : Nat) (I : zMem) : Option Int :=
  zb (zlp (fX5_readyBehindExpected_l2 L I) 5000 0) (fun x2 => some x2)
def fX5_givenAgo (L : Nat) (v1 : Int) (I : zMem) : Option Int :=
  if w32 v1 < 0 then some (-1) else if w32 (I (9, L, 0) 6) ≤ w32 v1 then some (-1) else if w32 v1 < 256 then if zin ((((I (9, L, 0) 6) - 1) - v1) % 256) 256 then some (I (40, L, 0) (ix ((((I (9, L, 0) 6) - 1) - v1) % 256))) else none else some (-1)
def fX5_tell (L : Nat) (v1 : Int) (I : zMem) : Option Int :=
  if w32 v1 = 4 then some (I (9, L, 0) 3) else if w32 v1 = 5 then zb (fX5_howManyStored L I) (fun r1 => some r1) else if w32 v1 = 6 then if w32 (I (9, L, 0) 4) ≤ 0 then some (-1) else some (I (9, L, 0) 4) else if w32 v1 = 7 then if w32 (I (9, L, 0) 4) ≤ 0 then some (-1) else some (((I (9, L, 0) 3) + (I (9, L, 0) 5)) % 8) else if w32 v1 = 8 then some (I (9, L, 0) 6) else if w32 v1 = 9 then some (I (9, L, 0) 7) else if w32 v1 = 10 then some (I (9, L, 0) 8) else if w32 v1 = 11 then some (I (9, L, 0) 9) else if w32 v1 = 14 then some (I (9, L, 0) 10) else some (-1)
def fX6_bitAtPlace_b32 (v0 : Int) (I : zMem) (w1 : Int) (k0 : Int) : Option Int :=
  if zin ((ishr k0 2) % 4) 4 then zlet ((4 * (k0 % 4)) + (zcol (ix ((ishr k0 2) % 4)))) (fun a2 => if 3 ≤ w32 a2 then some (((13 * w1) + a2) - 3) else some (-1)) else none
def fX6_bitAtPlace_b15 (v0 : Int) (I : zMem) (k0 : Int) : Option Int :=
  if 16 ≤ w32 v0 then fX6_bitAtPlace_b32 v0 I k0 (ishr (v0 - 16) 1) else fX6_bitAtPlace_b32 v0 I k0 v0
def fX6_bitAtPlace (v0 : Int) (I : zMem) : Option Int :=
  if 16 ≤ w32 v0 then fX6_bitAtPlace_b15 v0 I (1 + (v0 % 2)) else fX6_bitAtPlace_b15 v0 I 0
def fX9_isMissing (v1 : Int) (I : zMem) : Option Int :=
  if zin v1 4 then if w32 (I (31, 0, 0) (ix v1)) = (-1) then some 1 else some 0 else none
def fJ7_fill_d0a16_l6 (q0 : zPl) (n0 : Nat) (v1 : Int) (w4 : Int) (s : (Int × zMem)) : Option ((Int × zMem) ⊕ (Int × zMem)) :=
  if w32 w4 ≤ w32 s.1 then some (.inr (s.1, s.2)) else if zin s.1 n0 then zlet (zst s.2 q0 (ix s.1) v1) (fun I3 => some (.inl (s.1 + 1, I3))) else none
def fJ7_fill_d0a16 (q0 : zPl) (n0 : Nat) (v1 : Int) (I : zMem) : Option zMem :=
  zlet ((n0 : Int)) (fun a1 => zb (zlp (fJ7_fill_d0a16_l6 q0 n0 v1 a1) 5000 (0, I)) (fun x4 => some x4.2))
def fX10_take_b23_66 (q1 : zPl) (w2 : Int) (w3 : Int) (I : zMem) : Option ((Int × zMem) ⊕ (Int × zMem)) :=
  some (.inl (w3 + 1, I))
def fX10_take_l23 (q1 : zPl) (w2 : Int) (s : (Int × zMem)) : Option ((Int × zMem) ⊕ (Int × zMem)) :=
  if 6 ≤ w32 s.1 then some (.inr (s.1, s.2)) else if zin w2 39 then if (ishr (s.2 q1 (ix w2)) s.1) % 2 = 1 then if zin s.1 6 then zlet (zst s.2 (21, 0, 0) (ix s.1) (lor (s.2 (21, 0, 0) (ix s.1)) (lshl 1 w2))) (fun I5 => zlet (zst I5 (3, 0, 0) 1 (zmax (I5 (3, 0, 0) 1) (s.1 + 1))) (fun I6 => fX10_take_b23_66 q1 w2 s.1 I6)) else none else fX10_take_b23_66 q1 w2 s.1 s.2 else none
def fX10_take_l15 (q1 : zPl) (s : (Int × zMem)) : Option ((Int × zMem) ⊕ (Int × zMem)) :=
  if 39 ≤ w32 s.1 then some (.inr (s.1, s.2)) else zb (zlp (fX10_take_l23 q1 s.1) 5000 (0, s.2)) (fun x7 => some (.inl (s.1 + 1, x7.2)))
def fX10_take (q1 : zPl) (I : zMem) : Option zMem :=
  zb (fJ7_fill_d0a16 (21, 0, 0) 6 0 I) (fun r1 => zlet (zst r1 (3, 0, 0) 1 0) (fun I2 => zb (zlp (fX10_take_l15 q1) 5000 (0, I2)) (fun x8 => some x8.2)))
def fJ13_bitCount_95d88 (v0 : Int) : Option Int :=
  zlet (v0 - (land (lushr v0 1) 6148914691236517205)) (fun a1 => zlet ((land a1 3689348814741910323) + (land (lushr a1 2) 3689348814741910323)) (fun a2 => zlet (land (a2 + (lushr a2 4)) 1085102592571150095) (fun a3 => zlet (a3 + (lushr a3 8)) (fun a4 => zlet (a4 + (lushr a4 16)) (fun a5 => zlet (a5 + (lushr a5 32)) (fun a6 => some (a6 % 128)))))))
def fX10_weigh_l5 (v1 : Int) (I : zMem) (s : (Int × Int)) : Option ((Int × Int) ⊕ (Int × Int)) :=
  if w32 (I (3, 0, 0) 1) ≤ w32 s.2 then some (.inr (s.1, s.2)) else if zin s.2 6 then zb (fJ13_bitCount_95d88 (land v1 (I (21, 0, 0) (ix s.2)))) (fun r2 => zlet (s.1 + (ishl r2 s.2)) (fun a3 => some (.inl (a3, s.2 + 1)))) else none
def fX10_weigh (v1 : Int) (I : zMem) : Option Int :=
  zb (zlp (fX10_weigh_l5 v1 I) 5000 (0, 0)) (fun x4 => some x4.1)
def fX10_least_l5 (q1 : zPl) (n1 : Nat) (I : zMem) (s : (Int × Int)) : Option ((Int × Int) ⊕ (Int × Int)) :=
  if w32 (n1 : Int) ≤ w32 s.2 then some (.inr (s.1, s.2)) else if zin s.2 n1 then zb (fX10_weigh (I q1 (ix s.2)) I) (fun r2 => zlet (zmin s.1 r2) (fun a3 => some (.inl (a3, s.2 + 1)))) else none
def fX10_least (q1 : zPl) (n1 : Nat) (I : zMem) : Option Int :=
  zb (zlp (fX10_least_l5 q1 n1 I) 5000 (1000000, 1)) (fun x4 => some x4.1)
def fX10_howManyAt_b5_27 (q1 : zPl) (n1 : Nat) (v2 : Int) (I : zMem) (w3 : Int) (w4 : Int) : Option ((Int × Int) ⊕ (Int × Int)) :=
  some (.inl (w3, w4 + 1))
def fX10_howManyAt_l5 (q1 : zPl) (n1 : Nat) (v2 : Int) (I : zMem) (s : (Int × Int)) : Option ((Int × Int) ⊕ (Int × Int)) :=
  if w32 (n1 : Int) ≤ w32 s.2 then some (.inr (s.1, s.2)) else if zin s.2 n1 then zb (fX10_weigh (I q1 (ix s.2)) I) (fun r2 => if w32 r2 = w32 v2 then fX10_howManyAt_b5_27 q1 n1 v2 I (s.1 + 1) s.2 else fX10_howManyAt_b5_27 q1 n1 v2 I s.1 s.2) else none
def fX10_howManyAt (q1 : zPl) (n1 : Nat) (v2 : Int) (I : zMem) : Option Int :=
  zb (zlp (fX10_howManyAt_l5 q1 n1 v2 I) 5000 (0, 1)) (fun x3 => some x3.1)
def fX11_isSn_b14 (v0 : Int) : Option Int :=
  some 0
def fX11_isSn (v0 : Int) : Option Int :=
  if w32 v0 < 0 then fX11_isSn_b14 v0 else if 8 ≤ w32 v0 then fX11_isSn_b14 v0 else some 1
def fX11_word (v1 : Int) (v2 : Int) : Option Int :=
  zb (fX11_isSn v1) (fun r1 => if w32 r1 = 0 then some (-3) else if w32 v2 < 0 then some (-3) else if w32 v2 ≤ 31 then zb (fX1_wholeWord (ior (ishl v1 5) v2)) (fun r2 => some r2) else some (-3))
def fX11_isWord_b15 (v0 : Int) : Option Int :=
  some 0
def fX11_isWord (v0 : Int) : Option Int :=
  if w32 v0 < 0 then fX11_isWord_b15 v0 else if 2048 ≤ w32 v0 then fX11_isWord_b15 v0 else some 1
def fX11_whole (v1 : Int) : Option Int :=
  zb (fX11_isWord v1) (fun r1 => if w32 r1 = 0 then some (-3) else zb (fX1_isWhole v1) (fun r2 => if w32 r2 = 0 then some 0 else some 1))
def fX11_bits (v1 : Int) (I : zMem) : Option Int :=
  zb (fX11_isWord v1) (fun r1 => if w32 r1 = 0 then some (-3) else if zin v1 2048 then some (I (16, 0, 0) (ix v1)) else none)
def fX11_place (v1 : Int) (I : zMem) : Option Int :=
  if w32 v1 < 0 then some (-2) else if w32 v1 < w32 (I (7, 1, 0) 4) then zb (fX6_bitAtPlace v1 I) (fun r1 => some r1) else some (-2)
def fX11_isVersion_b13 (v0 : Int) : Option Int :=
  some 0
def fX11_isVersion (v0 : Int) : Option Int :=
  if w32 v0 < 0 then fX11_isVersion_b13 v0 else if 4 ≤ w32 v0 then fX11_isVersion_b13 v0 else some 1
def fX11_isLength_b15 (v0 : Int) : Option Int :=
  some 0
def fX11_isLength (v0 : Int) : Option Int :=
  if w32 v0 < 1 then fX11_isLength_b15 v0 else if 60 < w32 v0 then fX11_isLength_b15 v0 else some 1
def fX11_sent (v1 : Int) (v2 : Int) (v3 : Int) (I : zMem) : Option (Int × zMem) :=
  zb (fX11_isVersion v1) (fun r1 => if w32 r1 = 0 then some ((-2), I) else zb (fX11_isLength v2) (fun r2 => if w32 r2 = 0 then some ((-3), I) else if 0 ≤ w32 v3 then if w32 v3 < w32 v2 then zb (fX6_lay (I (7, 1, 0) 4) v1 v2 I) (fun r3 => if zin v3 60 then some (r3 (20, 0, 0) (ix v3), r3) else none) else some ((-1), I) else some ((-3), I)))
def fX11_isVersionSet_b14 (v0 : Int) : Option Int :=
  some 0
def fX11_isVersionSet (v0 : Int) : Option Int :=
  if w32 v0 < 0 then fX11_isVersionSet_b14 v0 else if 16 ≤ w32 v0 then fX11_isVersionSet_b14 v0 else some 1
def fX11_countVersions_b10_52 (v1 : Int) (v2 : Int) (w3 : Int) (I : zMem) : Option ((Int × zMem) ⊕ (Int × zMem)) :=
  some (.inl (w3 + 1, I))
def fX11_countVersions_l10 (v1 : Int) (v2 : Int) (s : (Int × zMem)) : Option ((Int × zMem) ⊕ (Int × zMem)) :=
  if 4 ≤ w32 s.1 then some (.inr (s.1, s.2)) else if (ishr v1 s.1) % 2 = 1 then zb (fX6_lay (s.2 (7, 1, 0) 4) s.1 v2 s.2) (fun r2 => zb (fX6_addTo (13, 0, 0) v2 r2) (fun r3 => fX11_countVersions_b10_52 v1 v2 s.1 r3)) else fX11_countVersions_b10_52 v1 v2 s.1 s.2
def fX11_countVersions (v1 : Int) (v2 : Int) (I : zMem) : Option zMem :=
  zb (fJ7_fill_53178 (13, 0, 0) 39 0 I) (fun r1 => zb (zlp (fX11_countVersions_l10 v1 v2) 5000 (0, r1)) (fun x4 => some x4.2))
def fX11_unsentBits_b13_41 (v1 : Int) (v2 : Int) (I : zMem) (w3 : Int) (w5 : Int) : Option ((Int × Int) ⊕ (Int × Int)) :=
  some (.inl (w3, w5 + 1))
def fX11_unsentBits_l13 (v1 : Int) (v2 : Int) (I : zMem) (s : (Int × Int)) : Option ((Int × Int) ⊕ (Int × Int)) :=
  if 39 ≤ w32 s.2 then some (.inr (s.1, s.2)) else if zin s.2 39 then if w32 (I (13, 0, 0) (ix s.2)) ≤ 0 then fX11_unsentBits_b13_41 v1 v2 I s.1 s.2 else zlet (land s.1 (lxor (lshl 1 s.2) (-1))) (fun a3 => fX11_unsentBits_b13_41 v1 v2 I a3 s.2) else none
def fX11_unsentBits (v1 : Int) (v2 : Int) (I : zMem) : Option (Int × zMem) :=
  zb (fX11_countVersions v1 v2 I) (fun r1 => zb (zlp (fX11_unsentBits_l13 v1 v2 r1) 5000 (549755813887, 0)) (fun x4 => some (x4.1, r1)))
def fX11_covers (v1 : Int) (v2 : Int) (I : zMem) : Option (Int × zMem) :=
  zb (fX11_isVersionSet v1) (fun r1 => if w32 r1 = 0 then some ((-3), I) else zb (fX11_isLength v2) (fun r2 => if w32 r2 = 0 then some ((-3), I) else zb (fX11_unsentBits v1 v2 I) (fun r3 => zb (fJ13_bitCount_95d88 r3.1) (fun r4 => some (39 - r4, r3.2)))))
def fX11_lacks (v1 : Int) (v2 : Int) (I : zMem) : Option (Int × zMem) :=
  zb (fX11_isVersionSet v1) (fun r1 => if w32 r1 = 0 then some ((-3), I) else zb (fX11_isLength v2) (fun r2 => if w32 r2 = 0 then some ((-3), I) else zb (fX11_unsentBits v1 v2 I) (fun r3 => some (r3.1, r3.2))))
def fX11_weighVersions (v1 : Int) (v2 : Int) (I : zMem) : Option zMem :=
  zb (fX11_countVersions v1 v2 I) (fun r1 => zb (fX10_take (13, 0, 0) r1) (fun r2 => some r2))
def fX11_between (v1 : Int) (v2 : Int) (v3 : Int) (v4 : Int) (I : zMem) : Option (Int × zMem) :=
  zb (fX11_isWord v1) (fun r1 => if w32 r1 = 0 then some ((-3), I) else zb (fX11_isWord v2) (fun r2 => if w32 r2 = 0 then some ((-3), I) else zb (fX11_isVersionSet v3) (fun r3 => if w32 r3 = 0 then some ((-3), I) else zb (fX11_isLength v4) (fun r4 => if w32 r4 = 0 then some ((-3), I) else zb (fX11_weighVersions v3 v4 I) (fun r5 => if zin v1 2048 then if zin v2 2048 then zb (fX10_weigh (lxor (r5 (16, 0, 0) (ix v1)) (r5 (16, 0, 0) (ix v2))) r5) (fun r8 => some (r8, r5)) else none else none)))))
def fX11_distance (v1 : Int) (v2 : Int) (v3 : Int) (I : zMem) : Option (Int × zMem) :=
  if w32 v3 < 0 then some ((-2), I) else if w32 v3 ≤ 3 then zb (fX11_isVersionSet v1) (fun r1 => if w32 r1 = 0 then some ((-3), I) else zb (fX11_isLength v2) (fun r2 => if w32 r2 = 0 then some ((-3), I) else zb (fX11_weighVersions v1 v2 I) (fun r3 => if v3 % 2 = 0 then zb (fX10_least (16, 0, 0) 2048 r3) (fun r4 => if 2 ≤ w32 v3 then zb (fX10_howManyAt (16, 0, 0) 2048 r4 r3) (fun r5 => some (r5, r3)) else some (r4, r3)) else zb (fX10_least (17, 0, 0) 256 r3) (fun r6 => if 2 ≤ w32 v3 then zb (fX10_howManyAt (17, 0, 0) 256 r6 r3) (fun r7 => some (r7, r3)) else some (r6, r3))))) else some ((-2), I)
def fX11_isDistance_b15 (v0 : Int) : Option Int :=
  some 0
def fX11_isDistance (v0 : Int) : Option Int :=
  if w32 v0 < 1 then fX11_isDistance_b15 v0 else if 60 < w32 v0 then fX11_isDistance_b15 v0 else some 1
def fX11_wholeApart (v1 : Int) (v2 : Int) (I : zMem) : Option (Int × zMem) :=
  zb (fX11_weighVersions v1 v2 I) (fun r1 => zb (fX10_least (17, 0, 0) 256 r1) (fun r2 => some (r2, r1)))
def fX11_shortest_b39_83 (v1 : Int) (v2 : Int) (w3 : Int) (w4 : Int) (w5 : Int) (I : zMem) : Option ((Int × Int × Int × zMem) ⊕ (Int × Int × Int × zMem)) :=
  some (.inl (w3, w4, w5 + 1, I))
def fX11_shortest_l39 (v1 : Int) (v2 : Int) (s : (Int × Int × Int × zMem)) : Option ((Int × Int × Int × zMem) ⊕ (Int × Int × Int × zMem)) :=
  if 60 ≤ w32 s.2.2.1 then some (.inr (s.1, s.2.1, s.2.2.1, s.2.2.2)) else if w32 s.2.1 ≤ w32 s.1 then some (.inr (s.1, s.2.1, s.2.2.1, s.2.2.2)) else zlet (ishr (s.1 + s.2.1) 1) (fun a4 => zb (fX11_wholeApart v1 a4 s.2.2.2) (fun r5 => if w32 r5.1 < w32 v2 then zlet (a4 + 1) (fun a6 => fX11_shortest_b39_83 v1 v2 a6 s.2.1 s.2.2.1 r5.2) else fX11_shortest_b39_83 v1 v2 s.1 a4 s.2.2.1 r5.2))
def fX11_shortest (v1 : Int) (v2 : Int) (I : zMem) : Option (Int × zMem) :=
  zb (fX11_isVersionSet v1) (fun r1 => if w32 r1 = 0 then some ((-3), I) else zb (fX11_isDistance v2) (fun r2 => if w32 r2 = 0 then some ((-3), I) else zb (fX11_wholeApart v1 60 I) (fun r3 => if w32 v2 ≤ w32 r3.1 then zb (zlp (fX11_shortest_l39 v1 v2) 5000 (1, 60, 0, r3.2)) (fun x7 => some (x7.1, x7.2.2.2)) else some ((-1), r3.2))))
def fJ6_bitCount_0f7a4 (v0 : Int) : Option Int :=
  zlet (v0 - (iand (iushr v0 1) 1431655765)) (fun a1 => zlet ((iand a1 858993459) + (iand (iushr a1 2) 858993459)) (fun a2 => zlet (iand (a2 + (iushr a2 4)) 252645135) (fun a3 => zlet (a3 + (iushr a3 8)) (fun a4 => zlet (a4 + (iushr a4 16)) (fun a5 => some (a5 % 64))))))
def fX11_versions_b27_57 (v1 : Int) (v2 : Int) (w3 : Int) (w4 : Int) (I : zMem) : Option ((Int × zMem) ⊕ ((Int × zMem) ⊕ (Int × zMem))) :=
  some (.inl (w4 + 1, I))
def fX11_versions_l27 (v1 : Int) (v2 : Int) (w3 : Int) (s : (Int × zMem)) : Option ((Int × zMem) ⊕ ((Int × zMem) ⊕ (Int × zMem))) :=
  if 16 ≤ w32 s.1 then some (.inr (.inl (s.1, s.2))) else zb (fJ6_bitCount_0f7a4 s.1) (fun r3 => if w32 r3 = w32 w3 then zb (fX11_wholeApart s.1 v1 s.2) (fun r4 => if w32 r4.1 < w32 v2 then fX11_versions_b27_57 v1 v2 w3 s.1 r4.2 else some (.inr (.inr (s.1, r4.2)))) else fX11_versions_b27_57 v1 v2 w3 s.1 s.2)
def fX11_versions_l19 (v1 : Int) (v2 : Int) (s : (Int × zMem)) : Option ((Int × zMem) ⊕ ((Int × zMem) ⊕ (Int × zMem))) :=
  if 4 < w32 s.1 then some (.inr (.inl (s.1, s.2))) else zbr (zlp (fX11_versions_l27 v1 v2 s.1) 5000 (1, s.2)) (fun x5 => some (.inl (s.1 + 1, x5.2))) (fun z => .inr (.inr z))
def fX11_versions (v1 : Int) (v2 : Int) (I : zMem) : Option (Int × zMem) :=
  zb (fX11_isLength v1) (fun r1 => if w32 r1 = 0 then some ((-3), I) else zb (fX11_isDistance v2) (fun r2 => if w32 r2 = 0 then some ((-3), I) else zbr (zlp (fX11_versions_l19 v1 v2) 5000 (1, I)) (fun x6 => some ((-1), x6.2)) (fun z => z)))
def fX11_turnSpoils_b46 (v1 : Int) (v2 : Int) (w3 : Int) (k0 : Int) (I : zMem) : Option (Int × zMem) :=
  if zin v2 39 then zlet (zst I (14, 0, 0) (ix v2) w3) (fun I7 => if zbo k0 then some (k0, I7) else none) else none
def fX11_turnSpoils_b25 (v1 : Int) (v2 : Int) (w3 : Int) (k0 : Int) (k1 : Int) (I : zMem) : Option (Int × zMem) :=
  if zin k1 39 then zlet (zst I (14, 0, 0) (ix k1) k0) (fun I4 => zb (fX2_bestWord (14, 0, 0) I4) (fun r5 => if w32 r5.1 = w32 v1 then fX11_turnSpoils_b46 v1 v2 w3 0 r5.2 else fX11_turnSpoils_b46 v1 v2 w3 1 r5.2)) else none
def fX11_turnSpoils (v1 : Int) (v2 : Int) (I : zMem) : Option (Int × zMem) :=
  if zin v2 39 then zlet (I (14, 0, 0) (ix v2)) (fun a2 => if w32 a2 ≤ 0 then fX11_turnSpoils_b25 v1 v2 a2 (a2 + 2) v2 I else fX11_turnSpoils_b25 v1 v2 a2 (a2 - 2) v2 I) else none
def fX11_weak_b49_90 (v1 : Int) (v2 : Int) (v3 : Int) (w4 : Int) (w6 : Int) (k0 : Int) (k1 : Int) (I : zMem) : Option ((Int × zMem) ⊕ (Int × zMem)) :=
  if zin k1 39 then zlet (zst I (14, 0, 0) (ix k1) k0) (fun I10 => some (.inl (w6 + 1, I10))) else none
def fX11_weak_l49 (v1 : Int) (v2 : Int) (v3 : Int) (w4 : Int) (s : (Int × zMem)) : Option ((Int × zMem) ⊕ (Int × zMem)) :=
  if 39 ≤ w32 s.1 then some (.inr (s.1, s.2)) else zb (fX1_isOne w4 s.1) (fun r7 => if w32 r7 = 0 then if zin s.1 39 then fX11_weak_b49_90 v1 v2 v3 w4 s.1 (-(s.2 (13, 0, 0) (ix s.1))) s.1 s.2 else none else if zin s.1 39 then fX11_weak_b49_90 v1 v2 v3 w4 s.1 (s.2 (13, 0, 0) (ix s.1)) s.1 s.2 else none)
def fX11_weak_b103_142 (v1 : Int) (v2 : Int) (v3 : Int) (w6 : Int) (w7 : Int) (I : zMem) : Option ((Int × Int × zMem) ⊕ (Int × Int × zMem)) :=
  some (.inl (w6, w7 + 1, I))
def fX11_weak_l103 (v1 : Int) (v2 : Int) (v3 : Int) (s : (Int × Int × zMem)) : Option ((Int × Int × zMem) ⊕ (Int × Int × zMem)) :=
  if 39 ≤ w32 s.2.1 then some (.inr (s.1, s.2.1, s.2.2)) else if zin s.2.1 39 then if w32 (s.2.2 (13, 0, 0) (ix s.2.1)) ≤ 0 then fX11_weak_b103_142 v1 v2 v3 s.1 s.2.1 s.2.2 else zb (fX11_turnSpoils v1 s.2.1 s.2.2) (fun r14 => if w32 r14.1 = 0 then fX11_weak_b103_142 v1 v2 v3 s.1 s.2.1 r14.2 else zlet (s.1 + (r14.2 (13, 0, 0) (ix s.2.1))) (fun a15 => fX11_weak_b103_142 v1 v2 v3 a15 s.2.1 r14.2)) else none
def fX11_weak (v1 : Int) (v2 : Int) (v3 : Int) (I : zMem) : Option (Int × zMem) :=
  zb (fX11_isVersion v2) (fun r1 => if w32 r1 = 0 then some ((-2), I) else zb (fX11_isWord v1) (fun r2 => if w32 r2 = 0 then some ((-3), I) else zb (fX11_isLength v3) (fun r3 => if w32 r3 = 0 then some ((-3), I) else zb (fX11_countVersions (ishl 1 v2) v3 I) (fun r4 => if zin v1 2048 then zlet (r4 (16, 0, 0) (ix v1)) (fun a6 => zb (zlp (fX11_weak_l49 v1 v2 v3 a6) 5000 (0, r4)) (fun x12 => zb (zlp (fX11_weak_l103 v1 v2 v3) 5000 (0, 0, x12.2)) (fun x16 => some (x16.1, x16.2.2)))) else none))))
def fX11_link (v1 : Int) (v2 : Int) (v3 : Int) (v4 : Int) (v5 : Int) (I : zMem) : Option (Int × zMem) :=
  if w32 v1 < 1 then some ((-3), I) else if 8 < w32 v1 then some ((-3), I) else if w32 v2 < 1 then some ((-3), I) else if 4 < w32 v2 then some ((-3), I) else if w32 v3 < 1 then some ((-3), I) else if w32 v3 ≤ 60 then if w32 v4 < 1 then some ((-3), I) else if 8 < w32 v4 then some ((-3), I) else if w32 v5 < 16 then some ((-3), I) else if w32 v5 ≤ 48 then zb (fX4_begin 1 I) (fun r1 => zlet (zst r1 (7, 1, 0) 0 v1) (fun I2 => zlet (zst I2 (7, 1, 0) 1 v2) (fun I3 => zlet (zst I3 (7, 1, 0) 2 v3) (fun I4 => zlet (zst I4 (7, 1, 0) 3 v4) (fun I5 => zlet (zst I5 (7, 1, 0) 4 v5) (fun I6 => some (0, I6))))))) else some ((-3), I) else some ((-3), I)
def fX11_limit (v1 : Int) (I : zMem) : Option (Int × zMem) :=
  if w32 v1 < 1 then some ((-3), I) else if w32 v1 ≤ 9999 then zlet (I (7, 1, 0) 5) (fun a1 => zlet (zst I (7, 1, 0) 5 v1) (fun I2 => some (a1, I2))) else some ((-3), I)
def fX11_fade (v1 : Int) (I : zMem) : Option (Int × zMem) :=
  if w32 v1 < 0 then some ((-3), I) else if w32 v1 ≤ 60 then zlet (I (7, 1, 0) 6) (fun a1 => zlet (zst I (7, 1, 0) 6 v1) (fun I2 => some (a1, I2))) else some ((-3), I)
def fX11_offer (v1 : Int) (I : zMem) : Option (Int × zMem) :=
  if w32 v1 < 0 then some ((-3), I) else if w32 v1 ≤ 31 then if w32 (I (8, 1, 0) 5) < 20 then if zin (I (8, 1, 0) 5) 20 then zlet (zst I (33, 1, 0) (ix (I (8, 1, 0) 5)) v1) (fun I2 => zlet (zst I2 (8, 1, 0) 5 ((I2 (8, 1, 0) 5) + 1)) (fun I3 => some (I3 (8, 1, 0) 5, I3))) else none else some ((-4), I) else some ((-3), I)
def fX11_isProcess_b19 (v1 : Int) (I : zMem) : Option Int :=
  some 0
def fX11_isProcess (v1 : Int) (I : zMem) : Option Int :=
  if w32 v1 < 0 then fX11_isProcess_b19 v1 I else if w32 (I (7, 1, 0) 0) ≤ w32 v1 then fX11_isProcess_b19 v1 I else some 1
def fX11_send_b107_157 (v1 : Int) (v2 : Int) (v3 : Int) (w4 : Int) (w6 : Int) (k0 : Int) (I : zMem) : Option ((Int × Int × zMem) ⊕ (Int × Int × zMem)) :=
  some (.inl (k0, w6 + 1, I))
def fX11_send_l107 (v1 : Int) (v2 : Int) (v3 : Int) (w4 : Int) (s : (Int × Int × zMem)) : Option ((Int × Int × zMem) ⊕ (Int × Int × zMem)) :=
  if w32 v2 ≤ w32 s.2.1 then some (.inr (s.1, s.2.1, s.2.2)) else if w32 w4 ≤ 0 then some (.inr (s.1, s.2.1, s.2.2)) else if zin v3 4 then if zin s.1 60 then if zin s.2.1 60 then zlet (zst s.2.2 (28, 0, 0) (ix s.2.1) (s.2.2 (30, 0, ix v3) (ix s.1))) (fun I8 => if w32 w4 ≤ w32 (s.1 + 1) then fX11_send_b107_157 v1 v2 v3 w4 s.2.1 0 I8 else fX11_send_b107_157 v1 v2 v3 w4 s.2.1 (s.1 + 1) I8) else none else none else none
def fX11_send_b92 (v1 : Int) (v2 : Int) (v3 : Int) (k0 : Int) (I : zMem) : Option (Int × zMem) :=
  zb (fX0_quiet I) (fun r4 => zb (zlp (fX11_send_l107 v1 v2 v3 k0) 5000 (0, 0, r4)) (fun x9 => zb (fX0_transmit 1 v1 v2 1 x9.2.2) (fun r10 => some (r10.1, r10.2))))
def fX11_send_b50 (v1 : Int) (v2 : Int) (v3 : Int) (I : zMem) : Option (Int × zMem) :=
  zb (fX7_isAble 1 v1 (I (7, 1, 0) 1) I) (fun r3 => if w32 r3 = 0 then some ((-5), I) else if w32 v3 = (-1) then fX11_send_b92 v1 v2 v3 0 I else if zin v3 4 then fX11_send_b92 v1 v2 v3 (I (31, 0, 0) (ix v3)) I else none)
def fX11_send (v1 : Int) (v2 : Int) (v3 : Int) (I : zMem) : Option (Int × zMem) :=
  zb (fX11_isProcess v1 I) (fun r1 => if w32 r1 = 0 then some ((-2), I) else if w32 v3 < (-1) then some ((-2), I) else if w32 v3 < 4 then zb (fX11_isLength v2) (fun r2 => if w32 r2 = 0 then some ((-3), I) else if w32 v3 = (-1) then fX11_send_b50 v1 v2 v3 I else zb (fX9_isMissing v3 I) (fun r12 => if w32 r12 = 0 then fX11_send_b50 v1 v2 v3 I else some ((-6), I))) else some ((-2), I))
def fX11_answer (v1 : Int) (v2 : Int) (I : zMem) : Option (Int × zMem) :=
  zb (fX11_isProcess v1 I) (fun r1 => if w32 r1 = 0 then some ((-2), I) else if w32 v2 < 0 then some ((-3), I) else if w32 v2 ≤ 2 then if zin v1 8 then if w32 (I (10, 1, ix v1) 3) = 0 then some ((-5), I) else zb (fX4_readAnswer 1 v1 v2 I) (fun r3 => some (r3.1, r3.2)) else none else some ((-3), I))
def fX11_isTray_b13 (v0 : Int) : Option Int :=
  some 0
def fX11_isTray (v0 : Int) : Option Int :=
  if w32 v0 < 0 then fX11_isTray_b13 v0 else if 4 ≤ w32 v0 then fX11_isTray_b13 v0 else some 1
def fX11_burst_l73 (v1 : Int) (v2 : Int) (v3 : Int) (v4 : Int) (w5 : Int) (s : (Int × zMem)) : Option ((Int × zMem) ⊕ (Int × zMem)) :=
  if w32 w5 ≤ w32 s.1 then some (.inr (s.1, s.2)) else if zin v4 4 then if zin s.1 60 then zlet (zst s.2 (28, 0, 0) (ix s.1) (s.2 (30, 0, ix v4) (ix s.1))) (fun I9 => some (.inl (s.1 + 1, I9))) else none else none
def fX11_burst (v1 : Int) (v2 : Int) (v3 : Int) (v4 : Int) (I : zMem) : Option (Int × zMem) :=
  zb (fX11_isProcess v1 I) (fun r1 => if w32 r1 = 0 then some ((-2), I) else zb (fX11_isVersion v2) (fun r2 => if w32 r2 = 0 then some ((-2), I) else if w32 v3 < 0 then some ((-2), I) else if 1 < w32 v3 then some ((-2), I) else zb (fX11_isTray v4) (fun r3 => if w32 r3 = 0 then some ((-2), I) else zb (fX9_isMissing v4 I) (fun r4 => if w32 r4 = 0 then if zin v4 4 then zlet (I (31, 0, 0) (ix v4)) (fun a6 => if w32 a6 = 0 then some ((-4), I) else zb (zlp (fX11_burst_l73 v1 v2 v3 v4 a6) 5000 (0, I)) (fun x10 => zb (fX6_lay (x10.2 (7, 1, 0) 4) v2 a6 x10.2) (fun r11 => zb (fX0_hear 1 v1 v3 a6 r11) (fun r12 => some (r12.1, r12.2))))) else none else some ((-6), I)))))
def fX11_tick_l27 (v1 : Int) (w2 : Int) (s : (Int × zMem)) : Option ((Int × zMem) ⊕ (Int × zMem)) :=
  if w32 v1 ≤ w32 s.1 then some (.inr (s.1, s.2)) else zb (fX5_passTime 1 (s.2 (7, 1, 0) 2) s.2) (fun r2 => some (.inl (s.1 + 1, r2)))
def fX11_tick (v1 : Int) (I : zMem) : Option (Int × zMem) :=
  if w32 v1 < 1 then some ((-3), I) else if w32 v1 ≤ 60 then zlet (I (9, 1, 0) 6) (fun a1 => zb (zlp (fX11_tick_l27 v1 a1) 5000 (0, I)) (fun x3 => some ((x3.2 (9, 1, 0) 6) - a1, x3.2))) else some ((-3), I)
def fX11_report  (I : zMem) : Option (Int × zMem) :=
  zb (fX7_learn 1 1 I) (fun r1 => some (r1 (8, 1, 0) 6, r1))
def fX11_run_l56 (v1 : Int) (v2 : Int) (v3 : Int) (v4 : Int) (w5 : Int) (s : (Int × zMem)) : Option ((Int × zMem) ⊕ (Int × zMem)) :=
  if w32 v2 ≤ w32 s.1 then some (.inr (s.1, s.2)) else zb (fX0_drawnRound 1 s.1 v3 v4 s.2) (fun r4 => some (.inl (s.1 + 1, r4)))
def fX11_run (v1 : Int) (v2 : Int) (v3 : Int) (v4 : Int) (I : zMem) : Option (Int × zMem) :=
  if w32 v2 < 1 then some ((-3), I) else if 60 < w32 v2 then some ((-3), I) else zb (fX11_isLength v3) (fun r1 => if w32 r1 = 0 then some ((-3), I) else if w32 v4 < 0 then some ((-3), I) else if w32 v4 ≤ 127 then zlet (I (9, 1, 0) 6) (fun a2 => zlet (zst I (5, 0, 0) 5 v1) (fun I3 => zb (zlp (fX11_run_l56 v1 v2 v3 v4 a2) 5000 (0, I3)) (fun x5 => some ((x5.2 (9, 1, 0) 6) - a2, x5.2)))) else some ((-3), I))
def fX11_drain  (I : zMem) : Option (Int × zMem) :=
  zb (fX0_roundsTillClear 1 0 I) (fun r1 => some (r1.1, r1.2))
def fX11_drained (v1 : Int) (I : zMem) : Option (Int × zMem) :=
  if 0 ≤ w32 v1 then zb (fX0_roundsTillClear 1 0 I) (fun r1 => zlet ((r1.2 (9, 0, 0) 6) - (r1.2 (9, 1, 0) 6)) (fun a2 => if w32 a2 ≤ w32 v1 then some ((-1), r1.2) else zb (fX5_givenAgo 0 ((a2 - 1) - v1) r1.2) (fun r3 => some (r3, r1.2)))) else some ((-3), I)
def fX11_worst_b32_83 (v1 : Int) (v2 : Int) (w3 : Int) (w4 : Int) (w5 : Int) (I : zMem) : Option ((Int × Int × Int × zMem) ⊕ (Int × Int × Int × zMem)) :=
  some (.inl (w3, w4, w5 + 1, I))
def fX11_worst_b32_68 (v1 : Int) (v2 : Int) (w3 : Int) (w4 : Int) (w5 : Int) (k0 : Int) (I : zMem) : Option ((Int × Int × Int × zMem) ⊕ (Int × Int × Int × zMem)) :=
  if w32 k0 ≤ w32 w3 then fX11_worst_b32_83 v1 v2 w3 w4 w5 I else fX11_worst_b32_83 v1 v2 k0 w5 w5 I
def fX11_worst_l32 (v1 : Int) (v2 : Int) (s : (Int × Int × Int × zMem)) : Option ((Int × Int × Int × zMem) ⊕ (Int × Int × Int × zMem)) :=
  if w32 (ishl 1 v1) ≤ w32 s.2.2.1 then some (.inr (s.1, s.2.1, s.2.2.1, s.2.2.2)) else zb (fX0_roundsTillClear 1 s.2.2.1 s.2.2.2) (fun r1 => if w32 r1.1 = (-1) then fX11_worst_b32_68 v1 v2 s.1 s.2.1 s.2.2.1 31 r1.2 else fX11_worst_b32_68 v1 v2 s.1 s.2.1 s.2.2.1 r1.1 r1.2)
def fX11_worst (v1 : Int) (v2 : Int) (I : zMem) : Option (Int × zMem) :=
  if w32 v2 < 0 then some ((-2), I) else if w32 v2 ≤ 1 then if w32 v1 < 0 then some ((-3), I) else if w32 v1 ≤ 3 then zb (zlp (fX11_worst_l32 v1 v2) 5000 (0, 0, 0, I)) (fun x2 => if w32 v2 = 1 then some (x2.2.1, x2.2.2.2) else if w32 x2.1 ≤ 30 then some (x2.1, x2.2.2.2) else some ((-1), x2.2.2.2)) else some ((-3), I) else some ((-2), I)
def fX11_process_b37 (v1 : Int) (v2 : Int) (I : zMem) (wp3 : Nat) (k0 : Int) : Option Int :=
  if w32 v2 = 0 then some (I (10, 1, wp3) 0) else if w32 v2 = 1 then if w32 k0 = 0 then if zin (I (10, 1, wp3) 0) 8 then some (I (34, 1, 0) (ix (I (10, 1, wp3) 0))) else none else some (-1) else if w32 v2 = 2 then some (I (10, 1, wp3) 1) else if w32 v2 = 3 then if w32 k0 = 0 then some (I (10, 1, wp3) 2) else some 0 else if w32 v2 = 4 then if w32 (I (10, 1, wp3) 3) = 0 then some 0 else some 1 else if w32 v2 = 5 then if w32 k0 = 0 then if zin ((I (10, 1, wp3) 2) % 4) 4 then some (zver (ix ((I (10, 1, wp3) 2) % 4))) else none else some (-1) else some (-2)
def fX11_process (v1 : Int) (v2 : Int) (I : zMem) : Option Int :=
  zb (fX11_isProcess v1 I) (fun r1 => if w32 r1 = 0 then some (-2) else if zin v1 8 then if w32 (I (10, 1, ix v1) 0) = (-1) then fX11_process_b37 v1 v2 I (ix v1) 1 else fX11_process_b37 v1 v2 I (ix v1) 0 else none)
def fX11_kept (v1 : Int) (v2 : Int) (I : zMem) : Option Int :=
  zb (fX11_isSn v1) (fun r1 => if w32 r1 = 0 then some (-2) else if w32 v2 < 0 then some (-2) else if w32 v2 ≤ 1 then zb (fX7_isKept 1 v1 I) (fun r2 => if w32 r2 = 0 then some (-1) else if w32 v2 = 0 then if zin v1 8 then some (I (34, 1, 0) (ix v1)) else none else if zin v1 8 then some (I (35, 1, 0) (ix v1)) else none) else some (-2))
def fX11_again (v1 : Int) (I : zMem) : Option Int :=
  if 0 ≤ w32 v1 then if w32 (I (8, 1, 0) 6) ≤ w32 v1 then some (-1) else if zin v1 8 then some (I (36, 1, 0) (ix v1)) else none else some (-3)
def fX11_waiting (v1 : Int) (I : zMem) : Option Int :=
  if 0 ≤ w32 v1 then if w32 (I (8, 1, 0) 5) ≤ w32 v1 then some (-1) else if zin v1 20 then some (I (33, 1, 0) (ix v1)) else none else some (-3)
def fX11_next_b54_146 (v1 : Int) (v2 : Int) (wp3 : Nat) (w4 : Int) (w5 : Int) (w6 : Int) (I : zMem) : Option ((Int × Int × Int × zMem) ⊕ (Int × Int × Int × zMem)) :=
  some (.inl (w4, w5, w6 + 1, I))
def fX11_next_l54 (v1 : Int) (v2 : Int) (wp3 : Nat) (s : (Int × Int × Int × zMem)) : Option ((Int × Int × Int × zMem) ⊕ (Int × Int × Int × zMem)) :=
  if 4 ≤ w32 s.2.2.1 then some (.inr (s.1, s.2.1, s.2.2.1, s.2.2.2)) else zlet (zcp s.2.2.2 (37, 1, wp3) 0 (13, 0, 0) 0 39) (fun I4 => zb (fX6_lay (I4 (7, 1, 0) 4) s.2.2.1 v2 I4) (fun r5 => zb (fX6_addTo (13, 0, 0) v2 r5) (fun r6 => zb (fX10_take (13, 0, 0) r6) (fun r7 => zb (fX10_least (17, 0, 0) 256 r7) (fun r8 => if w32 r8 ≤ w32 s.2.1 then fX11_next_b54_146 v1 v2 wp3 s.1 s.2.1 s.2.2.1 r7 else fX11_next_b54_146 v1 v2 wp3 s.2.2.1 r8 s.2.2.1 r7)))))
def fX11_next (v1 : Int) (v2 : Int) (I : zMem) : Option (Int × zMem) :=
  zb (fX11_isProcess v1 I) (fun r1 => if w32 r1 = 0 then some ((-2), I) else zb (fX11_isLength v2) (fun r2 => if w32 r2 = 0 then some ((-3), I) else if zin v1 8 then if w32 (I (10, 1, ix v1) 0) = (-1) then some ((-5), I) else zb (zlp (fX11_next_l54 v1 v2 (ix v1)) 5000 (0, (-1), 0, I)) (fun x9 => some (x9.1, x9.2.2.2)) else none))
def fX11_enough_l129 (v1 : Int) (v2 : Int) (v3 : Int) (wp4 : Nat) (w6 : Int) (s : (Int × zMem)) : Option ((Int × zMem) ⊕ ((Int × zMem) ⊕ (Int × zMem))) :=
  if 8 ≤ w32 s.1 then some (.inr (.inl (s.1, s.2))) else if zin (((s.2 (10, 1, wp4) 2) + s.1) % 4) 4 then zb (fX6_lay (s.2 (7, 1, 0) 4) (zver (ix (((s.2 (10, 1, wp4) 2) + s.1) % 4))) v2 s.2) (fun r7 => if zin w6 2048 then zb (fX0_addClean (14, 0, 0) (r7 (16, 0, 0) (ix w6)) v2 v3 (r7 (7, 1, 0) 5) r7) (fun r9 => zb (fX2_bestWord (14, 0, 0) r9) (fun r10 => if w32 r10.1 = w32 w6 then some (.inr (.inr (s.1 + 1, r10.2))) else some (.inl (s.1 + 1, r10.2)))) else none) else none
def fX11_enough_b112 (v1 : Int) (v2 : Int) (v3 : Int) (wp4 : Nat) (I : zMem) : Option (Int × zMem) :=
  zb (fX7_wordOn 1 1 wp4 I) (fun r5 => zbr (zlp (fX11_enough_l129 v1 v2 v3 wp4 r5) 5000 (0, I)) (fun x11 => some ((-1), x11.2)) (fun z => z))
def fX11_enough (v1 : Int) (v2 : Int) (v3 : Int) (I : zMem) : Option (Int × zMem) :=
  zb (fX11_isProcess v1 I) (fun r1 => if w32 r1 = 0 then some ((-2), I) else zb (fX11_isLength v2) (fun r2 => if w32 r2 = 0 then some ((-3), I) else if w32 v3 < 1 then some ((-3), I) else if w32 v3 ≤ 60 then if zin v1 8 then if w32 (I (10, 1, ix v1) 0) = (-1) then some ((-5), I) else if w32 (I (11, 1, ix v1) 0) = w32 (I (10, 1, ix v1) 1) then zlet (zcp I (41, 1, ix v1) 0 (14, 0, 0) 0 39) (fun I4 => fX11_enough_b112 v1 v2 v3 (ix v1) I4) else zb (fJ7_fill_53178 (14, 0, 0) 39 0 I) (fun r12 => fX11_enough_b112 v1 v2 v3 (ix v1) r12) else none else some ((-3), I)))
def fX11_refuseEarAnd (v1 : Int) (v2 : Int) (I : zMem) : Option Int :=
  zb (fX11_isProcess v1 I) (fun r1 => if w32 r1 = 0 then some (-2) else if w32 v2 = 0 then some (-3) else if zin v1 8 then if w32 (I (11, 1, ix v1) 0) = (-1) then some (-6) else some 0 else none)
def fX11_refuseEar (v1 : Int) (I : zMem) : Option Int :=
  zb (fX11_refuseEarAnd v1 1 I) (fun r1 => some r1)
def fX11_soft (v1 : Int) (v2 : Int) (I : zMem) : Option Int :=
  zb (fX11_refuseEar v1 I) (fun r1 => if w32 r1 = 0 then if w32 v2 < 0 then some (-99000007) else if w32 v2 < 39 then if zin v1 8 then if zin v2 39 then some (I (41, 1, ix v1) (ix v2)) else none else none else some (-99000007) else some ((-99000000) + r1))
def fX11_heard (v1 : Int) (v2 : Int) (I : zMem) : Option Int :=
  zb (fX11_isProcess v1 I) (fun r1 => if w32 r1 = 0 then some (-2) else if zin v1 8 then if w32 v2 = 0 then some (I (11, 1, ix v1) 0) else if w32 v2 = 1 then some (I (11, 1, ix v1) 1) else if w32 v2 = 2 then if w32 (I (11, 1, ix v1) 2) = 0 then some 0 else some 1 else some (-2) else none)
def fX11_best (v1 : Int) (I : zMem) : Option (Int × zMem) :=
  zb (fX11_refuseEar v1 I) (fun r1 => if w32 r1 = 0 then if zin v1 8 then zb (fX2_bestWord (41, 1, ix v1) I) (fun r3 => some (r3.1, r3.2)) else none else some (r1, I))
def fX11_sum_b43_83 (v1 : Int) (v2 : Int) (I : zMem) (wp4 : Nat) (w6 : Int) (k0 : Int) (k1 : Int) : Option ((Int × Int) ⊕ (Int × Int)) :=
  zlet (k1 + k0) (fun a7 => some (.inl (a7, w6 + 1)))
def fX11_sum_l43 (v1 : Int) (v2 : Int) (I : zMem) (wp4 : Nat) (s : (Int × Int)) : Option ((Int × Int) ⊕ (Int × Int)) :=
  if 39 ≤ w32 s.2 then some (.inr (s.1, s.2)) else if zin v2 2048 then zb (fX1_isOne (I (16, 0, 0) (ix v2)) s.2) (fun r5 => if w32 r5 = 0 then if zin s.2 39 then fX11_sum_b43_83 v1 v2 I wp4 s.2 (-(I (41, 1, wp4) (ix s.2))) s.1 else none else if zin s.2 39 then fX11_sum_b43_83 v1 v2 I wp4 s.2 (I (41, 1, wp4) (ix s.2)) s.1 else none) else none
def fX11_sum (v1 : Int) (v2 : Int) (I : zMem) : Option Int :=
  zb (fX11_isWord v2) (fun r1 => zb (fX11_refuseEarAnd v1 r1 I) (fun r2 => if w32 r2 = 0 then if zin v1 8 then zb (zlp (fX11_sum_l43 v1 v2 I (ix v1)) 5000 (0, 0)) (fun x9 => some x9.1) else none else some ((-99000000) + r2)))
def fX11_margin (v1 : Int) (I : zMem) : Option (Int × zMem) :=
  zb (fX11_refuseEar v1 I) (fun r1 => if w32 r1 = 0 then if zin v1 8 then zb (fX2_sumAll (41, 1, ix v1) I) (fun r3 => zb (fX2_greatestBut (-1) r3) (fun r4 => if zin r4 2048 then zb (fX2_greatestBut r4 r3) (fun r6 => if zin r6 2048 then some ((r3 (23, 0, 0) (ix r4)) - (r3 (23, 0, 0) (ix r6)), r3) else none) else none)) else none else some (r1, I))
def fX11_second (v1 : Int) (I : zMem) : Option (Int × zMem) :=
  zb (fX11_refuseEar v1 I) (fun r1 => if w32 r1 = 0 then if zin v1 8 then zb (fX2_sumAll (41, 1, ix v1) I) (fun r3 => zb (fX2_greatestBut (-1) r3) (fun r4 => zb (fX2_greatestBut r4 r3) (fun r5 => some (r5, r3)))) else none else some (r1, I))
def fX11_lean_b17 (v1 : Int) (v2 : Int) (k0 : Int) (k1 : Int) (I : zMem) : Option (Int × zMem) :=
  zb (fX11_refuseEarAnd k1 k0 I) (fun r1 => if w32 r1 = 0 then if zin v1 8 then zb (fX2_sumAll (41, 1, ix v1) I) (fun r3 => zlet (10 - v2) (fun a4 => zb (fX2_greatestWith a4 1 r3) (fun r5 => zb (fX2_greatestWith a4 0 r3) (fun r6 => some (r5 - r6, r3))))) else none else some ((-99000000) + r1, I))
def fX11_lean_b16 (v1 : Int) (v2 : Int) (k0 : Int) (I : zMem) : Option (Int × zMem) :=
  fX11_lean_b17 v1 v2 0 k0 I
def fX11_lean (v1 : Int) (v2 : Int) (I : zMem) : Option (Int × zMem) :=
  if w32 v2 < 0 then fX11_lean_b16 v1 v2 v1 I else if 11 ≤ w32 v2 then fX11_lean_b16 v1 v2 v1 I else fX11_lean_b17 v1 v2 1 v1 I
def fX11_ties_b70_108 (v1 : Int) (v2 : Int) (w4 : Int) (I : zMem) (w5 : Int) (w6 : Int) : Option ((Int × Int) ⊕ (Int × Int)) :=
  some (.inl (w5, w6 + 1))
def fX11_ties_b70_105 (v1 : Int) (v2 : Int) (w4 : Int) (I : zMem) (w5 : Int) (w6 : Int) : Option ((Int × Int) ⊕ (Int × Int)) :=
  fX11_ties_b70_108 v1 v2 w4 I (w5 + 1) w6
def fX11_ties_l70 (v1 : Int) (v2 : Int) (w4 : Int) (I : zMem) (s : (Int × Int)) : Option ((Int × Int) ⊕ (Int × Int)) :=
  if 2048 ≤ w32 s.2 then some (.inr (s.1, s.2)) else if zin s.2 2048 then if w32 (I (23, 0, 0) (ix s.2)) = w32 w4 then if w32 v2 = 0 then fX11_ties_b70_105 v1 v2 w4 I s.1 s.2 else zb (fX1_isWhole s.2) (fun r8 => if w32 r8 = 0 then fX11_ties_b70_108 v1 v2 w4 I s.1 s.2 else fX11_ties_b70_105 v1 v2 w4 I s.1 s.2) else fX11_ties_b70_108 v1 v2 w4 I s.1 s.2 else none
def fX11_ties (v1 : Int) (v2 : Int) (I : zMem) : Option (Int × zMem) :=
  if w32 v2 < 0 then some ((-2), I) else if w32 v2 ≤ 1 then zb (fX11_refuseEar v1 I) (fun r1 => if w32 r1 = 0 then if zin v1 8 then zb (fX2_sumAll (41, 1, ix v1) I) (fun r3 => zb (fX2_greatestBut (-1) r3) (fun r4 => if zin r4 2048 then zlet (r3 (23, 0, 0) (ix r4)) (fun a6 => zb (zlp (fX11_ties_l70 v1 v2 a6 r3) 5000 (0, 0)) (fun x9 => some (x9.1, r3))) else none)) else none else some (r1, I)) else some ((-2), I)
def fX11_rank_b55_81 (v1 : Int) (v2 : Int) (w4 : Int) (I : zMem) (w5 : Int) (w6 : Int) : Option ((Int × Int) ⊕ (Int × Int)) :=
  some (.inl (w5, w6 + 1))
def fX11_rank_l55 (v1 : Int) (v2 : Int) (w4 : Int) (I : zMem) (s : (Int × Int)) : Option ((Int × Int) ⊕ (Int × Int)) :=
  if 2048 ≤ w32 s.2 then some (.inr (s.1, s.2)) else if zin s.2 2048 then if w32 (I (23, 0, 0) (ix s.2)) ≤ w32 w4 then fX11_rank_b55_81 v1 v2 w4 I s.1 s.2 else fX11_rank_b55_81 v1 v2 w4 I (s.1 + 1) s.2 else none
def fX11_rank (v1 : Int) (v2 : Int) (I : zMem) : Option (Int × zMem) :=
  zb (fX11_isWord v2) (fun r1 => zb (fX11_refuseEarAnd v1 r1 I) (fun r2 => if w32 r2 = 0 then if zin v1 8 then zb (fX2_sumAll (41, 1, ix v1) I) (fun r4 => if zin v2 2048 then zlet (r4 (23, 0, 0) (ix v2)) (fun a6 => zb (zlp (fX11_rank_l55 v1 v2 a6 r4) 5000 (0, 0)) (fun x8 => some (x8.1, r4))) else none) else none else some (r2, I)))
def fX11_keyAt_b25_49 (v1 : Int) (I : zMem) (w2 : Int) (w4 : Int) (w5 : Int) (w7 : Int) (w8 : Int) : Option ((Int × Int) ⊕ (Int × Int)) :=
  some (.inl (w7, w8 + 1))
def fX11_keyAt_l25 (v1 : Int) (I : zMem) (w2 : Int) (w4 : Int) (w5 : Int) (s : (Int × Int)) : Option ((Int × Int) ⊕ (Int × Int)) :=
  if 256 ≤ w32 s.2 then some (.inr (s.1, s.2)) else if zin s.2 256 then if w64 (I (15, 0, 0) (ix s.2)) < w64 w5 then fX11_keyAt_b25_49 v1 I w2 w4 w5 s.1 s.2 else fX11_keyAt_b25_49 v1 I w2 w4 w5 (s.1 + 1) s.2 else none
def fX11_keyAt_b6_64 (v1 : Int) (I : zMem) (w2 : Int) (w4 : Int) : Option ((Int × Int) ⊕ (Int × Int)) :=
  some (.inl (w2, w4 + (-1)))
def fX11_keyAt_l6 (v1 : Int) (I : zMem) (s : (Int × Int)) : Option ((Int × Int) ⊕ (Int × Int)) :=
  if w32 s.2 < 0 then some (.inr (s.1, s.2)) else zlet (lor s.1 (lshl 1 s.2)) (fun a1 => zb (zlp (fX11_keyAt_l25 v1 I s.1 s.2 a1) 5000 (0, 0)) (fun x3 => if w32 x3.1 ≤ w32 v1 then fX11_keyAt_b6_64 v1 I s.1 s.2 else fX11_keyAt_b6_64 v1 I a1 s.2))
def fX11_keyAt (v1 : Int) (I : zMem) : Option Int :=
  zb (zlp (fX11_keyAt_l6 v1 I) 5000 (0, 32)) (fun x4 => some x4.1)
def fX11_listed_l53 (v1 : Int) (v2 : Int) (s : (Int × zMem)) : Option ((Int × zMem) ⊕ (Int × zMem)) :=
  if 256 ≤ w32 s.1 then some (.inr (s.1, s.2)) else zb (fX1_wholeWord s.1) (fun r4 => if zin r4 2048 then if zin s.1 256 then zlet (zst s.2 (15, 0, 0) (ix s.1) ((((w32 (s.2 (23, 0, 0) (ix r4))) + 1000000) * 2048) + (w32 (2047 - r4)))) (fun I7 => some (.inl (s.1 + 1, I7))) else none else none)
def fX11_listed_b18 (v1 : Int) (v2 : Int) (k0 : Int) (k1 : Int) (I : zMem) : Option (Int × zMem) :=
  zb (fX11_refuseEarAnd k1 k0 I) (fun r1 => if w32 r1 = 0 then if zin v1 8 then zb (fX2_sumAll (41, 1, ix v1) I) (fun r3 => zb (zlp (fX11_listed_l53 v1 v2) 5000 (0, r3)) (fun x8 => zb (fX11_keyAt v2 x8.2) (fun r9 => some (2047 - (land r9 2047), x8.2)))) else none else some (r1, I))
def fX11_listed_b17 (v1 : Int) (v2 : Int) (k0 : Int) (I : zMem) : Option (Int × zMem) :=
  fX11_listed_b18 v1 v2 0 k0 I
def fX11_listed (v1 : Int) (v2 : Int) (I : zMem) : Option (Int × zMem) :=
  if w32 v2 < 0 then fX11_listed_b17 v1 v2 v1 I else if 256 ≤ w32 v2 then fX11_listed_b17 v1 v2 v1 I else fX11_listed_b18 v1 v2 1 v1 I
def fX11_unlikeSigns_b5_41 (q0 : zPl) (v1 : Int) (I : zMem) (w3 : Int) (w4 : Int) : Option ((Int × Int) ⊕ (Int × Int)) :=
  some (.inl (w3, w4 + 1))
def fX11_unlikeSigns_b5_38 (q0 : zPl) (v1 : Int) (I : zMem) (w3 : Int) (w4 : Int) : Option ((Int × Int) ⊕ (Int × Int)) :=
  fX11_unlikeSigns_b5_41 q0 v1 I (w3 + 1) w4
def fX11_unlikeSigns_l5 (q0 : zPl) (v1 : Int) (I : zMem) (s : (Int × Int)) : Option ((Int × Int) ⊕ (Int × Int)) :=
  if 39 ≤ w32 s.2 then some (.inr (s.1, s.2)) else zb (fX1_isOne v1 s.2) (fun r1 => if w32 r1 = 0 then if zin s.2 39 then if w32 (I q0 (ix s.2)) ≤ 0 then fX11_unlikeSigns_b5_41 q0 v1 I s.1 s.2 else fX11_unlikeSigns_b5_38 q0 v1 I s.1 s.2 else none else if zin s.2 39 then if 0 ≤ w32 (I q0 (ix s.2)) then fX11_unlikeSigns_b5_41 q0 v1 I s.1 s.2 else fX11_unlikeSigns_b5_38 q0 v1 I s.1 s.2 else none)
def fX11_unlikeSigns (q0 : zPl) (v1 : Int) (I : zMem) : Option Int :=
  zb (zlp (fX11_unlikeSigns_l5 q0 v1 I) 5000 (0, 0)) (fun x4 => some x4.1)
def fX11_against (v1 : Int) (v2 : Int) (I : zMem) : Option Int :=
  zb (fX11_isWord v2) (fun r1 => zb (fX11_refuseEarAnd v1 r1 I) (fun r2 => if w32 r2 = 0 then if zin v1 8 then if zin v2 2048 then zb (fX11_unlikeSigns (41, 1, ix v1) (I (16, 0, 0) (ix v2)) I) (fun r5 => some r5) else none else none else some r2))
def fX11_known_b47_73 (v1 : Int) (v2 : Int) (wp4 : Nat) (w5 : Int) (w6 : Int) (k0 : Int) (k1 : Int) (I : zMem) : Option ((Int × Int × zMem) ⊕ (Int × Int × zMem)) :=
  if zin k1 39 then zlet (zst I (13, 0, 0) (ix k1) k0) (fun I5 => if zin w6 39 then zlet (w5 + (I5 (13, 0, 0) (ix w6))) (fun a7 => some (.inl (a7, w6 + 1, I5))) else none) else none
def fX11_known_l47 (v1 : Int) (v2 : Int) (wp4 : Nat) (s : (Int × Int × zMem)) : Option ((Int × Int × zMem) ⊕ (Int × Int × zMem)) :=
  if 39 ≤ w32 s.2.1 then some (.inr (s.1, s.2.1, s.2.2)) else if zin s.2.1 39 then if w32 (s.2.2 (41, 1, wp4) (ix s.2.1)) = 0 then fX11_known_b47_73 v1 v2 wp4 s.1 s.2.1 0 s.2.1 s.2.2 else fX11_known_b47_73 v1 v2 wp4 s.1 s.2.1 1 s.2.1 s.2.2 else none
def fX11_known (v1 : Int) (v2 : Int) (I : zMem) : Option (Int × zMem) :=
  if w32 v2 < 0 then some ((-2), I) else if w32 v2 ≤ 1 then zb (fX11_refuseEar v1 I) (fun r1 => if w32 r1 = 0 then if zin v1 8 then zb (zlp (fX11_known_l47 v1 v2 (ix v1)) 5000 (0, 0, I)) (fun x8 => if w32 v2 = 0 then some (x8.1, x8.2.2) else zb (fX10_take (13, 0, 0) x8.2.2) (fun r9 => zb (fX10_least (17, 0, 0) 256 r9) (fun r10 => some (r10, r9)))) else none else some (r1, I)) else some ((-2), I)
def fX11_wrong (v1 : Int) (I : zMem) : Option (Int × zMem) :=
  zb (fX11_refuseEar v1 I) (fun r1 => if w32 r1 = 0 then if zin v1 8 then zb (fX2_bestWord (41, 1, ix v1) I) (fun r3 => if zin r3.1 2048 then zb (fX11_unlikeSigns (41, 1, ix v1) (r3.2 (16, 0, 0) (ix r3.1)) r3.2) (fun r5 => some (r5, r3.2)) else none) else none else some (r1, I))
def fX11_stored (v1 : Int) (I : zMem) : Option Int :=
  zb (fX11_isSn v1) (fun r1 => if w32 r1 = 0 then some (-7) else if zin v1 8 then zlet (I (39, 1, 0) (ix v1)) (fun a3 => if w32 a3 = (-1) then some (-6) else some a3) else none)
def fX11_gaps (v1 : Int) (I : zMem) : Option Int :=
  zb (fX5_farthestStored 1 I) (fun r1 => if w32 v1 = 0 then if w32 r1 = (-1) then some 0 else zb (fX5_howManyStored 1 I) (fun r2 => some ((r1 + 1) - r2)) else if w32 v1 = 1 then zb (fX5_firstStored 1 I) (fun r3 => some r3) else if w32 v1 = 2 then some (r1 + 1) else some (-2))
def fX11_given (v1 : Int) (I : zMem) : Option Int :=
  if 0 ≤ w32 v1 then zb (fX5_givenAgo 1 v1 I) (fun r1 => some r1) else some (-3)
def fX11_would (v1 : Int) (v2 : Int) (I : zMem) : Option Int :=
  zb (fX11_isSn v1) (fun r1 => if w32 r1 = 0 then some (-2) else if w32 v2 < 0 then some (-2) else if w32 v2 ≤ 1 then zb (fX5_fateOf 1 v1 (I (7, 1, 0) 1) I) (fun r2 => if w32 v2 = 0 then some r2 else if w32 r2 = 0 then zb (fX5_readyBehindExpected 1 I) (fun r3 => some (1 + r3)) else some 0) else some (-2))
def fJ7_fill_031fb_l5 (q0 : zPl) (n0 : Nat) (v1 : Int) (w3 : Int) (s : (Int × zMem)) : Option ((Int × zMem) ⊕ (Int × zMem)) :=
  if w32 w3 ≤ w32 s.1 then some (.inr (s.1, s.2)) else if zin s.1 n0 then zlet (zst s.2 q0 (ix s.1) (w8 v1)) (fun I3 => some (.inl (s.1 + 1, I3))) else none
def fJ7_fill_031fb (q0 : zPl) (n0 : Nat) (v1 : Int) (I : zMem) : Option zMem :=
  zlet ((n0 : Int)) (fun a1 => zb (zlp (fJ7_fill_031fb_l5 q0 n0 v1 a1) 5000 (0, I)) (fun x4 => some x4.2))
def fX11_tray (v1 : Int) (v2 : Int) (I : zMem) : Option (Int × zMem) :=
  zb (fX11_isTray v1) (fun r1 => if w32 r1 = 0 then some ((-2), I) else if w32 v2 < 0 then some ((-3), I) else if w32 v2 ≤ 60 then if zin v1 4 then zlet (zst I (31, 0, 0) (ix v1) v2) (fun I3 => zb (fJ7_fill_031fb (30, 0, ix v1) 60 0 I3) (fun r4 => some (0, r4))) else none else some ((-3), I))
def fX11_write (v1 : Int) (v2 : Int) (v3 : Int) (I : zMem) : Option (Int × zMem) :=
  zb (fX11_isTray v1) (fun r1 => if w32 r1 = 0 then some ((-1002), I) else zb (fX9_isMissing v1 I) (fun r2 => if w32 r2 = 0 then if w32 v2 < 0 then some ((-1007), I) else if zin v1 4 then if w32 v2 < w32 (I (31, 0, 0) (ix v1)) then if zin v2 60 then zlet (zst I (30, 0, ix v1) (ix v2) (w8 (w8 v3))) (fun I5 => some (I5 (30, 0, ix v1) (ix v2), I5)) else none else some ((-1007), I) else none else some ((-1006), I)))
def fX11_lists_l69 (v1 : Int) (v2 : Int) (w3 : Int) (s : (Int × zMem)) : Option ((Int × zMem) ⊕ (Int × zMem)) :=
  if w32 w3 ≤ w32 s.1 then some (.inr (s.1, s.2)) else if zin v1 4 then if zin v2 8 then if zin s.1 39 then zb (fX0_within (s.2 (41, 1, ix v2) (ix s.1)) 127) (fun r10 => if zin s.1 60 then zlet (zst s.2 (30, 0, ix v1) (ix s.1) (w8 (w8 r10))) (fun I12 => some (.inl (s.1 + 1, I12))) else none) else none else none else none
def fX11_lists (v1 : Int) (v2 : Int) (I : zMem) : Option (Int × zMem) :=
  zb (fX11_isTray v1) (fun r1 => if w32 r1 = 0 then some ((-2), I) else zb (fX11_isProcess v2 I) (fun r2 => if w32 r2 = 0 then some ((-2), I) else zb (fX9_isMissing v1 I) (fun r3 => if w32 r3 = 0 then if zin v2 8 then if w32 (I (11, 1, ix v2) 0) = (-1) then some ((-6), I) else if zin v1 4 then zlet (zmin 39 (I (31, 0, 0) (ix v1))) (fun a6 => zb (zlp (fX11_lists_l69 v1 v2 a6) 5000 (0, I)) (fun x13 => some (a6, x13.2))) else none else none else some ((-6), I))))
def fX11_count_b174 (v1 : Int) (I : zMem) : Option Int :=
  zb (fX5_tell 1 v1 I) (fun r1 => some r1)
def fX11_count (v1 : Int) (I : zMem) : Option Int :=
  if w32 v1 = 0 then some (I (8, 1, 0) 5) else if w32 v1 = 1 then some (I (8, 1, 0) 7) else if w32 v1 = 2 then some (I (8, 1, 0) 8) else if w32 v1 = 3 then some (I (8, 1, 0) 6) else if w32 v1 = 12 then some (I (8, 1, 0) 9) else if w32 v1 = 13 then some (I (8, 1, 0) 10) else if w32 v1 = 15 then some (I (7, 1, 0) 0) else if w32 v1 = 16 then some (I (7, 1, 0) 1) else if w32 v1 = 17 then some (I (7, 1, 0) 4) else if w32 v1 = 18 then some (I (7, 1, 0) 5) else if w32 v1 = 19 then some (I (7, 1, 0) 6) else fX11_count_b174 v1 I
def fX12_within_b17 (v0 : Int) (v2 : Int) (v4 : Int) : Option Int :=
  some 0
def fX12_within (v0 : Int) (v2 : Int) (v4 : Int) : Option Int :=
  if w64 v0 < w64 v2 then fX12_within_b17 v0 v2 v4 else if w64 v4 < w64 v0 then fX12_within_b17 v0 v2 v4 else some 1
def fX12_begins_l3 (v1 : Int) (v2 : Int) (v3 : Int) (v4 : Int) (v5 : Int) (s : (Int × zMem)) : Option ((Int × zMem) ⊕ (Int × zMem)) :=
  if 1033 ≤ w32 s.1 then some (.inr (s.1, s.2)) else if zin s.1 3099 then zlet (zst s.2 (51, 0, 0) (ix s.1) 0) (fun I2 => some (.inl (s.1 + 1, I2))) else none
def fX12_begins_l99 (v1 : Int) (v2 : Int) (v3 : Int) (v4 : Int) (v5 : Int) (s : (Int × zMem)) : Option ((Int × zMem) ⊕ (Int × zMem)) :=
  if 8 ≤ w32 s.1 then some (.inr (s.1, s.2)) else if zin (39 + s.1) 3099 then zlet (zst s.2 (51, 0, 0) (ix (39 + s.1)) (-1)) (fun I14 => if zin (56 + s.1) 3099 then zlet (zst I14 (51, 0, 0) (ix (56 + s.1)) (-1)) (fun I16 => if zin ((329 + (88 * s.1)) + 0) 3099 then zlet (zst I16 (51, 0, 0) (ix ((329 + (88 * s.1)) + 0)) (-1)) (fun I18 => if zin ((329 + (88 * s.1)) + 6) 3099 then zlet (zst I18 (51, 0, 0) (ix ((329 + (88 * s.1)) + 6)) (-1)) (fun I20 => some (.inl (s.1 + 1, I20))) else none) else none) else none) else none
def fX12_begins (v1 : Int) (v2 : Int) (v3 : Int) (v4 : Int) (v5 : Int) (I : zMem) : Option zMem :=
  zb (zlp (fX12_begins_l3 v1 v2 v3 v4 v5) 5000 (0, I)) (fun x3 => zlet (zst x3.2 (51, 0, 0) 0 v1) (fun I4 => zlet (zst I4 (51, 0, 0) 1 v2) (fun I5 => zlet (zst I5 (51, 0, 0) 2 v3) (fun I6 => zlet (zst I6 (51, 0, 0) 3 v4) (fun I7 => zlet (zst I7 (51, 0, 0) 4 v5) (fun I8 => zlet (zst I8 (51, 0, 0) 5 500) (fun I9 => zlet (zst I9 (51, 0, 0) 6 20) (fun I10 => zlet (zst I10 (51, 0, 0) 64 (-1)) (fun I11 => zlet (zst I11 (51, 0, 0) 65 (-1)) (fun I12 => zb (zlp (fX12_begins_l99 v1 v2 v3 v4 v5) 5000 (0, I12)) (fun x21 => some x21.2)))))))))))
def fX12_bitAt_b10 (v0 : Int) (v1 : Int) : Option Int :=
  some 0
def fX12_bitAt (v0 : Int) (v1 : Int) : Option Int :=
  if w32 v1 < 0 then fX12_bitAt_b10 v0 v1 else if w32 v1 ≤ 10 then some ((ishr v0 (10 - v1)) % 2) else fX12_bitAt_b10 v0 v1
def fX12_codeBit (v0 : Int) (v1 : Int) : Option Int :=
  zlet (irem v1 13) (fun a1 => zb (fX12_bitAt v0 a1) (fun r2 => zb (fX12_bitAt v0 (a1 - 2)) (fun r3 => if 13 ≤ w32 v1 then if 26 ≤ w32 v1 then some (ixor r2 r3) else zb (fX12_bitAt v0 (a1 - 1)) (fun r4 => some (ixor (ixor r2 r4) r3)) else some r2)))
def fX12_codeOf_l4 (v0 : Int) (s : (Int × Int)) : Option ((Int × Int) ⊕ (Int × Int)) :=
  if 39 ≤ w32 s.2 then some (.inr (s.1, s.2)) else zb (fX12_codeBit v0 s.2) (fun r1 => zlet (lor s.1 (lshl (w32 r1) s.2)) (fun a2 => some (.inl (a2, s.2 + 1))))
def fX12_codeOf (v0 : Int) : Option Int :=
  zb (zlp (fX12_codeOf_l4 v0) 5000 (0, 0)) (fun x3 => some x3.1)
def fX12_restOf_b5_28 (v0 : Int) (w1 : Int) (w2 : Int) : Option ((Int × Int) ⊕ (Int × Int)) :=
  some (.inl (w1, w2 + (-1)))
def fX12_restOf_l5 (v0 : Int) (s : (Int × Int)) : Option ((Int × Int) ⊕ (Int × Int)) :=
  if w32 s.2 < 3 then some (.inr (s.1, s.2)) else if (ishr s.1 s.2) % 2 = 1 then zlet (ixor s.1 (ishl 11 (s.2 - 3))) (fun a1 => fX12_restOf_b5_28 v0 a1 s.2) else fX12_restOf_b5_28 v0 s.1 s.2
def fX12_restOf (v0 : Int) : Option Int :=
  zb (zlp (fX12_restOf_l5 v0) 5000 (v0, 10)) (fun x2 => some x2.1)
def fX12_isWhole (v0 : Int) : Option Int :=
  zb (fX12_restOf v0) (fun r1 => if w32 r1 = 5 then some 1 else some 0)
def fX12_wordOf (v0 : Int) (v1 : Int) : Option Int :=
  zlet (ior (ishl v0 8) (ishl v1 3)) (fun a1 => zb (fX12_restOf a1) (fun r2 => some (ior a1 (ixor r2 5))))
def fX12_readAt_b25 (v0 : Int) (k0 : Int) : Option Int :=
  some ((4 * (irem v0 4)) + k0)
def fX12_readAt (v0 : Int) : Option Int :=
  if w32 (idiv v0 4) = 1 then fX12_readAt_b25 v0 2 else if w32 (idiv v0 4) = 2 then fX12_readAt_b25 v0 1 else fX12_readAt_b25 v0 (idiv v0 4)
def fX12_laysRing_b2_75 (w1 : Int) (k0 : Int) (k1 : Int) (I : zMem) : Option ((Int × zMem) ⊕ (Int × zMem)) :=
  if zin k1 48 then zlet (zst I (55, 0, 0) (ix k1) k0) (fun I8 => some (.inl (w1 + 1, I8))) else none
def fX12_laysRing_b2_52 (w1 : Int) (w2 : Int) (k0 : Int) (k1 : Int) (I : zMem) : Option ((Int × zMem) ⊕ (Int × zMem)) :=
  if zin k1 48 then zlet (zst I (55, 0, 0) (ix k1) k0) (fun I6 => if 0 ≤ w32 w2 then fX12_laysRing_b2_75 w1 (26 + w2) (17 + (2 * w1)) I6 else fX12_laysRing_b2_75 w1 (-1) (17 + (2 * w1)) I6) else none
def fX12_laysRing_b2_29 (w1 : Int) (w2 : Int) (k0 : Int) (k1 : Int) (I : zMem) : Option ((Int × zMem) ⊕ (Int × zMem)) :=
  if zin k1 48 then zlet (zst I (55, 0, 0) (ix k1) k0) (fun I4 => if 0 ≤ w32 w2 then fX12_laysRing_b2_52 w1 w2 (13 + w2) (16 + (2 * w1)) I4 else fX12_laysRing_b2_52 w1 w2 (-1) (16 + (2 * w1)) I4) else none
def fX12_laysRing_l2  (s : (Int × zMem)) : Option ((Int × zMem) ⊕ (Int × zMem)) :=
  if 16 ≤ w32 s.1 then some (.inr (s.1, s.2)) else zb (fX12_readAt s.1) (fun r1 => zlet (r1 - 3) (fun a2 => if 0 ≤ w32 a2 then fX12_laysRing_b2_29 s.1 a2 a2 s.1 s.2 else fX12_laysRing_b2_29 s.1 a2 (-1) s.1 s.2))
def fX12_laysRing  (I : zMem) : Option zMem :=
  zb (zlp (fX12_laysRing_l2 ) 5000 (0, I)) (fun x9 => some x9.2)
def fX12_laysSending_b14_65 (v1 : Int) (v2 : Int) (w4 : Int) (k0 : Int) (I : zMem) : Option ((Int × Int × zMem) ⊕ (Int × Int × zMem)) :=
  some (.inl (k0, w4, I))
def fX12_laysSending_b14_46 (v1 : Int) (v2 : Int) (w3 : Int) (w4 : Int) (I : zMem) : Option ((Int × Int × zMem) ⊕ (Int × Int × zMem)) :=
  if w32 (w3 + 1) = w32 (I (51, 0, 0) 4) then fX12_laysSending_b14_65 v1 v2 w4 0 I else fX12_laysSending_b14_65 v1 v2 w4 (w3 + 1) I
def fX12_laysSending_l14 (v1 : Int) (v2 : Int) (s : (Int × Int × zMem)) : Option ((Int × Int × zMem) ⊕ (Int × Int × zMem)) :=
  if w32 v2 ≤ w32 s.2.1 then some (.inr (s.1, s.2.1, s.2.2)) else if zin s.1 48 then if w32 (s.2.2 (55, 0, 0) (ix s.1)) = (-1) then fX12_laysSending_b14_46 v1 v2 s.1 s.2.1 s.2.2 else if zin s.2.1 60 then zlet (zst s.2.2 (56, 0, 0) (ix s.2.1) (s.2.2 (55, 0, 0) (ix s.1))) (fun I4 => fX12_laysSending_b14_46 v1 v2 s.1 (s.2.1 + 1) I4) else none else none
def fX12_laysSending (v1 : Int) (v2 : Int) (I : zMem) : Option zMem :=
  zlet (idiv (v1 * (I (51, 0, 0) 4)) 4) (fun a1 => zb (zlp (fX12_laysSending_l14 v1 v2) 5000 (a1, 0, I)) (fun x5 => some x5.2.2))
def fX12_isWord (v0 : Int) : Option Int :=
  zb (fX12_within (w32 v0) 0 2047) (fun r1 => if zbo r1 then some r1 else none)
def fX12_isLength (v0 : Int) : Option Int :=
  zb (fX12_within (w32 v0) 1 60) (fun r1 => if zbo r1 then some r1 else none)
def fX12_isSet (v0 : Int) : Option Int :=
  zb (fX12_within (w32 v0) 0 15) (fun r1 => if zbo r1 then some r1 else none)
def fX12_clearsOften_l2  (s : (Int × zMem)) : Option ((Int × zMem) ⊕ (Int × zMem)) :=
  if 39 ≤ w32 s.1 then some (.inr (s.1, s.2)) else if zin s.1 39 then zlet (zst s.2 (57, 0, 0) (ix s.1) 0) (fun I2 => some (.inl (s.1 + 1, I2))) else none
def fX12_clearsOften  (I : zMem) : Option zMem :=
  zb (zlp (fX12_clearsOften_l2 ) 5000 (0, I)) (fun x3 => some x3.2)
def fX12_addsOften_l8 (v1 : Int) (v2 : Int) (s : (Int × zMem)) : Option ((Int × zMem) ⊕ (Int × zMem)) :=
  if w32 v2 ≤ w32 s.1 then some (.inr (s.1, s.2)) else if zin s.1 60 then if zin (s.2 (56, 0, 0) (ix s.1)) 39 then zlet (zst s.2 (57, 0, 0) (ix (s.2 (56, 0, 0) (ix s.1))) ((s.2 (57, 0, 0) (ix (s.2 (56, 0, 0) (ix s.1)))) + 1)) (fun I4 => some (.inl (s.1 + 1, I4))) else none else none
def fX12_addsOften (v1 : Int) (v2 : Int) (I : zMem) : Option zMem :=
  zb (fX12_laysSending v1 v2 I) (fun r1 => zb (zlp (fX12_addsOften_l8 v1 v2) 5000 (0, r1)) (fun x5 => some x5.2))
def fX12_laysOften_b6_26 (v1 : Int) (v2 : Int) (w3 : Int) (I : zMem) : Option ((Int × zMem) ⊕ (Int × zMem)) :=
  some (.inl (w3 + 1, I))
def fX12_laysOften_l6 (v1 : Int) (v2 : Int) (s : (Int × zMem)) : Option ((Int × zMem) ⊕ (Int × zMem)) :=
  if 4 ≤ w32 s.1 then some (.inr (s.1, s.2)) else if (ishr v1 s.1) % 2 = 1 then zb (fX12_addsOften s.1 v2 s.2) (fun r2 => fX12_laysOften_b6_26 v1 v2 s.1 r2) else fX12_laysOften_b6_26 v1 v2 s.1 s.2
def fX12_laysOften (v1 : Int) (v2 : Int) (I : zMem) : Option zMem :=
  zb (fX12_clearsOften I) (fun r1 => zb (zlp (fX12_laysOften_l6 v1 v2) 5000 (0, r1)) (fun x3 => some x3.2))
def fX12_apart_b20_50 (v1 : Int) (v2 : Int) (I : zMem) (w3 : Int) (w5 : Int) (w6 : Int) : Option ((Int × Int) ⊕ (Int × Int)) :=
  some (.inl (w5, w6 + 1))
def fX12_apart_l20 (v1 : Int) (v2 : Int) (I : zMem) (w3 : Int) (s : (Int × Int)) : Option ((Int × Int) ⊕ (Int × Int)) :=
  if 39 ≤ w32 s.2 then some (.inr (s.1, s.2)) else if w64 (land (lshr w3 s.2) 1) = 1 then if zin s.2 39 then zlet (s.1 + (I (57, 0, 0) (ix s.2))) (fun a5 => fX12_apart_b20_50 v1 v2 I w3 a5 s.2) else none else fX12_apart_b20_50 v1 v2 I w3 s.1 s.2
def fX12_apart (v1 : Int) (v2 : Int) (I : zMem) : Option Int :=
  if zin v1 2048 then if zin v2 2048 then zlet (lxor (I (54, 0, 0) (ix v1)) (I (54, 0, 0) (ix v2))) (fun a3 => zb (zlp (fX12_apart_l20 v1 v2 I a3) 5000 (0, 0)) (fun x6 => some x6.1)) else none else none
def fX12_leastApart_b20_71 (v1 : Int) (I : zMem) (w2 : Int) (w3 : Int) (w4 : Int) : Option ((Int × Int) ⊕ (Int × Int)) :=
  some (.inl (w3, w4 + 1))
def fX12_leastApart_b20_70 (v1 : Int) (I : zMem) (w2 : Int) (w4 : Int) (k0 : Int) : Option ((Int × Int) ⊕ (Int × Int)) :=
  fX12_leastApart_b20_71 v1 I w2 k0 w4
def fX12_leastApart_b20_49 (v1 : Int) (I : zMem) (w2 : Int) (w3 : Int) (w4 : Int) : Option ((Int × Int) ⊕ (Int × Int)) :=
  zb (fX12_apart w4 w2 I) (fun r1 => if w32 w3 ≤ w32 r1 then fX12_leastApart_b20_70 v1 I w2 w4 w3 else fX12_leastApart_b20_70 v1 I w2 w4 r1)
def fX12_leastApart_l20 (v1 : Int) (I : zMem) (w2 : Int) (s : (Int × Int)) : Option ((Int × Int) ⊕ (Int × Int)) :=
  if 2048 ≤ w32 s.2 then some (.inr (s.1, s.2)) else if w32 s.2 = w32 w2 then fX12_leastApart_b20_71 v1 I w2 s.1 s.2 else if w32 v1 = 0 then fX12_leastApart_b20_49 v1 I w2 s.1 s.2 else zb (fX12_isWhole s.2) (fun r2 => if w32 r2 = 0 then fX12_leastApart_b20_71 v1 I w2 s.1 s.2 else fX12_leastApart_b20_49 v1 I w2 s.1 s.2)
def fX12_leastApart_b13 (v1 : Int) (I : zMem) (k0 : Int) : Option Int :=
  zb (zlp (fX12_leastApart_l20 v1 I k0) 5000 (1048576, 0)) (fun x3 => some x3.1)
def fX12_leastApart (v1 : Int) (I : zMem) : Option Int :=
  if w32 v1 = 0 then fX12_leastApart_b13 v1 I 0 else zb (fX12_wordOf 0 0) (fun r4 => fX12_leastApart_b13 v1 I r4)
def fX12_manyApart_b20_70 (v1 : Int) (v2 : Int) (I : zMem) (w3 : Int) (w4 : Int) (w5 : Int) : Option ((Int × Int) ⊕ (Int × Int)) :=
  some (.inl (w4, w5 + 1))
def fX12_manyApart_b20_67 (v1 : Int) (v2 : Int) (I : zMem) (w3 : Int) (w5 : Int) (k0 : Int) (k1 : Int) : Option ((Int × Int) ⊕ (Int × Int)) :=
  zlet (k1 + k0) (fun a2 => fX12_manyApart_b20_70 v1 v2 I w3 a2 w5)
def fX12_manyApart_b20_49 (v1 : Int) (v2 : Int) (I : zMem) (w3 : Int) (w4 : Int) (w5 : Int) : Option ((Int × Int) ⊕ (Int × Int)) :=
  zb (fX12_apart w5 w3 I) (fun r1 => if w32 r1 = w32 v2 then fX12_manyApart_b20_67 v1 v2 I w3 w5 1 w4 else fX12_manyApart_b20_67 v1 v2 I w3 w5 0 w4)
def fX12_manyApart_l20 (v1 : Int) (v2 : Int) (I : zMem) (w3 : Int) (s : (Int × Int)) : Option ((Int × Int) ⊕ (Int × Int)) :=
  if 2048 ≤ w32 s.2 then some (.inr (s.1, s.2)) else if w32 s.2 = w32 w3 then fX12_manyApart_b20_70 v1 v2 I w3 s.1 s.2 else if w32 v1 = 0 then fX12_manyApart_b20_49 v1 v2 I w3 s.1 s.2 else zb (fX12_isWhole s.2) (fun r3 => if w32 r3 = 0 then fX12_manyApart_b20_70 v1 v2 I w3 s.1 s.2 else fX12_manyApart_b20_49 v1 v2 I w3 s.1 s.2)
def fX12_manyApart_b13 (v1 : Int) (v2 : Int) (I : zMem) (k0 : Int) : Option Int :=
  zb (zlp (fX12_manyApart_l20 v1 v2 I k0) 5000 (0, 0)) (fun x4 => some x4.1)
def fX12_manyApart (v1 : Int) (v2 : Int) (I : zMem) : Option Int :=
  if w32 v1 = 0 then fX12_manyApart_b13 v1 v2 I 0 else zb (fX12_wordOf 0 0) (fun r5 => fX12_manyApart_b13 v1 v2 I r5)
def fX12_word_b37 (v1 : Int) (v2 : Int) (I : zMem) : Option (Int × zMem) :=
  some ((-3), I)
def fX12_word (v1 : Int) (v2 : Int) (I : zMem) : Option (Int × zMem) :=
  zlet (zst I (50, 0, 0) 0 0) (fun I1 => zb (fX12_within (w32 v1) 0 7) (fun r2 => if w32 r2 = 0 then fX12_word_b37 v1 v2 I1 else zb (fX12_within (w32 v2) 0 31) (fun r3 => if w32 r3 = 0 then fX12_word_b37 v1 v2 I1 else zb (fX12_wordOf v1 v2) (fun r4 => some (r4, I1)))))
def fX12_whole (v1 : Int) (I : zMem) : Option (Int × zMem) :=
  zlet (zst I (50, 0, 0) 0 0) (fun I1 => zb (fX12_isWord v1) (fun r2 => if w32 r2 = 0 then some ((-3), I1) else zb (fX12_isWhole v1) (fun r3 => if w32 r3 = 0 then some (0, I1) else some (1, I1))))
def fX12_bits (v1 : Int) (I : zMem) : Option (Int × zMem) :=
  zlet (zst I (50, 0, 0) 0 0) (fun I1 => zb (fX12_isWord v1) (fun r2 => if w32 r2 = 0 then some ((-3), I1) else if zin v1 2048 then some (I1 (54, 0, 0) (ix v1), I1) else none))
def fX12_place (v1 : Int) (I : zMem) : Option (Int × zMem) :=
  zlet (zst I (50, 0, 0) 0 0) (fun I1 => zb (fX12_within (w32 v1) 0 (w32 ((I1 (51, 0, 0) 4) - 1))) (fun r2 => if w32 r2 = 0 then some ((-2), I1) else if zin v1 48 then some (I1 (55, 0, 0) (ix v1), I1) else none))
def fX12_sent (v1 : Int) (v2 : Int) (v3 : Int) (I : zMem) : Option (Int × zMem) :=
  zlet (zst I (50, 0, 0) 0 0) (fun I1 => zb (fX12_within (w32 v1) 0 3) (fun r2 => if w32 r2 = 0 then some ((-2), I1) else zb (fX12_isLength v2) (fun r3 => if w32 r3 = 0 then some ((-3), I1) else if 0 ≤ w32 v3 then zb (fX12_laysSending v1 v2 I1) (fun r4 => if w32 v2 ≤ w32 v3 then some ((-1), r4) else if zin v3 60 then some (r4 (56, 0, 0) (ix v3), r4) else none) else some ((-3), I1))))
def fX12_covers_b33_56 (v1 : Int) (v2 : Int) (I : zMem) (w4 : Int) (k0 : Int) (k1 : Int) : Option ((Int × Int) ⊕ (Int × Int)) :=
  zlet (k1 + k0) (fun a6 => some (.inl (a6, w4 + 1)))
def fX12_covers_l33 (v1 : Int) (v2 : Int) (I : zMem) (s : (Int × Int)) : Option ((Int × Int) ⊕ (Int × Int)) :=
  if 39 ≤ w32 s.2 then some (.inr (s.1, s.2)) else if zin s.2 39 then if w32 (I (57, 0, 0) (ix s.2)) ≤ 0 then fX12_covers_b33_56 v1 v2 I s.2 0 s.1 else fX12_covers_b33_56 v1 v2 I s.2 1 s.1 else none
def fX12_covers (v1 : Int) (v2 : Int) (I : zMem) : Option (Int × zMem) :=
  zlet (zst I (50, 0, 0) 0 0) (fun I1 => zb (fX12_isSet v1) (fun r2 => if w32 r2 = 0 then some ((-3), I1) else zb (fX12_isLength v2) (fun r3 => if w32 r3 = 0 then some ((-3), I1) else zb (fX12_laysOften v1 v2 I1) (fun r4 => zb (zlp (fX12_covers_l33 v1 v2 r4) 5000 (0, 0)) (fun x7 => some (x7.1, r4))))))
def fX12_lacks_b34_60 (v1 : Int) (v2 : Int) (I : zMem) (w5 : Int) (k0 : Int) (k1 : Int) : Option ((Int × Int) ⊕ (Int × Int)) :=
  zlet (lor k1 k0) (fun a6 => some (.inl (a6, w5 + 1)))
def fX12_lacks_l34 (v1 : Int) (v2 : Int) (I : zMem) (s : (Int × Int)) : Option ((Int × Int) ⊕ (Int × Int)) :=
  if 39 ≤ w32 s.2 then some (.inr (s.1, s.2)) else if zin s.2 39 then if w32 (I (57, 0, 0) (ix s.2)) = 0 then fX12_lacks_b34_60 v1 v2 I s.2 (lshl 1 s.2) s.1 else fX12_lacks_b34_60 v1 v2 I s.2 0 s.1 else none
def fX12_lacks (v1 : Int) (v2 : Int) (I : zMem) : Option (Int × zMem) :=
  zlet (zst I (50, 0, 0) 0 0) (fun I1 => zb (fX12_isSet v1) (fun r2 => if w32 r2 = 0 then some ((-3), I1) else zb (fX12_isLength v2) (fun r3 => if w32 r3 = 0 then some ((-3), I1) else zb (fX12_laysOften v1 v2 I1) (fun r4 => zb (zlp (fX12_lacks_l34 v1 v2 r4) 5000 (0, 0)) (fun x7 => some (x7.1, r4))))))
def fX12_between (v1 : Int) (v2 : Int) (v3 : Int) (v4 : Int) (I : zMem) : Option (Int × zMem) :=
  zlet (zst I (50, 0, 0) 0 0) (fun I1 => zb (fX12_isWord v1) (fun r2 => if w32 r2 = 0 then some ((-3), I1) else zb (fX12_isWord v2) (fun r3 => if w32 r3 = 0 then some ((-3), I1) else zb (fX12_isSet v3) (fun r4 => if w32 r4 = 0 then some ((-3), I1) else zb (fX12_isLength v4) (fun r5 => if w32 r5 = 0 then some ((-3), I1) else zb (fX12_laysOften v3 v4 I1) (fun r6 => zb (fX12_apart v1 v2 r6) (fun r7 => some (r7, r6))))))))
def fX12_distance_b55 (v1 : Int) (v2 : Int) (v3 : Int) (k0 : Int) (I : zMem) : Option (Int × zMem) :=
  zb (fX12_leastApart k0 I) (fun r6 => if 2 ≤ w32 v3 then zb (fX12_manyApart k0 r6 I) (fun r7 => some (r7, I)) else some (r6, I))
def fX12_distance (v1 : Int) (v2 : Int) (v3 : Int) (I : zMem) : Option (Int × zMem) :=
  zlet (zst I (50, 0, 0) 0 0) (fun I1 => zb (fX12_within (w32 v3) 0 3) (fun r2 => if w32 r2 = 0 then some ((-2), I1) else zb (fX12_isSet v1) (fun r3 => if w32 r3 = 0 then some ((-3), I1) else zb (fX12_isLength v2) (fun r4 => if w32 r4 = 0 then some ((-3), I1) else zb (fX12_laysOften v1 v2 I1) (fun r5 => if w32 (irem v3 2) = 1 then fX12_distance_b55 v1 v2 v3 1 r5 else fX12_distance_b55 v1 v2 v3 0 r5)))))
def fX12_shortest_l29 (v1 : Int) (v2 : Int) (s : (Int × zMem)) : Option ((Int × zMem) ⊕ ((Int × zMem) ⊕ (Int × zMem))) :=
  if 60 < w32 s.1 then some (.inr (.inl (s.1, s.2))) else zb (fX12_laysOften v1 s.1 s.2) (fun r4 => zb (fX12_leastApart 1 r4) (fun r5 => if w32 r5 < w32 v2 then some (.inl (s.1 + 1, r4)) else some (.inr (.inr (s.1, r4)))))
def fX12_shortest (v1 : Int) (v2 : Int) (I : zMem) : Option (Int × zMem) :=
  zlet (zst I (50, 0, 0) 0 0) (fun I1 => zb (fX12_isSet v1) (fun r2 => if w32 r2 = 0 then some ((-3), I1) else zb (fX12_within (w32 v2) 1 60) (fun r3 => if w32 r3 = 0 then some ((-3), I1) else zbr (zlp (fX12_shortest_l29 v1 v2) 5000 (1, I1)) (fun x6 => some ((-1), x6.2)) (fun z => z))))
def fX12_manyOf_l4 (v0 : Int) (s : (Int × Int)) : Option ((Int × Int) ⊕ (Int × Int)) :=
  if 4 ≤ w32 s.2 then some (.inr (s.1, s.2)) else zlet (s.1 + ((ishr v0 s.2) % 2)) (fun a1 => some (.inl (a1, s.2 + 1)))
def fX12_manyOf (v0 : Int) : Option Int :=
  zb (zlp (fX12_manyOf_l4 v0) 5000 (0, 0)) (fun x2 => some x2.1)
def fX12_versions_b32_82 (v1 : Int) (v2 : Int) (w3 : Int) (w4 : Int) (I : zMem) : Option ((Int × Int × zMem) ⊕ (Int × Int × zMem)) :=
  some (.inl (w3, w4 + 1, I))
def fX12_versions_b32_81 (v1 : Int) (v2 : Int) (w4 : Int) (k0 : Int) (I : zMem) : Option ((Int × Int × zMem) ⊕ (Int × Int × zMem)) :=
  fX12_versions_b32_82 v1 v2 k0 w4 I
def fX12_versions_b32_59 (v1 : Int) (v2 : Int) (w3 : Int) (w4 : Int) (I : zMem) : Option ((Int × Int × zMem) ⊕ (Int × Int × zMem)) :=
  zb (fX12_laysOften w4 v1 I) (fun r4 => zb (fX12_leastApart 1 r4) (fun r5 => if w32 r5 < w32 v2 then fX12_versions_b32_81 v1 v2 w4 w3 r4 else fX12_versions_b32_81 v1 v2 w4 w4 r4))
def fX12_versions_l32 (v1 : Int) (v2 : Int) (s : (Int × Int × zMem)) : Option ((Int × Int × zMem) ⊕ (Int × Int × zMem)) :=
  if 16 ≤ w32 s.2.1 then some (.inr (s.1, s.2.1, s.2.2)) else if w32 s.1 = (-1) then fX12_versions_b32_59 v1 v2 s.1 s.2.1 s.2.2 else zb (fX12_manyOf s.2.1) (fun r6 => zb (fX12_manyOf s.1) (fun r7 => if w32 r6 < w32 r7 then fX12_versions_b32_59 v1 v2 s.1 s.2.1 s.2.2 else fX12_versions_b32_82 v1 v2 s.1 s.2.1 s.2.2))
def fX12_versions (v1 : Int) (v2 : Int) (I : zMem) : Option (Int × zMem) :=
  zlet (zst I (50, 0, 0) 0 0) (fun I1 => zb (fX12_isLength v1) (fun r2 => if w32 r2 = 0 then some ((-3), I1) else zb (fX12_within (w32 v2) 1 60) (fun r3 => if w32 r3 = 0 then some ((-3), I1) else zb (zlp (fX12_versions_l32 v1 v2) 5000 ((-1), 1, I1)) (fun x8 => some (x8.1, x8.2.2)))))
def fX12_signed (v0 : Int) (v1 : Int) : Option Int :=
  if w32 v0 = 1 then some v1 else some (-v1)
def fX12_stepsBit_b138 (v1 : Int) (v2 : Int) (v3 : Int) (w6 : Int) (w7 : Int) (w8 : Int) (I : zMem) : Option zMem :=
  if zin w8 4 then zlet (zst I (61, 0, 0) (ix w8) w6) (fun I14 => zlet (zst I14 (62, 0, 0) (ix w8) w7) (fun I15 => some I15)) else none
def fX12_stepsBit_b91 (v1 : Int) (v2 : Int) (v3 : Int) (w4 : Int) (w6 : Int) (k0 : Int) (I : zMem) : Option zMem :=
  zlet ((2 * v3) + w4) (fun a11 => if zin a11 4 then if w32 w6 < w32 (I (61, 0, 0) (ix a11)) then some I else if w32 w6 = w32 (I (61, 0, 0) (ix a11)) then if w32 k0 < w32 (I (62, 0, 0) (ix a11)) then fX12_stepsBit_b138 v1 v2 v3 w6 k0 a11 I else some I else fX12_stepsBit_b138 v1 v2 v3 w6 k0 a11 I else none)
def fX12_stepsBit (v1 : Int) (v2 : Int) (v3 : Int) (I : zMem) : Option zMem :=
  zlet (idiv v2 2) (fun a1 => zlet (irem v2 2) (fun a2 => if zin v2 4 then if zin v1 39 then zb (fX12_signed v3 (I (58, 0, 0) (ix v1))) (fun r5 => if zin (13 + v1) 39 then zb (fX12_signed (ixor (ixor v3 a1) a2) (I (58, 0, 0) (ix (13 + v1)))) (fun r7 => if zin (26 + v1) 39 then zb (fX12_signed (ixor v3 a2) (I (58, 0, 0) (ix (26 + v1)))) (fun r9 => zlet ((((I (59, 0, 0) (ix v2)) + r5) + r7) + r9) (fun a10 => if 11 ≤ w32 v1 then fX12_stepsBit_b91 v1 v2 v3 a1 a10 (I (60, 0, 0) (ix v2)) I else fX12_stepsBit_b91 v1 v2 v3 a1 a10 ((2 * (I (60, 0, 0) (ix v2))) + v3) I)) else none) else none) else none else none))
def fX12_bestNow_b2_22 (w1 : Int) (k0 : Int) (k1 : Int) (I : zMem) : Option ((Int × zMem) ⊕ (Int × zMem)) :=
  if zin k1 4 then zlet (zst I (59, 0, 0) (ix k1) k0) (fun I2 => if zin w1 4 then zlet (zst I2 (60, 0, 0) (ix w1) 0) (fun I4 => some (.inl (w1 + 1, I4))) else none) else none
def fX12_bestNow_l2  (s : (Int × zMem)) : Option ((Int × zMem) ⊕ (Int × zMem)) :=
  if 4 ≤ w32 s.1 then some (.inr (s.1, s.2)) else if w32 s.1 = 0 then fX12_bestNow_b2_22 s.1 0 s.1 s.2 else fX12_bestNow_b2_22 s.1 (-1073741824) s.1 s.2
def fX12_bestNow_l46 (w1 : Int) (s : (Int × zMem)) : Option ((Int × zMem) ⊕ (Int × zMem)) :=
  if 4 ≤ w32 s.1 then some (.inr (s.1, s.2)) else if zin s.1 4 then zlet (zst s.2 (61, 0, 0) (ix s.1) (-1073741824)) (fun I7 => zlet (zst I7 (62, 0, 0) (ix s.1) 2048) (fun I8 => some (.inl (s.1 + 1, I8)))) else none
def fX12_bestNow_b76_115 (w1 : Int) (w2 : Int) (I : zMem) : Option ((Int × zMem) ⊕ (Int × zMem)) :=
  some (.inl (w2 + 1, I))
def fX12_bestNow_l76 (w1 : Int) (s : (Int × zMem)) : Option ((Int × zMem) ⊕ (Int × zMem)) :=
  if 4 ≤ w32 s.1 then some (.inr (s.1, s.2)) else if zin s.1 4 then if w32 (s.2 (59, 0, 0) (ix s.1)) = (-1073741824) then fX12_bestNow_b76_115 w1 s.1 s.2 else zb (fX12_stepsBit w1 s.1 0 s.2) (fun r11 => if 11 ≤ w32 w1 then fX12_bestNow_b76_115 w1 s.1 r11 else zb (fX12_stepsBit w1 s.1 1 r11) (fun r12 => fX12_bestNow_b76_115 w1 s.1 r12)) else none
def fX12_bestNow_l123 (w1 : Int) (s : (Int × zMem)) : Option ((Int × zMem) ⊕ (Int × zMem)) :=
  if 4 ≤ w32 s.1 then some (.inr (s.1, s.2)) else if zin s.1 4 then zlet (zst s.2 (59, 0, 0) (ix s.1) (s.2 (61, 0, 0) (ix s.1))) (fun I15 => zlet (zst I15 (60, 0, 0) (ix s.1) (I15 (62, 0, 0) (ix s.1))) (fun I16 => some (.inl (s.1 + 1, I16)))) else none
def fX12_bestNow_l38  (s : (Int × zMem)) : Option ((Int × zMem) ⊕ (Int × zMem)) :=
  if 13 ≤ w32 s.1 then some (.inr (s.1, s.2)) else zb (zlp (fX12_bestNow_l46 s.1) 5000 (0, s.2)) (fun x9 => zb (zlp (fX12_bestNow_l76 s.1) 5000 (0, x9.2)) (fun x13 => zb (zlp (fX12_bestNow_l123 s.1) 5000 (0, x13.2)) (fun x17 => some (.inl (s.1 + 1, x17.2)))))
def fX12_bestNow  (I : zMem) : Option (Int × zMem) :=
  zb (zlp (fX12_bestNow_l2 ) 5000 (0, I)) (fun x5 => zb (zlp (fX12_bestNow_l38 ) 5000 (0, x5.2)) (fun x18 => some (x18.2 (60, 0, 0) 0, x18.2)))
def fX12_weak_l46 (v1 : Int) (v2 : Int) (v3 : Int) (s : (Int × zMem)) : Option ((Int × zMem) ⊕ (Int × zMem)) :=
  if 39 ≤ w32 s.1 then some (.inr (s.1, s.2)) else if zin s.1 39 then zlet (zst s.2 (58, 0, 0) (ix s.1) 0) (fun I7 => some (.inl (s.1 + 1, I7))) else none
def fX12_weak_l70 (v1 : Int) (v2 : Int) (v3 : Int) (s : (Int × zMem)) : Option ((Int × zMem) ⊕ (Int × zMem)) :=
  if w32 v3 ≤ w32 s.1 then some (.inr (s.1, s.2)) else if zin s.1 60 then if zin (s.2 (56, 0, 0) (ix s.1)) 39 then zb (fX12_codeBit v1 (s.2 (56, 0, 0) (ix s.1))) (fun r11 => zb (fX12_signed r11 1) (fun r12 => zlet (zst s.2 (58, 0, 0) (ix (s.2 (56, 0, 0) (ix s.1))) ((s.2 (58, 0, 0) (ix (s.2 (56, 0, 0) (ix s.1)))) + r12)) (fun I13 => some (.inl (s.1 + 1, I13))))) else none else none
def fX12_weak_b118_175 (v1 : Int) (v2 : Int) (v3 : Int) (w5 : Int) (w6 : Int) (k0 : Int) (k1 : Int) (I : zMem) : Option ((Int × Int × zMem) ⊕ (Int × Int × zMem)) :=
  zlet (k1 + k0) (fun a22 => if zin w5 60 then if zin (I (56, 0, 0) (ix w5)) 39 then zlet (zst I (58, 0, 0) (ix (I (56, 0, 0) (ix w5))) ((I (58, 0, 0) (ix (I (56, 0, 0) (ix w5)))) + w6)) (fun I25 => some (.inl (a22, w5 + 1, I25))) else none else none)
def fX12_weak_l118 (v1 : Int) (v2 : Int) (v3 : Int) (s : (Int × Int × zMem)) : Option ((Int × Int × zMem) ⊕ (Int × Int × zMem)) :=
  if w32 v3 ≤ w32 s.2.1 then some (.inr (s.1, s.2.1, s.2.2)) else if zin s.2.1 60 then zb (fX12_codeBit v1 (s.2.2 (56, 0, 0) (ix s.2.1))) (fun r16 => zb (fX12_signed r16 1) (fun r17 => zlet (2 * r17) (fun a18 => if zin (s.2.2 (56, 0, 0) (ix s.2.1)) 39 then zlet (zst s.2.2 (58, 0, 0) (ix (s.2.2 (56, 0, 0) (ix s.2.1))) ((s.2.2 (58, 0, 0) (ix (s.2.2 (56, 0, 0) (ix s.2.1)))) - a18)) (fun I20 => zb (fX12_bestNow I20) (fun r21 => if w32 r21.1 = w32 v1 then fX12_weak_b118_175 v1 v2 v3 s.2.1 a18 0 s.1 r21.2 else fX12_weak_b118_175 v1 v2 v3 s.2.1 a18 1 s.1 r21.2)) else none))) else none
def fX12_weak (v1 : Int) (v2 : Int) (v3 : Int) (I : zMem) : Option (Int × zMem) :=
  zlet (zst I (50, 0, 0) 0 0) (fun I1 => zb (fX12_within (w32 v2) 0 3) (fun r2 => if w32 r2 = 0 then some ((-2), I1) else zb (fX12_isWord v1) (fun r3 => if w32 r3 = 0 then some ((-3), I1) else zb (fX12_isLength v3) (fun r4 => if w32 r4 = 0 then some ((-3), I1) else zb (fX12_laysSending v2 v3 I1) (fun r5 => zb (zlp (fX12_weak_l46 v1 v2 v3) 5000 (0, r5)) (fun x8 => zb (zlp (fX12_weak_l70 v1 v2 v3) 5000 (0, x8.2)) (fun x14 => zb (zlp (fX12_weak_l118 v1 v2 v3) 5000 (0, 0, x14.2)) (fun x26 => some (x26.1, x26.2.2)))))))))
def fX12_past (v0 : Int) (v1 : Int) : Option Int :=
  some ((v1 - v0) % 8)
def fX12_own (v1 : Int) : Option Int :=
  some (329 + (88 * v1))
def fX12_isProcess (v1 : Int) (I : zMem) : Option Int :=
  zb (fX12_within (w32 v1) 0 (w32 ((I (51, 0, 0) 0) - 1))) (fun r1 => if zbo r1 then some r1 else none)
def fX12_link (v1 : Int) (v2 : Int) (v3 : Int) (v4 : Int) (v5 : Int) (I : zMem) : Option (Int × zMem) :=
  zlet (zst I (50, 0, 0) 0 0) (fun I1 => zb (fX12_within (w32 v1) 1 8) (fun r2 => if w32 r2 = 0 then some ((-3), I1) else zb (fX12_within (w32 v2) 1 4) (fun r3 => if w32 r3 = 0 then some ((-3), I1) else zb (fX12_within (w32 v3) 1 60) (fun r4 => if w32 r4 = 0 then some ((-3), I1) else zb (fX12_within (w32 v4) 1 8) (fun r5 => if w32 r5 = 0 then some ((-3), I1) else zb (fX12_within (w32 v5) 16 48) (fun r6 => if w32 r6 = 0 then some ((-3), I1) else zb (fX12_begins v1 v2 v3 v4 v5 I1) (fun r7 => some (0, r7))))))))
def fX12_limit (v1 : Int) (I : zMem) : Option (Int × zMem) :=
  zlet (zst I (50, 0, 0) 0 0) (fun I1 => zb (fX12_within (w32 v1) 1 9999) (fun r2 => if w32 r2 = 0 then some ((-3), I1) else zlet (I1 (51, 0, 0) 5) (fun a3 => zlet (zst I1 (51, 0, 0) 5 v1) (fun I4 => some (a3, I4)))))
def fX12_fade (v1 : Int) (I : zMem) : Option (Int × zMem) :=
  zlet (zst I (50, 0, 0) 0 0) (fun I1 => zb (fX12_within (w32 v1) 0 60) (fun r2 => if w32 r2 = 0 then some ((-3), I1) else zlet (I1 (51, 0, 0) 6) (fun a3 => zlet (zst I1 (51, 0, 0) 6 v1) (fun I4 => some (a3, I4)))))
def fX12_offer (v1 : Int) (I : zMem) : Option (Int × zMem) :=
  zlet (zst I (50, 0, 0) 0 0) (fun I1 => zb (fX12_within (w32 v1) 0 31) (fun r2 => if w32 r2 = 0 then some ((-3), I1) else if w32 (I1 (51, 0, 0) 7) = 20 then some ((-4), I1) else if zin (8 + (I1 (51, 0, 0) 7)) 3099 then zlet (zst I1 (51, 0, 0) (ix (8 + (I1 (51, 0, 0) 7))) v1) (fun I4 => zlet (zst I4 (51, 0, 0) 7 ((I4 (51, 0, 0) 7) + 1)) (fun I5 => some (I5 (51, 0, 0) 7, I5))) else none))
def fX12_goesOn  (I : zMem) : Option zMem :=
  zlet (zst I (51, 0, 0) 55 (((I (51, 0, 0) 55) + 1) % 8)) (fun I1 => if w32 (I1 (51, 0, 0) 64) = (-1) then some I1 else if w32 (I1 (51, 0, 0) 55) = w32 (I1 (51, 0, 0) 65) then zlet (zst I1 (51, 0, 0) 64 (-1)) (fun I2 => zlet (zst I2 (51, 0, 0) 65 (-1)) (fun I3 => some I3)) else some I1)
def fX12_passes_b78 (I : zMem) : Option zMem :=
  zb (fX12_goesOn I) (fun r6 => some r6)
def fX12_passes  (I : zMem) : Option zMem :=
  zlet (I (51, 0, 0) 55) (fun a1 => if zin (56 + a1) 3099 then zlet (I (51, 0, 0) (ix (56 + a1))) (fun a3 => zlet (zst I (51, 0, 0) (ix (56 + a1)) (-1)) (fun I4 => if w32 a3 = (-1) then zlet (zst I4 (51, 0, 0) 67 ((I4 (51, 0, 0) 67) + 1)) (fun I5 => fX12_passes_b78 I5) else if zin (73 + (irem (I4 (51, 0, 0) 66) 256)) 3099 then zlet (zst I4 (51, 0, 0) (ix (73 + (irem (I4 (51, 0, 0) 66) 256))) a3) (fun I8 => zlet (zst I8 (51, 0, 0) 66 ((I8 (51, 0, 0) 66) + 1)) (fun I9 => fX12_passes_b78 I9)) else none)) else none)
def fX12_givesAll_l41  (s : (Int × zMem)) : Option ((Int × zMem) ⊕ ((Int × zMem) ⊕ zMem)) :=
  if w32 s.1 ≤ 0 then some (.inr (.inl (s.1, s.2))) else if zin (56 + (((s.2 (51, 0, 0) 55) + s.1) % 8)) 3099 then if w32 (s.2 (51, 0, 0) (ix (56 + (((s.2 (51, 0, 0) 55) + s.1) % 8)))) = (-1) then some (.inl (s.1 + (-1), s.2)) else zlet (zst s.2 (51, 0, 0) 64 (s.2 (51, 0, 0) 2)) (fun I3 => zlet (zst I3 (51, 0, 0) 65 ((((I3 (51, 0, 0) 55) + s.1) + 1) % 8)) (fun I4 => some (.inr (.inr I4)))) else none
def fX12_givesAll_l0  (s : zMem) : Option (zMem ⊕ zMem) :=
  if zin (56 + (s (51, 0, 0) 55)) 3099 then if w32 (s (51, 0, 0) (ix (56 + (s (51, 0, 0) 55)))) = (-1) then some (.inr s) else zb (fX12_passes s) (fun r8 => some (.inl r8)) else none
def fX12_givesAll  (I : zMem) : Option zMem :=
  if zin (56 + (I (51, 0, 0) 55)) 3099 then if w32 (I (51, 0, 0) (ix (56 + (I (51, 0, 0) 55)))) = (-1) then if w32 (I (51, 0, 0) 64) = (-1) then zbr (zlp (fX12_givesAll_l41 ) 5000 (7, I)) (fun x5 => some x5.2) (fun z => z) else some I else zb (fX12_passes I) (fun r6 => zb (zlp (fX12_givesAll_l0 ) 5000 r6) (fun x9 => if w32 (x9 (51, 0, 0) 64) = (-1) then zbr (zlp (fX12_givesAll_l41 ) 5000 (7, x9)) (fun x10 => some x10.2) (fun z => z) else some x9)) else none
def fX12_comes_b71 (v1 : Int) (v2 : Int) (I : zMem) : Option zMem :=
  zb (fX12_givesAll I) (fun r4 => some r4)
def fX12_comes (v1 : Int) (v2 : Int) (I : zMem) : Option zMem :=
  zb (fX12_past (I (51, 0, 0) 55) v1) (fun r1 => if w32 r1 < w32 (I (51, 0, 0) 1) then if zin (56 + v1) 3099 then if w32 (I (51, 0, 0) (ix (56 + v1))) = (-1) then zlet (zst I (51, 0, 0) (ix (56 + v1)) v2) (fun I3 => fX12_comes_b71 v1 v2 I3) else zlet (zst I (51, 0, 0) 69 ((I (51, 0, 0) 69) + 1)) (fun I5 => fX12_comes_b71 v1 v2 I5) else none else zlet (zst I (51, 0, 0) 68 ((I (51, 0, 0) 68) + 1)) (fun I6 => fX12_comes_b71 v1 v2 I6))
def fX12_ticks_l34  (s : zMem) : Option (zMem ⊕ zMem) :=
  if w32 (s (51, 0, 0) 64) = (-1) then some (.inr s) else zb (fX12_passes s) (fun r2 => some (.inl r2))
def fX12_ticks  (I : zMem) : Option zMem :=
  if w32 (I (51, 0, 0) 64) = (-1) then some I else zlet (zst I (51, 0, 0) 64 ((I (51, 0, 0) 64) - 1)) (fun I1 => if w32 (I1 (51, 0, 0) 64) ≤ 0 then zb (zlp (fX12_ticks_l34 ) 5000 I1) (fun x3 => zb (fX12_givesAll x3) (fun r4 => some r4)) else some I1)
def fX12_held (v0 : Int) (v1 : Int) : Option Int :=
  if w32 v0 ≤ w32 v1 then if w32 (-v1) ≤ w32 v0 then some v0 else some (-v1) else some v1
def fX12_laysSoft_l2 (v1 : Int) (s : (Int × zMem)) : Option ((Int × zMem) ⊕ (Int × zMem)) :=
  if 39 ≤ w32 s.1 then some (.inr (s.1, s.2)) else zb (fX12_own v1) (fun r1 => if zin ((r1 + 10) + s.1) 3099 then if zin s.1 39 then zlet (zst s.2 (58, 0, 0) (ix s.1) (s.2 (51, 0, 0) (ix ((r1 + 10) + s.1)))) (fun I4 => some (.inl (s.1 + 1, I4))) else none else none)
def fX12_laysSoft (v1 : Int) (I : zMem) : Option zMem :=
  zb (zlp (fX12_laysSoft_l2 v1) 5000 (0, I)) (fun x5 => some x5.2)
def fX12_hears_l138 (v1 : Int) (v2 : Int) (v3 : Int) (w4 : Int) (s : (Int × zMem)) : Option ((Int × zMem) ⊕ (Int × zMem)) :=
  if w32 v3 ≤ w32 s.1 then some (.inr (s.1, s.2)) else if zin s.1 60 then zlet ((w4 + 10) + (s.2 (56, 0, 0) (ix s.1))) (fun a8 => if zin a8 3099 then zb (fX12_held ((s.2 (51, 0, 0) (ix a8)) + (s.2 (63, 0, 0) (ix s.1))) (s.2 (51, 0, 0) 5)) (fun r10 => zlet (zst s.2 (51, 0, 0) (ix a8) r10) (fun I11 => some (.inl (s.1 + 1, I11)))) else none) else none
def fX12_hears_b95 (v1 : Int) (v2 : Int) (v3 : Int) (w4 : Int) (I : zMem) : Option zMem :=
  if zin (w4 + 8) 3099 then if w32 (I (51, 0, 0) (ix (w4 + 8))) = 1 then zlet (zst I (51, 0, 0) 72 ((I (51, 0, 0) 72) + 1)) (fun I4 => some I4) else if zin (w4 + 7) 3099 then zlet (zst I (51, 0, 0) (ix (w4 + 7)) ((I (51, 0, 0) (ix (w4 + 7))) + 1)) (fun I6 => zb (zlp (fX12_hears_l138 v1 v2 v3 w4) 5000 (0, I6)) (fun x12 => zb (fX12_laysSoft v1 x12.2) (fun r13 => zb (fX12_bestNow r13) (fun r14 => zb (fX12_isWhole r14.1) (fun r15 => if w32 r15 = 0 then some r14.2 else zlet (zst r14.2 (51, 0, 0) (ix (w4 + 8)) 1) (fun I16 => zb (fX12_comes (ishr r14.1 8) ((ishr r14.1 3) % 32) I16) (fun r17 => some r17))))))) else none else none
def fX12_hears_l24 (v1 : Int) (v2 : Int) (v3 : Int) (w4 : Int) (s : (Int × zMem)) : Option ((Int × zMem) ⊕ (Int × zMem)) :=
  if 39 ≤ w32 s.1 then some (.inr (s.1, s.2)) else if zin ((w4 + 10) + s.1) 3099 then zlet (zst s.2 (51, 0, 0) (ix ((w4 + 10) + s.1)) 0) (fun I19 => some (.inl (s.1 + 1, I19))) else none
def fX12_hears (v1 : Int) (v2 : Int) (v3 : Int) (I : zMem) : Option zMem :=
  zb (fX12_own v1) (fun r1 => if zin (r1 + 6) 3099 then if w32 (I (51, 0, 0) (ix (r1 + 6))) = w32 v2 then fX12_hears_b95 v1 v2 v3 r1 I else zb (zlp (fX12_hears_l24 v1 v2 v3 r1) 5000 (0, I)) (fun x20 => if zin (r1 + 9) 3099 then zlet (zst x20.2 (51, 0, 0) (ix (r1 + 9)) 1) (fun I22 => if zin (r1 + 7) 3099 then zlet (zst I22 (51, 0, 0) (ix (r1 + 7)) 0) (fun I24 => if zin (r1 + 8) 3099 then zlet (zst I24 (51, 0, 0) (ix (r1 + 8)) 0) (fun I26 => zlet (zst I26 (51, 0, 0) (ix (r1 + 6)) v2) (fun I27 => fX12_hears_b95 v1 v2 v3 r1 I27)) else none) else none) else none) else none)
def fX12_canSend_b86 (v1 : Int) (I : zMem) : Option Int :=
  some 0
def fX12_canSend (v1 : Int) (I : zMem) : Option Int :=
  zb (fX12_own v1) (fun r1 => if zin (r1 + 4) 3099 then if w32 (I (51, 0, 0) (ix (r1 + 4))) = 1 then some 0 else zb (fX12_own v1) (fun r3 => if zin (r3 + 0) 3099 then if w32 (I (51, 0, 0) (ix (r3 + 0))) = (-1) then if w32 (I (51, 0, 0) 30) ≤ 0 then if w32 (I (51, 0, 0) 7) ≤ 0 then fX12_canSend_b86 v1 I else zb (fX12_past (I (51, 0, 0) 29) (I (51, 0, 0) 28)) (fun r5 => if w32 (I (51, 0, 0) 1) ≤ w32 r5 then fX12_canSend_b86 v1 I else some 1) else some 1 else some 1 else none) else none)
def fX12_versionOf (v0 : Int) : Option Int :=
  if w32 (irem v0 4) = 0 then some 0 else if w32 (irem v0 4) = 1 then some 2 else if w32 (irem v0 4) = 2 then some 3 else some 1
def fX12_takesAgain_l21 (w1 : Int) (s : (Int × zMem)) : Option ((Int × zMem) ⊕ (Int × zMem)) :=
  if w32 (s.2 (51, 0, 0) 30) ≤ w32 s.1 then some (.inr (s.1, s.2)) else if zin ((31 + s.1) + 1) 3099 then if zin (31 + s.1) 3099 then zlet (zst s.2 (51, 0, 0) (ix (31 + s.1)) (s.2 (51, 0, 0) (ix ((31 + s.1) + 1)))) (fun I5 => some (.inl (s.1 + 1, I5))) else none else none
def fX12_takesAgain  (I : zMem) : Option (Int × zMem) :=
  zlet (I (51, 0, 0) 31) (fun a1 => zlet (zst I (51, 0, 0) 30 ((I (51, 0, 0) 30) - 1)) (fun I2 => zb (zlp (fX12_takesAgain_l21 a1) 5000 (0, I2)) (fun x6 => some (a1, x6.2))))
def fX12_takesNew_l60 (w1 : Int) (s : (Int × zMem)) : Option ((Int × zMem) ⊕ (Int × zMem)) :=
  if w32 (s.2 (51, 0, 0) 7) ≤ w32 s.1 then some (.inr (s.1, s.2)) else if zin ((8 + s.1) + 1) 3099 then if zin (8 + s.1) 3099 then zlet (zst s.2 (51, 0, 0) (ix (8 + s.1)) (s.2 (51, 0, 0) (ix ((8 + s.1) + 1)))) (fun I10 => some (.inl (s.1 + 1, I10))) else none else none
def fX12_takesNew  (I : zMem) : Option (Int × zMem) :=
  zlet (I (51, 0, 0) 28) (fun a1 => zlet (zst I (51, 0, 0) 28 ((a1 + 1) % 8)) (fun I2 => if zin (39 + a1) 3099 then zlet (zst I2 (51, 0, 0) (ix (39 + a1)) (I2 (51, 0, 0) 8)) (fun I4 => if zin (47 + a1) 3099 then zlet (zst I4 (51, 0, 0) (ix (47 + a1)) 0) (fun I6 => zlet (zst I6 (51, 0, 0) 7 ((I6 (51, 0, 0) 7) - 1)) (fun I7 => zb (zlp (fX12_takesNew_l60 a1) 5000 (0, I7)) (fun x11 => some (a1, x11.2)))) else none) else none))
def fX12_beginsSend_l95 (v1 : Int) (v2 : Int) (w3 : Int) (s : (Int × zMem)) : Option ((Int × zMem) ⊕ (Int × zMem)) :=
  if 39 ≤ w32 s.1 then some (.inr (s.1, s.2)) else if zin ((w3 + 49) + s.1) 3099 then zlet (zst s.2 (51, 0, 0) (ix ((w3 + 49) + s.1)) 0) (fun I15 => some (.inl (s.1 + 1, I15))) else none
def fX12_beginsSend_l182 (v1 : Int) (v2 : Int) (w3 : Int) (w4 : Int) (s : (Int × zMem)) : Option ((Int × zMem) ⊕ (Int × zMem)) :=
  if w32 v2 ≤ w32 s.1 then some (.inr (s.1, s.2)) else if zin s.1 60 then if zin ((w3 + 49) + (s.2 (56, 0, 0) (ix s.1))) 3099 then zlet (zst s.2 (51, 0, 0) (ix ((w3 + 49) + (s.2 (56, 0, 0) (ix s.1)))) ((s.2 (51, 0, 0) (ix ((w3 + 49) + (s.2 (56, 0, 0) (ix s.1))))) + 1)) (fun I28 => zb (fX12_codeBit w4 (I28 (56, 0, 0) (ix s.1))) (fun r29 => zb (fX12_signed r29 (I28 (51, 0, 0) 6)) (fun r30 => zlet (zst I28 (63, 0, 0) (ix s.1) r30) (fun I31 => some (.inl (s.1 + 1, I31)))))) else none else none
def fX12_beginsSend_b121 (v1 : Int) (v2 : Int) (w3 : Int) (I : zMem) : Option zMem :=
  if zin (w3 + 3) 3099 then zb (fX12_versionOf (I (51, 0, 0) (ix (w3 + 3)))) (fun r18 => zb (fX12_laysSending r18 v2 I) (fun r19 => zlet (zst r19 (51, 0, 0) (ix (w3 + 3)) ((r19 (51, 0, 0) (ix (w3 + 3))) + 1)) (fun I20 => if zin (w3 + 4) 3099 then zlet (zst I20 (51, 0, 0) (ix (w3 + 4)) 1) (fun I22 => if zin (w3 + 0) 3099 then if zin (w3 + 1) 3099 then zb (fX12_wordOf (I22 (51, 0, 0) (ix (w3 + 0))) (I22 (51, 0, 0) (ix (w3 + 1)))) (fun r25 => zb (zlp (fX12_beginsSend_l182 v1 v2 w3 r25) 5000 (0, I22)) (fun x32 => some x32.2)) else none else none) else none))) else none
def fX12_beginsSend_b67 (v1 : Int) (v2 : Int) (w3 : Int) (k0 : Int) (k1 : Int) (I : zMem) : Option zMem :=
  if zin k1 3099 then zlet (zst I (51, 0, 0) (ix k1) k0) (fun I9 => if zin (w3 + 0) 3099 then if zin (39 + (I9 (51, 0, 0) (ix (w3 + 0)))) 3099 then if zin (w3 + 1) 3099 then zlet (zst I9 (51, 0, 0) (ix (w3 + 1)) (I9 (51, 0, 0) (ix (39 + (I9 (51, 0, 0) (ix (w3 + 0))))))) (fun I13 => zb (zlp (fX12_beginsSend_l95 v1 v2 w3) 5000 (0, I13)) (fun x16 => fX12_beginsSend_b121 v1 v2 w3 x16.2)) else none else none else none) else none
def fX12_beginsSend (v1 : Int) (v2 : Int) (I : zMem) : Option zMem :=
  zb (fX12_own v1) (fun r1 => if zin (r1 + 0) 3099 then if w32 (I (51, 0, 0) (ix (r1 + 0))) = (-1) then if zin (r1 + 2) 3099 then zlet (zst I (51, 0, 0) (ix (r1 + 2)) (ixor (I (51, 0, 0) (ix (r1 + 2))) 1)) (fun I4 => if zin (r1 + 3) 3099 then zlet (zst I4 (51, 0, 0) (ix (r1 + 3)) 0) (fun I6 => if w32 (I6 (51, 0, 0) 30) ≤ 0 then zb (fX12_takesNew I6) (fun r7 => fX12_beginsSend_b67 v1 v2 r1 r7.1 (r1 + 0) r7.2) else zb (fX12_takesAgain I6) (fun r33 => fX12_beginsSend_b67 v1 v2 r1 r33.1 (r1 + 0) r33.2)) else none) else none else fX12_beginsSend_b121 v1 v2 r1 I else none)
def fX12_endsSend_l51 (v1 : Int) (v2 : Int) (v3 : Int) (w4 : Int) (s : (Int × zMem)) : Option ((Int × zMem) ⊕ (Int × zMem)) :=
  if w32 v2 ≤ w32 s.1 then some (.inr (s.1, s.2)) else if zin s.1 60 then zb (fX12_held (s.2 (63, 0, 0) (ix s.1)) 127) (fun r6 => zlet (zst s.2 (63, 0, 0) (ix s.1) r6) (fun I7 => some (.inl (s.1 + 1, I7)))) else none
def fX12_endsSend_b34 (v1 : Int) (v2 : Int) (v3 : Int) (w4 : Int) (k0 : Int) (k1 : Int) (I : zMem) : Option zMem :=
  if zin k1 3099 then zlet (zst I (51, 0, 0) (ix k1) k0) (fun I3 => if zin (w4 + 5) 3099 then if w32 (I3 (51, 0, 0) (ix (w4 + 5))) = 0 then some I3 else zb (zlp (fX12_endsSend_l51 v1 v2 v3 w4) 5000 (0, I3)) (fun x8 => if zin (w4 + 2) 3099 then zb (fX12_hears v1 (x8.2 (51, 0, 0) (ix (w4 + 2))) v2 x8.2) (fun r10 => some r10) else none) else none) else none
def fX12_endsSend_b33 (v1 : Int) (v2 : Int) (v3 : Int) (w4 : Int) (k0 : Int) (I : zMem) : Option zMem :=
  fX12_endsSend_b34 v1 v2 v3 w4 0 k0 I
def fX12_endsSend (v1 : Int) (v2 : Int) (v3 : Int) (I : zMem) : Option zMem :=
  zb (fX12_own v1) (fun r1 => if w32 v3 = 0 then fX12_endsSend_b33 v1 v2 v3 r1 (r1 + 5) I else if w32 (I (51, 0, 0) 6) ≤ 0 then fX12_endsSend_b33 v1 v2 v3 r1 (r1 + 5) I else fX12_endsSend_b34 v1 v2 v3 r1 1 (r1 + 5) I)
def fX12_isIdle (v1 : Int) (I : zMem) : Option zMem :=
  zb (fX12_own v1) (fun r1 => if zin (r1 + 0) 3099 then zlet (zst I (51, 0, 0) (ix (r1 + 0)) (-1)) (fun I3 => zb (fX12_own v1) (fun r4 => if zin (r4 + 3) 3099 then zlet (zst I3 (51, 0, 0) (ix (r4 + 3)) 0) (fun I6 => zb (fX12_own v1) (fun r7 => if zin (r7 + 4) 3099 then zlet (zst I6 (51, 0, 0) (ix (r7 + 4)) 0) (fun I9 => some I9) else none)) else none)) else none)
def fX12_reads_b58 (v1 : Int) (v2 : Int) (w3 : Int) (w4 : Int) (I : zMem) : Option (Int × zMem) :=
  if zin (w3 + 4) 3099 then zlet (zst I (51, 0, 0) (ix (w3 + 4)) 0) (fun I4 => if w32 w4 = 1 then zb (fX12_isIdle v1 I4) (fun r5 => some (w4, r5)) else if zin (w3 + 3) 3099 then if w32 (I4 (51, 0, 0) (ix (w3 + 3))) = w32 (I4 (51, 0, 0) 3) then zb (fX12_isIdle v1 I4) (fun r7 => zlet (zst r7 (51, 0, 0) 70 ((r7 (51, 0, 0) 70) + 1)) (fun I8 => some (w4, I8))) else some (w4, I4) else none) else none
def fX12_reads_b50 (v1 : Int) (v2 : Int) (w3 : Int) (w4 : Int) (I : zMem) : Option (Int × zMem) :=
  if w32 v2 = 2 then fX12_reads_b58 v1 v2 w3 (-1) I else fX12_reads_b58 v1 v2 w3 w4 I
def fX12_reads_b48 (v1 : Int) (v2 : Int) (w3 : Int) (k0 : Int) (I : zMem) : Option (Int × zMem) :=
  fX12_reads_b50 v1 v2 w3 k0 I
def fX12_reads_b30 (v1 : Int) (v2 : Int) (w3 : Int) (k0 : Int) (I : zMem) : Option (Int × zMem) :=
  if w32 v2 = 1 then if w32 k0 = 1 then fX12_reads_b48 v1 v2 w3 0 I else fX12_reads_b48 v1 v2 w3 1 I else fX12_reads_b50 v1 v2 w3 k0 I
def fX12_reads (v1 : Int) (v2 : Int) (I : zMem) : Option (Int × zMem) :=
  zb (fX12_own v1) (fun r1 => if zin (r1 + 5) 3099 then if w32 (I (51, 0, 0) (ix (r1 + 5))) = 0 then fX12_reads_b30 v1 v2 r1 (-1) I else if zin (r1 + 8) 3099 then fX12_reads_b30 v1 v2 r1 (I (51, 0, 0) (ix (r1 + 8))) I else none else none)
def fX12_isOnProcess_l2 (v1 : Int) (I : zMem) (s : Int) : Option (Int ⊕ (Int ⊕ Int)) :=
  if w32 (I (51, 0, 0) 0) ≤ w32 s then some (.inr (.inl s)) else zb (fX12_own s) (fun r1 => if zin (r1 + 0) 3099 then if w32 (I (51, 0, 0) (ix (r1 + 0))) = w32 v1 then some (.inr (.inr 1)) else some (.inl (s + 1)) else none)
def fX12_isOnProcess (v1 : Int) (I : zMem) : Option Int :=
  zbr (zlp (fX12_isOnProcess_l2 v1 I) 5000 0) (fun x3 => some 0) (fun z => z)
def fX12_resets_l49  (s : (Int × zMem)) : Option ((Int × zMem) ⊕ (Int × zMem)) :=
  if 8 ≤ w32 s.1 then some (.inr (s.1, s.2)) else if zin (39 + s.1) 3099 then zlet (zst s.2 (51, 0, 0) (ix (39 + s.1)) (-1)) (fun I6 => some (.inl (s.1 + 1, I6))) else none
def fX12_resets_l73  (s : (Int × zMem)) : Option ((Int × zMem) ⊕ (Int × zMem)) :=
  if w32 (s.2 (51, 0, 0) 0) ≤ w32 s.1 then some (.inr (s.1, s.2)) else zb (fX12_isIdle s.1 s.2) (fun r8 => some (.inl (s.1 + 1, r8)))
def fX12_resets  (I : zMem) : Option zMem :=
  zlet (zst I (51, 0, 0) 29 (I (51, 0, 0) 55)) (fun I1 => zlet (zst I1 (51, 0, 0) 28 (I1 (51, 0, 0) 55)) (fun I2 => zlet (zst I2 (51, 0, 0) 30 0) (fun I3 => zlet (zst I3 (51, 0, 0) 71 ((I3 (51, 0, 0) 71) + 1)) (fun I4 => zb (zlp (fX12_resets_l49 ) 5000 (0, I4)) (fun x7 => zb (zlp (fX12_resets_l73 ) 5000 (0, x7.2)) (fun x9 => some x9.2))))))
def fX12_reports_l42  (s : zMem) : Option (zMem ⊕ zMem) :=
  if w32 (s (51, 0, 0) 29) = w32 (s (51, 0, 0) 55) then some (.inr s) else if zin (39 + (s (51, 0, 0) 29)) 3099 then zlet (zst s (51, 0, 0) (ix (39 + (s (51, 0, 0) 29))) (-1)) (fun I4 => zlet (zst I4 (51, 0, 0) 29 (((I4 (51, 0, 0) 29) + 1) % 8)) (fun I5 => some (.inl I5))) else none
def fX12_reports_b99_154 (w1 : Int) (I : zMem) : Option ((Int × zMem) ⊕ (Int × zMem)) :=
  some (.inl (w1 + 1, I))
def fX12_reports_l99  (s : (Int × zMem)) : Option ((Int × zMem) ⊕ (Int × zMem)) :=
  if w32 (s.2 (51, 0, 0) 0) ≤ w32 s.1 then some (.inr (s.1, s.2)) else zb (fX12_own s.1) (fun r7 => if zin (r7 + 0) 3099 then if w32 (s.2 (51, 0, 0) (ix (r7 + 0))) = (-1) then fX12_reports_b99_154 s.1 s.2 else zb (fX12_own s.1) (fun r9 => if zin (r9 + 0) 3099 then if zin (39 + (s.2 (51, 0, 0) (ix (r9 + 0)))) 3099 then if w32 (s.2 (51, 0, 0) (ix (39 + (s.2 (51, 0, 0) (ix (r9 + 0)))))) = (-1) then zb (fX12_isIdle s.1 s.2) (fun r12 => fX12_reports_b99_154 s.1 r12) else fX12_reports_b99_154 s.1 s.2 else none else none) else none)
def fX12_reports_b176_265 (w1 : Int) (I : zMem) : Option ((Int × zMem) ⊕ (Int × zMem)) :=
  zlet ((w1 + 1) % 8) (fun a20 => some (.inl (a20, I)))
def fX12_reports_b176_213 (w1 : Int) (k0 : Int) (k1 : Int) (I : zMem) : Option ((Int × zMem) ⊕ (Int × zMem)) :=
  if zin k1 3099 then zlet (zst I (51, 0, 0) (ix k1) k0) (fun I18 => if zin (47 + w1) 3099 then if w32 (I18 (51, 0, 0) (ix (47 + w1))) = 1 then fX12_reports_b176_265 w1 I18 else zb (fX12_isOnProcess w1 I18) (fun r21 => if w32 r21 = 0 then if zin (31 + (I18 (51, 0, 0) 30)) 3099 then zlet (zst I18 (51, 0, 0) (ix (31 + (I18 (51, 0, 0) 30))) w1) (fun I23 => zlet (zst I23 (51, 0, 0) 30 ((I23 (51, 0, 0) 30) + 1)) (fun I24 => fX12_reports_b176_265 w1 I24)) else none else fX12_reports_b176_265 w1 I18) else none) else none
def fX12_reports_l176  (s : (Int × zMem)) : Option ((Int × zMem) ⊕ (Int × zMem)) :=
  if w32 s.1 = w32 (s.2 (51, 0, 0) 28) then some (.inr (s.1, s.2)) else if zin (56 + s.1) 3099 then if w32 (s.2 (51, 0, 0) (ix (56 + s.1))) = (-1) then fX12_reports_b176_213 s.1 0 (47 + s.1) s.2 else fX12_reports_b176_213 s.1 1 (47 + s.1) s.2 else none
def fX12_reports  (I : zMem) : Option zMem :=
  zb (fX12_past (I (51, 0, 0) 29) (I (51, 0, 0) 55)) (fun r1 => zb (fX12_past (I (51, 0, 0) 29) (I (51, 0, 0) 28)) (fun r2 => if w32 r1 ≤ w32 r2 then zb (zlp (fX12_reports_l42 ) 5000 I) (fun x6 => zb (zlp (fX12_reports_l99 ) 5000 (0, x6)) (fun x13 => zlet (zst x13.2 (51, 0, 0) 30 0) (fun I14 => zlet (I14 (51, 0, 0) 29) (fun a15 => zb (zlp (fX12_reports_l176 ) 5000 (a15, I14)) (fun x25 => some x25.2))))) else zb (fX12_resets I) (fun r26 => some r26)))
def fX12_noTray (v1 : Int) (I : zMem) : Option Int :=
  zb (fX12_within (w32 v1) 0 3) (fun r1 => if w32 r1 = 0 then some (-2) else if zin v1 4 then if w32 (I (66, 0, 0) (ix v1)) = (-1) then some (-6) else some 0 else none)
def fX12_send_l95 (v1 : Int) (v2 : Int) (v3 : Int) (w4 : Int) (s : (Int × zMem)) : Option ((Int × zMem) ⊕ (Int × zMem)) :=
  if w32 v2 ≤ w32 s.1 then some (.inr (s.1, s.2)) else if w32 w4 ≤ 0 then some (.inr (s.1, s.2)) else if zin s.1 60 then if ¬ w32 w4 = 0 then if zin ((60 * v3) + (irem s.1 w4)) 240 then zlet (zst s.2 (63, 0, 0) (ix s.1) ((s.2 (63, 0, 0) (ix s.1)) + (s.2 (67, 0, 0) (ix ((60 * v3) + (irem s.1 w4)))))) (fun I9 => some (.inl (s.1 + 1, I9))) else none else none else none
def fX12_send_b90 (v1 : Int) (v2 : Int) (v3 : Int) (k0 : Int) (I : zMem) : Option (Int × zMem) :=
  zb (zlp (fX12_send_l95 v1 v2 v3 k0) 5000 (0, I)) (fun x10 => zb (fX12_endsSend v1 v2 1 x10.2) (fun r11 => zb (fX12_own v1) (fun r12 => if zin (r12 + 5) 3099 then if w32 (r11 (51, 0, 0) (ix (r12 + 5))) = 1 then zb (fX12_own v1) (fun r14 => if zin (r14 + 8) 3099 then some (r11 (51, 0, 0) (ix (r14 + 8)), r11) else none) else some ((-1), r11) else none)))
def fX12_send_b58 (v1 : Int) (v2 : Int) (v3 : Int) (I : zMem) : Option (Int × zMem) :=
  zb (fX12_canSend v1 I) (fun r5 => if w32 r5 = 0 then some ((-5), I) else zb (fX12_beginsSend v1 v2 I) (fun r6 => if w32 v3 = (-1) then fX12_send_b90 v1 v2 v3 0 r6 else if zin v3 4 then fX12_send_b90 v1 v2 v3 (r6 (66, 0, 0) (ix v3)) r6 else none))
def fX12_send (v1 : Int) (v2 : Int) (v3 : Int) (I : zMem) : Option (Int × zMem) :=
  zlet (zst I (50, 0, 0) 0 0) (fun I1 => zb (fX12_isProcess v1 I1) (fun r2 => if w32 r2 = 0 then some ((-2), I1) else zb (fX12_within (w32 v3) (-1) 3) (fun r3 => if w32 r3 = 0 then some ((-2), I1) else zb (fX12_isLength v2) (fun r4 => if w32 r4 = 0 then some ((-3), I1) else if w32 v3 = (-1) then fX12_send_b58 v1 v2 v3 I1 else if zin v3 4 then if w32 (I1 (66, 0, 0) (ix v3)) = (-1) then some ((-6), I1) else fX12_send_b58 v1 v2 v3 I1 else none))))
def fX12_answer (v1 : Int) (v2 : Int) (I : zMem) : Option (Int × zMem) :=
  zlet (zst I (50, 0, 0) 0 0) (fun I1 => zb (fX12_isProcess v1 I1) (fun r2 => if w32 r2 = 0 then some ((-2), I1) else zb (fX12_within (w32 v2) 0 2) (fun r3 => if w32 r3 = 0 then some ((-3), I1) else zb (fX12_own v1) (fun r4 => if zin (r4 + 4) 3099 then if w32 (I1 (51, 0, 0) (ix (r4 + 4))) = 1 then zb (fX12_reads v1 v2 I1) (fun r6 => some (r6.1, r6.2)) else some ((-5), I1) else none))))
def fX12_burst_l92 (v1 : Int) (v2 : Int) (v3 : Int) (v4 : Int) (w5 : Int) (s : (Int × zMem)) : Option ((Int × zMem) ⊕ (Int × zMem)) :=
  if w32 w5 ≤ w32 s.1 then some (.inr (s.1, s.2)) else if zin ((60 * v4) + s.1) 240 then if zin s.1 60 then zlet (zst s.2 (63, 0, 0) (ix s.1) (s.2 (67, 0, 0) (ix ((60 * v4) + s.1)))) (fun I11 => some (.inl (s.1 + 1, I11))) else none else none
def fX12_burst (v1 : Int) (v2 : Int) (v3 : Int) (v4 : Int) (I : zMem) : Option (Int × zMem) :=
  zlet (zst I (50, 0, 0) 0 0) (fun I1 => zb (fX12_isProcess v1 I1) (fun r2 => if w32 r2 = 0 then some ((-2), I1) else zb (fX12_within (w32 v2) 0 3) (fun r3 => if w32 r3 = 0 then some ((-2), I1) else zb (fX12_within (w32 v3) 0 1) (fun r4 => if w32 r4 = 0 then some ((-2), I1) else zb (fX12_within (w32 v4) 0 3) (fun r5 => if w32 r5 = 0 then some ((-2), I1) else if zin v4 4 then if w32 (I1 (66, 0, 0) (ix v4)) = (-1) then some ((-6), I1) else zlet (I1 (66, 0, 0) (ix v4)) (fun a7 => if w32 a7 = 0 then some ((-4), I1) else zb (fX12_laysSending v2 a7 I1) (fun r8 => zb (zlp (fX12_burst_l92 v1 v2 v3 v4 a7) 5000 (0, r8)) (fun x12 => zb (fX12_hears v1 v3 a7 x12.2) (fun r13 => zb (fX12_own v1) (fun r14 => if zin (r14 + 8) 3099 then some (r13 (51, 0, 0) (ix (r14 + 8)), r13) else none))))) else none)))))
def fX12_tick_l30 (v1 : Int) (w2 : Int) (s : (Int × zMem)) : Option ((Int × zMem) ⊕ (Int × zMem)) :=
  if w32 v1 ≤ w32 s.1 then some (.inr (s.1, s.2)) else zb (fX12_ticks s.2) (fun r4 => some (.inl (s.1 + 1, r4)))
def fX12_tick (v1 : Int) (I : zMem) : Option (Int × zMem) :=
  zlet (zst I (50, 0, 0) 0 0) (fun I1 => zb (fX12_within (w32 v1) 1 60) (fun r2 => if w32 r2 = 0 then some ((-3), I1) else zlet (I1 (51, 0, 0) 66) (fun a3 => zb (zlp (fX12_tick_l30 v1 a3) 5000 (0, I1)) (fun x5 => some ((x5.2 (51, 0, 0) 66) - a3, x5.2)))))
def fX12_report  (I : zMem) : Option (Int × zMem) :=
  zlet (zst I (50, 0, 0) 0 0) (fun I1 => zb (fX12_reports I1) (fun r2 => some (r2 (51, 0, 0) 30, r2)))
def fX12_draw (v1 : Int) (I : zMem) : Option (Int × zMem) :=
  zlet (zst I (50, 0, 0) 14 ((1103515245 * (I (50, 0, 0) 14)) + 12345)) (fun I1 => if ¬ w32 v1 = 0 then some (irem (iushr (I1 (50, 0, 0) 14) 16) v1, I1) else none)
def fX12_goesRound_b124 (v1 : Int) (v2 : Int) (v3 : Int) (I : zMem) : Option zMem :=
  zb (fX12_ticks I) (fun r6 => some r6)
def fX12_goesRound_l83 (v1 : Int) (v2 : Int) (v3 : Int) (w4 : Int) (s : (Int × zMem)) : Option ((Int × zMem) ⊕ (Int × zMem)) :=
  if w32 v2 ≤ w32 s.1 then some (.inr (s.1, s.2)) else if zin s.1 60 then zb (fX12_draw ((2 * v3) + 1) s.2) (fun r10 => zlet (zst r10.2 (63, 0, 0) (ix s.1) ((s.2 (63, 0, 0) (ix s.1)) + (r10.1 - v3))) (fun I11 => some (.inl (s.1 + 1, I11)))) else none
def fX12_goesRound_b78 (v1 : Int) (v2 : Int) (v3 : Int) (k0 : Int) (I : zMem) : Option zMem :=
  zb (zlp (fX12_goesRound_l83 v1 v2 v3 k0) 5000 (0, I)) (fun x12 => zb (fX12_endsSend v1 v2 k0 x12.2) (fun r13 => fX12_goesRound_b124 v1 v2 v3 r13))
def fX12_goesRound_b50 (v1 : Int) (v2 : Int) (v3 : Int) (I : zMem) : Option zMem :=
  zb (fX12_canSend v1 I) (fun r5 => if w32 r5 = 0 then fX12_goesRound_b124 v1 v2 v3 I else zb (fX12_beginsSend v1 v2 I) (fun r7 => zb (fX12_draw 16 r7) (fun r8 => if w32 r8.1 = 0 then fX12_goesRound_b78 v1 v2 v3 0 r8.2 else fX12_goesRound_b78 v1 v2 v3 1 r8.2)))
def fX12_goesRound_b46 (v1 : Int) (v2 : Int) (v3 : Int) (k0 : Int) (k1 : Int) (I : zMem) : Option zMem :=
  zb (fX12_reads k1 k0 I) (fun r4 => fX12_goesRound_b50 v1 v2 v3 r4.2)
def fX12_goesRound (v1 : Int) (v2 : Int) (v3 : Int) (I : zMem) : Option zMem :=
  zb (fX12_own v1) (fun r1 => if zin (r1 + 4) 3099 then if w32 (I (51, 0, 0) (ix (r1 + 4))) = 1 then zb (fX12_draw 8 I) (fun r3 => if w32 r3.1 = 0 then fX12_goesRound_b46 v1 v2 v3 1 v1 r3.2 else if w32 r3.1 = 1 then fX12_goesRound_b46 v1 v2 v3 2 v1 r3.2 else fX12_goesRound_b46 v1 v2 v3 0 v1 r3.2) else fX12_goesRound_b50 v1 v2 v3 I else none)
def fX12_run_b57_93 (v1 : Int) (v2 : Int) (v3 : Int) (v4 : Int) (w5 : Int) (w6 : Int) (I : zMem) : Option ((Int × zMem) ⊕ (Int × zMem)) :=
  some (.inl (w6 + 1, I))
def fX12_run_l57 (v1 : Int) (v2 : Int) (v3 : Int) (v4 : Int) (w5 : Int) (s : (Int × zMem)) : Option ((Int × zMem) ⊕ (Int × zMem)) :=
  if w32 v2 ≤ w32 s.1 then some (.inr (s.1, s.2)) else if ¬ w32 (s.2 (51, 0, 0) 0) = 0 then zb (fX12_goesRound (irem s.1 (s.2 (51, 0, 0) 0)) v3 v4 s.2) (fun r7 => if w32 (irem s.1 8) = 7 then zb (fX12_reports r7) (fun r8 => fX12_run_b57_93 v1 v2 v3 v4 w5 s.1 r8) else fX12_run_b57_93 v1 v2 v3 v4 w5 s.1 r7) else none
def fX12_run (v1 : Int) (v2 : Int) (v3 : Int) (v4 : Int) (I : zMem) : Option (Int × zMem) :=
  zlet (zst I (50, 0, 0) 0 0) (fun I1 => zb (fX12_within (w32 v2) 1 60) (fun r2 => if w32 r2 = 0 then some ((-3), I1) else zb (fX12_isLength v3) (fun r3 => if w32 r3 = 0 then some ((-3), I1) else zb (fX12_within (w32 v4) 0 127) (fun r4 => if w32 r4 = 0 then some ((-3), I1) else zlet (zst I1 (50, 0, 0) 14 v1) (fun I5 => zlet (I5 (51, 0, 0) 66) (fun a6 => zb (zlp (fX12_run_l57 v1 v2 v3 v4 a6) 5000 (0, I5)) (fun x9 => some ((x9.2 (51, 0, 0) 66) - a6, x9.2))))))))
def fX12_goesClean_b2_61 (v1 : Int) (w2 : Int) (I : zMem) : Option ((Int × zMem) ⊕ (Int × zMem)) :=
  some (.inl (w2 + 1, I))
def fX12_goesClean_b2_35 (v1 : Int) (w2 : Int) (I : zMem) : Option ((Int × zMem) ⊕ (Int × zMem)) :=
  zb (fX12_canSend w2 I) (fun r4 => if w32 r4 = 0 then fX12_goesClean_b2_61 v1 w2 I else zb (fX12_beginsSend w2 39 I) (fun r5 => zb (fX12_endsSend w2 39 1 r5) (fun r6 => fX12_goesClean_b2_61 v1 w2 r6)))
def fX12_goesClean_l2 (v1 : Int) (s : (Int × zMem)) : Option ((Int × zMem) ⊕ (Int × zMem)) :=
  if w32 (s.2 (51, 0, 0) 0) ≤ w32 s.1 then some (.inr (s.1, s.2)) else zb (fX12_own s.1) (fun r1 => if zin (r1 + 4) 3099 then if w32 (s.2 (51, 0, 0) (ix (r1 + 4))) = 1 then zb (fX12_reads s.1 v1 s.2) (fun r3 => fX12_goesClean_b2_35 v1 s.1 r3.2) else fX12_goesClean_b2_35 v1 s.1 s.2 else none)
def fX12_goesClean (v1 : Int) (I : zMem) : Option zMem :=
  zb (zlp (fX12_goesClean_l2 v1) 5000 (0, I)) (fun x7 => zb (fX12_ticks x7.2) (fun r8 => zb (fX12_reports r8) (fun r9 => some r9)))
def fX12_isDrained_b31 (I : zMem) : Option Int :=
  some 0
def fX12_isDrained  (I : zMem) : Option Int :=
  if w32 (I (51, 0, 0) 7) = 0 then if w32 (I (51, 0, 0) 29) = w32 (I (51, 0, 0) 28) then some 1 else fX12_isDrained_b31 I else fX12_isDrained_b31 I
def fX12_goesDrain_b11_41 (v1 : Int) (w2 : Int) (I : zMem) : Option ((Int × zMem) ⊕ ((Int × zMem) ⊕ (Int × zMem))) :=
  some (.inl (w2 + 1, I))
def fX12_goesDrain_l11 (v1 : Int) (s : (Int × zMem)) : Option ((Int × zMem) ⊕ ((Int × zMem) ⊕ (Int × zMem))) :=
  if 30 < w32 s.1 then some (.inr (.inl (s.1, s.2))) else zb (fX12_isDrained s.2) (fun r2 => if w32 r2 = 0 then if 30 ≤ w32 s.1 then fX12_goesDrain_b11_41 v1 s.1 s.2 else zb (fX12_goesClean ((ishr v1 s.1) % 2) s.2) (fun r3 => fX12_goesDrain_b11_41 v1 s.1 r3) else some (.inr (.inr (s.1, s.2))))
def fX12_goesDrain (v1 : Int) (I : zMem) : Option (Int × zMem) :=
  zlet (zst I (51, 0, 0) 6 20) (fun I1 => zbr (zlp (fX12_goesDrain_l11 v1) 5000 (0, I1)) (fun x4 => some ((-1), x4.2)) (fun z => z))
def fX12_stores_l2  (s : (Int × zMem)) : Option ((Int × zMem) ⊕ (Int × zMem)) :=
  if 1033 ≤ w32 s.1 then some (.inr (s.1, s.2)) else if zin s.1 3099 then if zin s.1 1033 then zlet (zst s.2 (52, 0, 0) (ix s.1) (s.2 (51, 0, 0) (ix s.1))) (fun I3 => some (.inl (s.1 + 1, I3))) else none else none
def fX12_stores  (I : zMem) : Option zMem :=
  zb (zlp (fX12_stores_l2 ) 5000 (0, I)) (fun x4 => some x4.2)
def fX12_isAgain_l2  (s : (Int × zMem)) : Option ((Int × zMem) ⊕ (Int × zMem)) :=
  if 1033 ≤ w32 s.1 then some (.inr (s.1, s.2)) else if zin s.1 1033 then if zin s.1 3099 then zlet (zst s.2 (51, 0, 0) (ix s.1) (s.2 (52, 0, 0) (ix s.1))) (fun I3 => some (.inl (s.1 + 1, I3))) else none else none
def fX12_isAgain  (I : zMem) : Option zMem :=
  zb (zlp (fX12_isAgain_l2 ) 5000 (0, I)) (fun x4 => some x4.2)
def fX12_drain  (I : zMem) : Option (Int × zMem) :=
  zlet (zst I (50, 0, 0) 0 0) (fun I1 => zb (fX12_stores I1) (fun r2 => zb (fX12_goesDrain 0 r2) (fun r3 => zb (fX12_isAgain r3.2) (fun r4 => some (r3.1, r4)))))
def fX12_drained_b62 (v1 : Int) (k0 : Int) (I : zMem) : Option (Int × zMem) :=
  zb (fX12_isAgain I) (fun r5 => some (k0, r5))
def fX12_drained (v1 : Int) (I : zMem) : Option (Int × zMem) :=
  zlet (zst I (50, 0, 0) 0 0) (fun I1 => if 0 ≤ w32 v1 then zb (fX12_stores I1) (fun r2 => zlet (r2 (51, 0, 0) 66) (fun a3 => zb (fX12_goesDrain 0 r2) (fun r4 => if w32 ((r4.2 (51, 0, 0) 66) - a3) ≤ w32 v1 then fX12_drained_b62 v1 (-1) r4.2 else if zin (73 + (irem (a3 + v1) 256)) 3099 then fX12_drained_b62 v1 (r4.2 (51, 0, 0) (ix (73 + (irem (a3 + v1) 256)))) r4.2 else none))) else some ((-3), I1))
def fX12_worst_b45_91 (v1 : Int) (v2 : Int) (w3 : Int) (w4 : Int) (w5 : Int) (I : zMem) : Option ((Int × Int × Int × zMem) ⊕ (Int × Int × Int × zMem)) :=
  some (.inl (w3, w4, w5 + 1, I))
def fX12_worst_b45_75 (v1 : Int) (v2 : Int) (w3 : Int) (w4 : Int) (w5 : Int) (w6 : Int) (I : zMem) : Option ((Int × Int × Int × zMem) ⊕ (Int × Int × Int × zMem)) :=
  if w32 w3 < w32 w6 then fX12_worst_b45_91 v1 v2 w6 w5 w5 I else fX12_worst_b45_91 v1 v2 w3 w4 w5 I
def fX12_worst_l45 (v1 : Int) (v2 : Int) (s : (Int × Int × Int × zMem)) : Option ((Int × Int × Int × zMem) ⊕ (Int × Int × Int × zMem)) :=
  if w32 (ishl 1 v1) ≤ w32 s.2.2.1 then some (.inr (s.1, s.2.1, s.2.2.1, s.2.2.2)) else zb (fX12_goesDrain s.2.2.1 s.2.2.2) (fun r5 => zb (fX12_isAgain r5.2) (fun r6 => if w32 r5.1 = (-1) then fX12_worst_b45_75 v1 v2 s.1 s.2.1 s.2.2.1 31 r6 else fX12_worst_b45_75 v1 v2 s.1 s.2.1 s.2.2.1 r5.1 r6))
def fX12_worst (v1 : Int) (v2 : Int) (I : zMem) : Option (Int × zMem) :=
  zlet (zst I (50, 0, 0) 0 0) (fun I1 => zb (fX12_within (w32 v2) 0 1) (fun r2 => if w32 r2 = 0 then some ((-2), I1) else zb (fX12_within (w32 v1) 0 3) (fun r3 => if w32 r3 = 0 then some ((-3), I1) else zb (fX12_stores I1) (fun r4 => zb (zlp (fX12_worst_l45 v1 v2) 5000 ((-1), 0, 0, r4)) (fun x7 => if w32 v2 = 1 then some (x7.2.1, x7.2.2.2) else if w32 x7.1 ≤ 30 then some (x7.1, x7.2.2.2) else some ((-1), x7.2.2.2))))))
def fX12_process (v1 : Int) (v2 : Int) (I : zMem) : Option (Int × zMem) :=
  zlet (zst I (50, 0, 0) 0 0) (fun I1 => zb (fX12_isProcess v1 I1) (fun r2 => if w32 r2 = 0 then some ((-2), I1) else zb (fX12_within (w32 v2) 0 5) (fun r3 => if w32 r3 = 0 then some ((-2), I1) else zb (fX12_own v1) (fun r4 => if w32 v2 = 0 then if zin (r4 + 0) 3099 then some (I1 (51, 0, 0) (ix (r4 + 0)), I1) else none else if w32 v2 = 1 then if zin (r4 + 0) 3099 then if w32 (I1 (51, 0, 0) (ix (r4 + 0))) = (-1) then some ((-1), I1) else if zin (r4 + 1) 3099 then some (I1 (51, 0, 0) (ix (r4 + 1)), I1) else none else none else if w32 v2 = 2 then if zin (r4 + 2) 3099 then some (I1 (51, 0, 0) (ix (r4 + 2)), I1) else none else if w32 v2 = 3 then if zin (r4 + 3) 3099 then some (I1 (51, 0, 0) (ix (r4 + 3)), I1) else none else if w32 v2 = 4 then if zin (r4 + 4) 3099 then some (I1 (51, 0, 0) (ix (r4 + 4)), I1) else none else if zin (r4 + 0) 3099 then if w32 (I1 (51, 0, 0) (ix (r4 + 0))) = (-1) then some ((-1), I1) else if zin (r4 + 3) 3099 then zb (fX12_versionOf (I1 (51, 0, 0) (ix (r4 + 3)))) (fun r13 => some (r13, I1)) else none else none))))
def fX12_kept (v1 : Int) (v2 : Int) (I : zMem) : Option (Int × zMem) :=
  zlet (zst I (50, 0, 0) 0 0) (fun I1 => zb (fX12_within (w32 v1) 0 7) (fun r2 => if w32 r2 = 0 then some ((-2), I1) else zb (fX12_within (w32 v2) 0 1) (fun r3 => if w32 r3 = 0 then some ((-2), I1) else if zin (39 + v1) 3099 then if w32 (I1 (51, 0, 0) (ix (39 + v1))) = (-1) then some ((-1), I1) else if w32 v2 = 0 then some (I1 (51, 0, 0) (ix (39 + v1)), I1) else if zin (47 + v1) 3099 then some (I1 (51, 0, 0) (ix (47 + v1)), I1) else none else none)))
def fX12_again (v1 : Int) (I : zMem) : Option (Int × zMem) :=
  zlet (zst I (50, 0, 0) 0 0) (fun I1 => if 0 ≤ w32 v1 then if w32 (I1 (51, 0, 0) 30) ≤ w32 v1 then some ((-1), I1) else if zin (31 + v1) 3099 then some (I1 (51, 0, 0) (ix (31 + v1)), I1) else none else some ((-3), I1))
def fX12_waiting (v1 : Int) (I : zMem) : Option (Int × zMem) :=
  zlet (zst I (50, 0, 0) 0 0) (fun I1 => if 0 ≤ w32 v1 then if w32 (I1 (51, 0, 0) 7) ≤ w32 v1 then some ((-1), I1) else if zin (8 + v1) 3099 then some (I1 (51, 0, 0) (ix (8 + v1)), I1) else none else some ((-3), I1))
def fX12_next_l62 (v1 : Int) (v2 : Int) (w3 : Int) (w4 : Int) (w5 : Int) (s : (Int × zMem)) : Option ((Int × zMem) ⊕ (Int × zMem)) :=
  if 39 ≤ w32 s.1 then some (.inr (s.1, s.2)) else zb (fX12_own v1) (fun r6 => if zin ((r6 + 49) + s.1) 3099 then if zin s.1 39 then zlet (zst s.2 (57, 0, 0) (ix s.1) (s.2 (51, 0, 0) (ix ((r6 + 49) + s.1)))) (fun I9 => some (.inl (s.1 + 1, I9))) else none else none)
def fX12_next_b53_129 (v1 : Int) (v2 : Int) (w3 : Int) (w4 : Int) (w5 : Int) (I : zMem) : Option ((Int × Int × Int × zMem) ⊕ (Int × Int × Int × zMem)) :=
  some (.inl (w3, w4, w5 + 1, I))
def fX12_next_l53 (v1 : Int) (v2 : Int) (s : (Int × Int × Int × zMem)) : Option ((Int × Int × Int × zMem) ⊕ (Int × Int × Int × zMem)) :=
  if 4 ≤ w32 s.2.2.1 then some (.inr (s.1, s.2.1, s.2.2.1, s.2.2.2)) else zb (zlp (fX12_next_l62 v1 v2 s.1 s.2.1 s.2.2.1) 5000 (0, s.2.2.2)) (fun x10 => zb (fX12_addsOften s.2.2.1 v2 x10.2) (fun r11 => zb (fX12_leastApart 1 r11) (fun r12 => if w32 s.2.1 < w32 r12 then fX12_next_b53_129 v1 v2 s.2.2.1 r12 s.2.2.1 r11 else fX12_next_b53_129 v1 v2 s.1 s.2.1 s.2.2.1 r11)))
def fX12_next (v1 : Int) (v2 : Int) (I : zMem) : Option (Int × zMem) :=
  zlet (zst I (50, 0, 0) 0 0) (fun I1 => zb (fX12_isProcess v1 I1) (fun r2 => if w32 r2 = 0 then some ((-2), I1) else zb (fX12_isLength v2) (fun r3 => if w32 r3 = 0 then some ((-3), I1) else zb (fX12_own v1) (fun r4 => if zin (r4 + 0) 3099 then if w32 (I1 (51, 0, 0) (ix (r4 + 0))) = (-1) then some ((-5), I1) else zb (zlp (fX12_next_l53 v1 v2) 5000 ((-1), (-1), 0, I1)) (fun x13 => some (x13.1, x13.2.2.2)) else none))))
def fX12_enough_b87_139 (v1 : Int) (v2 : Int) (v3 : Int) (w4 : Int) (w5 : Int) (w6 : Int) (k0 : Int) (k1 : Int) (I : zMem) : Option ((Int × zMem) ⊕ (Int × zMem)) :=
  if zin k1 39 then zlet (zst I (58, 0, 0) (ix k1) k0) (fun I13 => some (.inl (w6 + 1, I13))) else none
def fX12_enough_l87 (v1 : Int) (v2 : Int) (v3 : Int) (w4 : Int) (w5 : Int) (s : (Int × zMem)) : Option ((Int × zMem) ⊕ (Int × zMem)) :=
  if 39 ≤ w32 s.1 then some (.inr (s.1, s.2)) else if zin (w4 + 6) 3099 then if zin (w4 + 2) 3099 then if w32 (s.2 (51, 0, 0) (ix (w4 + 6))) = w32 (s.2 (51, 0, 0) (ix (w4 + 2))) then if zin ((w4 + 10) + s.1) 3099 then fX12_enough_b87_139 v1 v2 v3 w4 w5 s.1 (s.2 (51, 0, 0) (ix ((w4 + 10) + s.1))) s.1 s.2 else none else fX12_enough_b87_139 v1 v2 v3 w4 w5 s.1 0 s.1 s.2 else none else none
def fX12_enough_l181 (v1 : Int) (v2 : Int) (v3 : Int) (w4 : Int) (w5 : Int) (w6 : Int) (s : (Int × zMem)) : Option ((Int × zMem) ⊕ (Int × zMem)) :=
  if w32 v2 ≤ w32 s.1 then some (.inr (s.1, s.2)) else if zin s.1 60 then zlet (s.2 (56, 0, 0) (ix s.1)) (fun a19 => if zin a19 39 then zb (fX12_codeBit w5 a19) (fun r21 => zb (fX12_signed r21 v3) (fun r22 => zb (fX12_held ((s.2 (58, 0, 0) (ix a19)) + r22) (s.2 (51, 0, 0) 5)) (fun r23 => zlet (zst s.2 (58, 0, 0) (ix a19) r23) (fun I24 => some (.inl (s.1 + 1, I24)))))) else none) else none
def fX12_enough_l149 (v1 : Int) (v2 : Int) (v3 : Int) (w4 : Int) (w5 : Int) (s : (Int × zMem)) : Option ((Int × zMem) ⊕ ((Int × zMem) ⊕ (Int × zMem))) :=
  if 8 < w32 s.1 then some (.inr (.inl (s.1, s.2))) else if zin (w4 + 3) 3099 then zb (fX12_versionOf (((s.2 (51, 0, 0) (ix (w4 + 3))) + s.1) - 1)) (fun r16 => zb (fX12_laysSending r16 v2 s.2) (fun r17 => zb (zlp (fX12_enough_l181 v1 v2 v3 w4 w5 s.1) 5000 (0, r17)) (fun x25 => zb (fX12_bestNow x25.2) (fun r26 => if w32 r26.1 = w32 w5 then some (.inr (.inr (s.1, r26.2))) else some (.inl (s.1 + 1, r26.2)))))) else none
def fX12_enough (v1 : Int) (v2 : Int) (v3 : Int) (I : zMem) : Option (Int × zMem) :=
  zlet (zst I (50, 0, 0) 0 0) (fun I1 => zb (fX12_isProcess v1 I1) (fun r2 => if w32 r2 = 0 then some ((-2), I1) else zb (fX12_isLength v2) (fun r3 => if w32 r3 = 0 then some ((-3), I1) else zb (fX12_within (w32 v3) 1 60) (fun r4 => if w32 r4 = 0 then some ((-3), I1) else zb (fX12_own v1) (fun r5 => if zin (r5 + 0) 3099 then if w32 (I1 (51, 0, 0) (ix (r5 + 0))) = (-1) then some ((-5), I1) else if zin (r5 + 1) 3099 then zb (fX12_wordOf (I1 (51, 0, 0) (ix (r5 + 0))) (I1 (51, 0, 0) (ix (r5 + 1)))) (fun r8 => zb (zlp (fX12_enough_l87 v1 v2 v3 r5 r8) 5000 (0, I1)) (fun x14 => zbr (zlp (fX12_enough_l149 v1 v2 v3 r5 r8) 5000 (1, x14.2)) (fun x27 => some ((-1), x27.2)) (fun z => z))) else none else none)))))
def fX12_sumNow_l4 (v1 : Int) (I : zMem) (s : (Int × Int)) : Option ((Int × Int) ⊕ (Int × Int)) :=
  if 39 ≤ w32 s.2 then some (.inr (s.1, s.2)) else if zin v1 2048 then if zin s.2 39 then zb (fX12_signed (land (lshr (I (54, 0, 0) (ix v1)) s.2) 1) (I (58, 0, 0) (ix s.2))) (fun r3 => zlet (s.1 + r3) (fun a4 => some (.inl (a4, s.2 + 1)))) else none else none
def fX12_sumNow (v1 : Int) (I : zMem) : Option Int :=
  zb (zlp (fX12_sumNow_l4 v1 I) 5000 (0, 0)) (fun x5 => some x5.1)
def fX12_noSoft (v1 : Int) (I : zMem) : Option (Int × zMem) :=
  zb (fX12_isProcess v1 I) (fun r1 => if w32 r1 = 0 then some ((-2), I) else zb (fX12_own v1) (fun r2 => if zin (r2 + 9) 3099 then if w32 (I (51, 0, 0) (ix (r2 + 9))) = 0 then some ((-6), I) else zb (fX12_laysSoft v1 I) (fun r4 => some (0, r4)) else none))
def fX12_secondNow_b7_52 (v1 : Int) (I : zMem) (w2 : Int) (w3 : Int) (w4 : Int) : Option ((Int × Int × Int) ⊕ (Int × Int × Int)) :=
  some (.inl (w2, w3, w4 + 1))
def fX12_secondNow_b7_46 (v1 : Int) (I : zMem) (w4 : Int) (w5 : Int) : Option ((Int × Int × Int) ⊕ (Int × Int × Int)) :=
  fX12_secondNow_b7_52 v1 I w4 w5 w4
def fX12_secondNow_l7 (v1 : Int) (I : zMem) (s : (Int × Int × Int)) : Option ((Int × Int × Int) ⊕ (Int × Int × Int)) :=
  if 2048 ≤ w32 s.2.2 then some (.inr (s.1, s.2.1, s.2.2)) else if w32 s.2.2 = w32 v1 then fX12_secondNow_b7_52 v1 I s.1 s.2.1 s.2.2 else zb (fX12_sumNow s.2.2 I) (fun r1 => if w32 s.1 = (-1) then fX12_secondNow_b7_46 v1 I s.2.2 r1 else if w32 s.2.1 < w32 r1 then fX12_secondNow_b7_46 v1 I s.2.2 r1 else fX12_secondNow_b7_52 v1 I s.1 s.2.1 s.2.2)
def fX12_secondNow (v1 : Int) (I : zMem) : Option Int :=
  zb (zlp (fX12_secondNow_l7 v1 I) 5000 ((-1), 0, 0)) (fun x2 => some x2.1)
def fX12_soft (v1 : Int) (v2 : Int) (I : zMem) : Option (Int × zMem) :=
  zlet (zst I (50, 0, 0) 0 0) (fun I1 => zb (fX12_noSoft v1 I1) (fun r2 => if w32 r2.1 = 0 then zb (fX12_within (w32 v2) 0 38) (fun r3 => if w32 r3 = 0 then some ((-99000007), r2.2) else if zin v2 39 then some (r2.2 (58, 0, 0) (ix v2), r2.2) else none) else some ((-99000000) + r2.1, r2.2)))
def fX12_heard (v1 : Int) (v2 : Int) (I : zMem) : Option (Int × zMem) :=
  zlet (zst I (50, 0, 0) 0 0) (fun I1 => zb (fX12_isProcess v1 I1) (fun r2 => if w32 r2 = 0 then some ((-2), I1) else zb (fX12_within (w32 v2) 0 2) (fun r3 => if w32 r3 = 0 then some ((-2), I1) else zb (fX12_own v1) (fun r4 => if zin ((r4 + 6) + v2) 3099 then some (I1 (51, 0, 0) (ix ((r4 + 6) + v2)), I1) else none))))
def fX12_best (v1 : Int) (I : zMem) : Option (Int × zMem) :=
  zlet (zst I (50, 0, 0) 0 0) (fun I1 => zb (fX12_noSoft v1 I1) (fun r2 => if w32 r2.1 = 0 then zb (fX12_bestNow r2.2) (fun r3 => some (r3.1, r3.2)) else some (r2.1, r2.2)))
def fX12_sum (v1 : Int) (v2 : Int) (I : zMem) : Option (Int × zMem) :=
  zlet (zst I (50, 0, 0) 0 0) (fun I1 => zb (fX12_isProcess v1 I1) (fun r2 => if w32 r2 = 0 then some ((-99000002), I1) else zb (fX12_isWord v2) (fun r3 => if w32 r3 = 0 then some ((-99000003), I1) else zb (fX12_noSoft v1 I1) (fun r4 => if w32 r4.1 = 0 then zb (fX12_sumNow v2 r4.2) (fun r5 => some (r5, r4.2)) else some ((-99000000) + r4.1, r4.2)))))
def fX12_margin (v1 : Int) (I : zMem) : Option (Int × zMem) :=
  zlet (zst I (50, 0, 0) 0 0) (fun I1 => zb (fX12_noSoft v1 I1) (fun r2 => if w32 r2.1 = 0 then zb (fX12_bestNow r2.2) (fun r3 => zb (fX12_sumNow r3.1 r3.2) (fun r4 => zb (fX12_secondNow r3.1 r3.2) (fun r5 => zb (fX12_sumNow r5 r3.2) (fun r6 => some (r4 - r6, r3.2))))) else some (r2.1, r2.2)))
def fX12_second (v1 : Int) (I : zMem) : Option (Int × zMem) :=
  zlet (zst I (50, 0, 0) 0 0) (fun I1 => zb (fX12_noSoft v1 I1) (fun r2 => if w32 r2.1 = 0 then zb (fX12_bestNow r2.2) (fun r3 => zb (fX12_secondNow r3.1 r3.2) (fun r4 => some (r4, r3.2))) else some (r2.1, r2.2)))
def fX12_greatestOf_b6_48 (v1 : Int) (v2 : Int) (I : zMem) (w3 : Int) (w4 : Int) : Option ((Int × Int) ⊕ (Int × Int)) :=
  some (.inl (w3, w4 + 1))
def fX12_greatestOf_b6_47 (v1 : Int) (v2 : Int) (I : zMem) (w4 : Int) (k0 : Int) : Option ((Int × Int) ⊕ (Int × Int)) :=
  fX12_greatestOf_b6_48 v1 v2 I k0 w4
def fX12_greatestOf_l6 (v1 : Int) (v2 : Int) (I : zMem) (s : (Int × Int)) : Option ((Int × Int) ⊕ (Int × Int)) :=
  if 2048 ≤ w32 s.2 then some (.inr (s.1, s.2)) else zb (fX12_bitAt s.2 v1) (fun r1 => if w32 r1 = w32 v2 then zb (fX12_sumNow s.2 I) (fun r2 => if w32 r2 ≤ w32 s.1 then fX12_greatestOf_b6_47 v1 v2 I s.2 s.1 else fX12_greatestOf_b6_47 v1 v2 I s.2 r2) else fX12_greatestOf_b6_48 v1 v2 I s.1 s.2)
def fX12_greatestOf (v1 : Int) (v2 : Int) (I : zMem) : Option Int :=
  zb (zlp (fX12_greatestOf_l6 v1 v2 I) 5000 ((-1073741824), 0)) (fun x3 => some x3.1)
def fX12_lean (v1 : Int) (v2 : Int) (I : zMem) : Option (Int × zMem) :=
  zlet (zst I (50, 0, 0) 0 0) (fun I1 => zb (fX12_isProcess v1 I1) (fun r2 => if w32 r2 = 0 then some ((-99000002), I1) else zb (fX12_within (w32 v2) 0 10) (fun r3 => if w32 r3 = 0 then some ((-99000003), I1) else zb (fX12_noSoft v1 I1) (fun r4 => if w32 r4.1 = 0 then zb (fX12_greatestOf v2 1 r4.2) (fun r5 => zb (fX12_greatestOf v2 0 r4.2) (fun r6 => some (r5 - r6, r4.2))) else some ((-99000000) + r4.1, r4.2)))))
def fX12_ties_b54_92 (v1 : Int) (v2 : Int) (w4 : Int) (I : zMem) (w6 : Int) (k0 : Int) (k1 : Int) : Option ((Int × Int) ⊕ (Int × Int)) :=
  zlet (k1 + k0) (fun a8 => some (.inl (a8, w6 + 1)))
def fX12_ties_b54_87 (v1 : Int) (v2 : Int) (w4 : Int) (I : zMem) (w6 : Int) (k0 : Int) : Option ((Int × Int) ⊕ (Int × Int)) :=
  fX12_ties_b54_92 v1 v2 w4 I w6 1 k0
def fX12_ties_b54_91 (v1 : Int) (v2 : Int) (w4 : Int) (I : zMem) (w6 : Int) (k0 : Int) : Option ((Int × Int) ⊕ (Int × Int)) :=
  fX12_ties_b54_92 v1 v2 w4 I w6 0 k0
def fX12_ties_l54 (v1 : Int) (v2 : Int) (w4 : Int) (I : zMem) (s : (Int × Int)) : Option ((Int × Int) ⊕ (Int × Int)) :=
  if 2048 ≤ w32 s.2 then some (.inr (s.1, s.2)) else zb (fX12_sumNow s.2 I) (fun r7 => if w32 r7 = w32 w4 then if w32 v2 = 0 then fX12_ties_b54_87 v1 v2 w4 I s.2 s.1 else zb (fX12_isWhole s.2) (fun r9 => if w32 r9 = 0 then fX12_ties_b54_91 v1 v2 w4 I s.2 s.1 else fX12_ties_b54_87 v1 v2 w4 I s.2 s.1) else fX12_ties_b54_91 v1 v2 w4 I s.2 s.1)
def fX12_ties (v1 : Int) (v2 : Int) (I : zMem) : Option (Int × zMem) :=
  zlet (zst I (50, 0, 0) 0 0) (fun I1 => zb (fX12_isProcess v1 I1) (fun r2 => if w32 r2 = 0 then some ((-2), I1) else zb (fX12_within (w32 v2) 0 1) (fun r3 => if w32 r3 = 0 then some ((-2), I1) else zb (fX12_noSoft v1 I1) (fun r4 => if w32 r4.1 = 0 then zb (fX12_bestNow r4.2) (fun r5 => zb (fX12_sumNow r5.1 r5.2) (fun r6 => zb (zlp (fX12_ties_l54 v1 v2 r6 r5.2) 5000 (0, 0)) (fun x10 => some (x10.1, r5.2)))) else some (r4.1, r4.2)))))
def fX12_rank_b51_77 (v1 : Int) (v2 : Int) (w4 : Int) (I : zMem) (w6 : Int) (k0 : Int) (k1 : Int) : Option ((Int × Int) ⊕ (Int × Int)) :=
  zlet (k1 + k0) (fun a7 => some (.inl (a7, w6 + 1)))
def fX12_rank_l51 (v1 : Int) (v2 : Int) (w4 : Int) (I : zMem) (s : (Int × Int)) : Option ((Int × Int) ⊕ (Int × Int)) :=
  if 2048 ≤ w32 s.2 then some (.inr (s.1, s.2)) else zb (fX12_sumNow s.2 I) (fun r6 => if w32 r6 ≤ w32 w4 then fX12_rank_b51_77 v1 v2 w4 I s.2 0 s.1 else fX12_rank_b51_77 v1 v2 w4 I s.2 1 s.1)
def fX12_rank (v1 : Int) (v2 : Int) (I : zMem) : Option (Int × zMem) :=
  zlet (zst I (50, 0, 0) 0 0) (fun I1 => zb (fX12_isProcess v1 I1) (fun r2 => if w32 r2 = 0 then some ((-2), I1) else zb (fX12_isWord v2) (fun r3 => if w32 r3 = 0 then some ((-3), I1) else zb (fX12_noSoft v1 I1) (fun r4 => if w32 r4.1 = 0 then zb (fX12_sumNow v2 r4.2) (fun r5 => zb (zlp (fX12_rank_l51 v1 v2 r5 r4.2) 5000 (0, 0)) (fun x8 => some (x8.1, r4.2))) else some (r4.1, r4.2)))))
def fX12_againstNow_b4_33 (v1 : Int) (I : zMem) (w3 : Int) (k0 : Int) (k1 : Int) : Option ((Int × Int) ⊕ (Int × Int)) :=
  zlet (k1 + k0) (fun a4 => some (.inl (a4, w3 + 1)))
def fX12_againstNow_l4 (v1 : Int) (I : zMem) (s : (Int × Int)) : Option ((Int × Int) ⊕ (Int × Int)) :=
  if 39 ≤ w32 s.2 then some (.inr (s.1, s.2)) else zb (fX12_codeBit v1 s.2) (fun r1 => if zin s.2 39 then zb (fX12_signed r1 (I (58, 0, 0) (ix s.2))) (fun r3 => if 0 ≤ w32 r3 then fX12_againstNow_b4_33 v1 I s.2 0 s.1 else fX12_againstNow_b4_33 v1 I s.2 1 s.1) else none)
def fX12_againstNow (v1 : Int) (I : zMem) : Option Int :=
  zb (zlp (fX12_againstNow_l4 v1 I) 5000 (0, 0)) (fun x5 => some x5.1)
def fX12_wrong (v1 : Int) (I : zMem) : Option (Int × zMem) :=
  zlet (zst I (50, 0, 0) 0 0) (fun I1 => zb (fX12_noSoft v1 I1) (fun r2 => if w32 r2.1 = 0 then zb (fX12_bestNow r2.2) (fun r3 => zb (fX12_againstNow r3.1 r3.2) (fun r4 => some (r4, r3.2))) else some (r2.1, r2.2)))
def fX12_against (v1 : Int) (v2 : Int) (I : zMem) : Option (Int × zMem) :=
  zlet (zst I (50, 0, 0) 0 0) (fun I1 => zb (fX12_isProcess v1 I1) (fun r2 => if w32 r2 = 0 then some ((-2), I1) else zb (fX12_isWord v2) (fun r3 => if w32 r3 = 0 then some ((-3), I1) else zb (fX12_noSoft v1 I1) (fun r4 => if w32 r4.1 = 0 then zb (fX12_againstNow v2 r4.2) (fun r5 => some (r5, r4.2)) else some (r4.1, r4.2)))))
def fX12_listed_l46 (v1 : Int) (v2 : Int) (s : (Int × zMem)) : Option ((Int × zMem) ⊕ (Int × zMem)) :=
  if 256 ≤ w32 s.1 then some (.inr (s.1, s.2)) else zb (fX12_wordOf (idiv s.1 32) (irem s.1 32)) (fun r5 => if zin s.1 256 then zlet (zst s.2 (64, 0, 0) (ix s.1) r5) (fun I7 => zb (fX12_sumNow (I7 (64, 0, 0) (ix s.1)) I7) (fun r8 => zlet (zst I7 (65, 0, 0) (ix s.1) r8) (fun I9 => some (.inl (s.1 + 1, I9))))) else none)
def fX12_listed_b115_171 (v1 : Int) (v2 : Int) (I : zMem) (w4 : Int) (w6 : Int) (k0 : Int) (k1 : Int) : Option ((Int × Int) ⊕ (Int × Int)) :=
  zlet (k1 + k0) (fun a13 => some (.inl (a13, w6 + 1)))
def fX12_listed_b115_166 (v1 : Int) (v2 : Int) (I : zMem) (w4 : Int) (w6 : Int) (k0 : Int) : Option ((Int × Int) ⊕ (Int × Int)) :=
  fX12_listed_b115_171 v1 v2 I w4 w6 1 k0
def fX12_listed_b115_170 (v1 : Int) (v2 : Int) (I : zMem) (w4 : Int) (w6 : Int) (k0 : Int) : Option ((Int × Int) ⊕ (Int × Int)) :=
  fX12_listed_b115_171 v1 v2 I w4 w6 0 k0
def fX12_listed_l115 (v1 : Int) (v2 : Int) (I : zMem) (w4 : Int) (s : (Int × Int)) : Option ((Int × Int) ⊕ (Int × Int)) :=
  if 256 ≤ w32 s.2 then some (.inr (s.1, s.2)) else if zin s.2 256 then if zin w4 256 then if w32 (I (65, 0, 0) (ix w4)) < w32 (I (65, 0, 0) (ix s.2)) then fX12_listed_b115_166 v1 v2 I w4 s.2 s.1 else if w32 (I (65, 0, 0) (ix s.2)) = w32 (I (65, 0, 0) (ix w4)) then if w32 w4 ≤ w32 s.2 then fX12_listed_b115_170 v1 v2 I w4 s.2 s.1 else fX12_listed_b115_166 v1 v2 I w4 s.2 s.1 else fX12_listed_b115_170 v1 v2 I w4 s.2 s.1 else none else none
def fX12_listed_l101 (v1 : Int) (v2 : Int) (I : zMem) (s : Int) : Option (Int ⊕ (Int ⊕ (Int × zMem))) :=
  if 256 ≤ w32 s then some (.inr (.inl s)) else zb (zlp (fX12_listed_l115 v1 v2 I s) 5000 (0, 0)) (fun x14 => if w32 x14.1 = w32 v2 then if zin s 256 then some (.inr (.inr (I (64, 0, 0) (ix s), I))) else none else some (.inl (s + 1)))
def fX12_listed (v1 : Int) (v2 : Int) (I : zMem) : Option (Int × zMem) :=
  zlet (zst I (50, 0, 0) 0 0) (fun I1 => zb (fX12_isProcess v1 I1) (fun r2 => if w32 r2 = 0 then some ((-2), I1) else zb (fX12_within (w32 v2) 0 255) (fun r3 => if w32 r3 = 0 then some ((-3), I1) else zb (fX12_noSoft v1 I1) (fun r4 => if w32 r4.1 = 0 then zb (zlp (fX12_listed_l46 v1 v2) 5000 (0, r4.2)) (fun x10 => zbr (zlp (fX12_listed_l101 v1 v2 x10.2) 5000 0) (fun x16 => some ((-1), x10.2)) (fun z => z)) else some (r4.1, r4.2)))))
def fX12_known_b44_72 (v1 : Int) (v2 : Int) (w4 : Int) (w5 : Int) (k0 : Int) (k1 : Int) (I : zMem) : Option ((Int × Int × zMem) ⊕ (Int × Int × zMem)) :=
  if zin k1 39 then zlet (zst I (57, 0, 0) (ix k1) k0) (fun I7 => if zin w5 39 then zlet (w4 + (I7 (57, 0, 0) (ix w5))) (fun a9 => some (.inl (a9, w5 + 1, I7))) else none) else none
def fX12_known_l44 (v1 : Int) (v2 : Int) (s : (Int × Int × zMem)) : Option ((Int × Int × zMem) ⊕ (Int × Int × zMem)) :=
  if 39 ≤ w32 s.2.1 then some (.inr (s.1, s.2.1, s.2.2)) else if zin s.2.1 39 then if w32 (s.2.2 (58, 0, 0) (ix s.2.1)) = 0 then fX12_known_b44_72 v1 v2 s.1 s.2.1 0 s.2.1 s.2.2 else fX12_known_b44_72 v1 v2 s.1 s.2.1 1 s.2.1 s.2.2 else none
def fX12_known (v1 : Int) (v2 : Int) (I : zMem) : Option (Int × zMem) :=
  zlet (zst I (50, 0, 0) 0 0) (fun I1 => zb (fX12_isProcess v1 I1) (fun r2 => if w32 r2 = 0 then some ((-2), I1) else zb (fX12_within (w32 v2) 0 1) (fun r3 => if w32 r3 = 0 then some ((-2), I1) else zb (fX12_noSoft v1 I1) (fun r4 => if w32 r4.1 = 0 then zb (zlp (fX12_known_l44 v1 v2) 5000 (0, 0, r4.2)) (fun x10 => if w32 v2 = 0 then some (x10.1, x10.2.2) else zb (fX12_leastApart 1 x10.2.2) (fun r11 => some (r11, x10.2.2))) else some (r4.1, r4.2)))))
def fX12_stored (v1 : Int) (I : zMem) : Option (Int × zMem) :=
  zlet (zst I (50, 0, 0) 0 0) (fun I1 => zb (fX12_within (w32 v1) 0 7) (fun r2 => if w32 r2 = 0 then some ((-7), I1) else if zin (56 + v1) 3099 then if w32 (I1 (51, 0, 0) (ix (56 + v1))) = (-1) then some ((-6), I1) else some (I1 (51, 0, 0) (ix (56 + v1)), I1) else none))
def fX12_given_b56 (v1 : Int) (I : zMem) : Option (Int × zMem) :=
  some ((-1), I)
def fX12_given (v1 : Int) (I : zMem) : Option (Int × zMem) :=
  zlet (zst I (50, 0, 0) 0 0) (fun I1 => if 0 ≤ w32 v1 then if w32 (I1 (51, 0, 0) 66) ≤ w32 v1 then fX12_given_b56 v1 I1 else if 256 ≤ w32 v1 then fX12_given_b56 v1 I1 else if zin (73 + (irem (((I1 (51, 0, 0) 66) - 1) - v1) 256)) 3099 then some (I1 (51, 0, 0) (ix (73 + (irem (((I1 (51, 0, 0) 66) - 1) - v1) 256))), I1) else none else some ((-3), I1))
def fX12_would_b50 (v1 : Int) (v2 : Int) (w3 : Int) (I : zMem) : Option (Int × zMem) :=
  if w32 v2 = 1 then some (0, I) else if w32 w3 < w32 (I (51, 0, 0) 1) then if zin (56 + v1) 3099 then if w32 (I (51, 0, 0) (ix (56 + v1))) = (-1) then if w32 w3 ≤ 0 then some (0, I) else some (1, I) else some (2, I) else none else some (3, I)
def fX12_would_l103 (v1 : Int) (v2 : Int) (I : zMem) (s : Int) : Option (Int ⊕ Int) :=
  if 8 ≤ w32 s then some (.inr s) else if zin (56 + ((v1 + s) % 8)) 3099 then if w32 (I (51, 0, 0) (ix (56 + ((v1 + s) % 8)))) = (-1) then some (.inr s) else some (.inl (s + 1)) else none
def fX12_would (v1 : Int) (v2 : Int) (I : zMem) : Option (Int × zMem) :=
  zlet (zst I (50, 0, 0) 0 0) (fun I1 => zb (fX12_within (w32 v1) 0 7) (fun r2 => if w32 r2 = 0 then some ((-2), I1) else zb (fX12_within (w32 v2) 0 1) (fun r3 => if w32 r3 = 0 then some ((-2), I1) else zb (fX12_past (I1 (51, 0, 0) 55) v1) (fun r4 => if 0 < w32 r4 then fX12_would_b50 v1 v2 r4 I1 else if w32 v2 = 0 then fX12_would_b50 v1 v2 r4 I1 else zb (zlp (fX12_would_l103 v1 v2 I1) 5000 1) (fun x7 => some (x7, I1))))))
def fX12_gaps_b30_87 (v1 : Int) (I : zMem) (w2 : Int) (w3 : Int) (w4 : Int) (w5 : Int) : Option ((Int × Int × Int × Int) ⊕ (Int × Int × Int × Int)) :=
  some (.inl (w2, w3, w4, w5 + 1))
def fX12_gaps_b30_80 (v1 : Int) (I : zMem) (w4 : Int) (w5 : Int) (k0 : Int) : Option ((Int × Int × Int × Int) ⊕ (Int × Int × Int × Int)) :=
  fX12_gaps_b30_87 v1 I k0 w5 (w4 + 1) w5
def fX12_gaps_l30 (v1 : Int) (I : zMem) (s : (Int × Int × Int × Int)) : Option ((Int × Int × Int × Int) ⊕ (Int × Int × Int × Int)) :=
  if 8 ≤ w32 s.2.2.2 then some (.inr (s.1, s.2.1, s.2.2.1, s.2.2.2)) else zlet (((I (51, 0, 0) 55) + s.2.2.2) % 8) (fun a3 => if zin (56 + a3) 3099 then if w32 (I (51, 0, 0) (ix (56 + a3))) = (-1) then fX12_gaps_b30_87 v1 I s.1 s.2.1 s.2.2.1 s.2.2.2 else if w32 s.1 = (-1) then fX12_gaps_b30_80 v1 I s.2.2.1 s.2.2.2 a3 else fX12_gaps_b30_80 v1 I s.2.2.1 s.2.2.2 s.1 else none)
def fX12_gaps (v1 : Int) (I : zMem) : Option (Int × zMem) :=
  zlet (zst I (50, 0, 0) 0 0) (fun I1 => zb (fX12_within (w32 v1) 0 2) (fun r2 => if w32 r2 = 0 then some ((-2), I1) else zb (zlp (fX12_gaps_l30 v1 I1) 5000 ((-1), (-1), 0, 0)) (fun x5 => if w32 v1 = 1 then some (x5.1, I1) else if w32 v1 = 2 then some (x5.2.1 + 1, I1) else some ((x5.2.1 + 1) - x5.2.2.1, I1))))
def fX12_tray_l44 (v1 : Int) (v2 : Int) (s : (Int × zMem)) : Option ((Int × zMem) ⊕ (Int × zMem)) :=
  if w32 v2 ≤ w32 s.1 then some (.inr (s.1, s.2)) else if zin ((60 * v1) + s.1) 240 then zlet (zst s.2 (67, 0, 0) (ix ((60 * v1) + s.1)) 0) (fun I7 => some (.inl (s.1 + 1, I7))) else none
def fX12_tray (v1 : Int) (v2 : Int) (I : zMem) : Option (Int × zMem) :=
  zlet (zst I (50, 0, 0) 0 0) (fun I1 => zb (fX12_within (w32 v1) 0 3) (fun r2 => if w32 r2 = 0 then some ((-2), I1) else zb (fX12_within (w32 v2) 0 60) (fun r3 => if w32 r3 = 0 then some ((-3), I1) else if zin v1 4 then zlet (zst I1 (66, 0, 0) (ix v1) v2) (fun I5 => zb (zlp (fX12_tray_l44 v1 v2) 5000 (0, I5)) (fun x8 => some (0, x8.2))) else none)))
def fX12_write (v1 : Int) (v2 : Int) (v3 : Int) (I : zMem) : Option (Int × zMem) :=
  zlet (zst I (50, 0, 0) 0 0) (fun I1 => zb (fX12_noTray v1 I1) (fun r2 => if w32 r2 = 0 then if zin v1 4 then zb (fX12_within (w32 v2) 0 (w32 ((I1 (66, 0, 0) (ix v1)) - 1))) (fun r4 => if w32 r4 = 0 then some ((-1007), I1) else if zin ((60 * v1) + v2) 240 then zlet (zst I1 (67, 0, 0) (ix ((60 * v1) + v2)) (w8 v3)) (fun I6 => some (I6 (67, 0, 0) (ix ((60 * v1) + v2)), I6)) else none) else none else some (r2 - 1000, I1)))
def fX12_lists_l75 (v1 : Int) (v2 : Int) (w3 : Int) (s : (Int × zMem)) : Option ((Int × zMem) ⊕ (Int × zMem)) :=
  if w32 w3 ≤ w32 s.1 then some (.inr (s.1, s.2)) else if zin s.1 39 then zb (fX12_held (s.2 (58, 0, 0) (ix s.1)) 127) (fun r7 => if zin ((60 * v1) + s.1) 240 then zlet (zst s.2 (67, 0, 0) (ix ((60 * v1) + s.1)) r7) (fun I9 => some (.inl (s.1 + 1, I9))) else none) else none
def fX12_lists_b71 (v1 : Int) (v2 : Int) (k0 : Int) (I : zMem) : Option (Int × zMem) :=
  zb (zlp (fX12_lists_l75 v1 v2 k0) 5000 (0, I)) (fun x10 => some (k0, x10.2))
def fX12_lists (v1 : Int) (v2 : Int) (I : zMem) : Option (Int × zMem) :=
  zlet (zst I (50, 0, 0) 0 0) (fun I1 => zb (fX12_within (w32 v1) 0 3) (fun r2 => if w32 r2 = 0 then some ((-2), I1) else zb (fX12_isProcess v2 I1) (fun r3 => if w32 r3 = 0 then some ((-2), I1) else if zin v1 4 then if w32 (I1 (66, 0, 0) (ix v1)) = (-1) then some ((-6), I1) else zb (fX12_noSoft v2 I1) (fun r5 => if w32 r5.1 = 0 then if 39 ≤ w32 (r5.2 (66, 0, 0) (ix v1)) then fX12_lists_b71 v1 v2 39 r5.2 else fX12_lists_b71 v1 v2 (r5.2 (66, 0, 0) (ix v1)) r5.2 else some ((-6), r5.2)) else none)))
def fX12_image_l20 (v1 : Int) (s : (Int × zMem)) : Option ((Int × zMem) ⊕ (Int × zMem)) :=
  if 1033 ≤ w32 s.1 then some (.inr (s.1, s.2)) else if zin s.1 3099 then if zin ((1033 * (v1 + 1)) + s.1) 3099 then zlet (zst s.2 (51, 0, 0) (ix ((1033 * (v1 + 1)) + s.1)) (s.2 (51, 0, 0) (ix s.1))) (fun I5 => some (.inl (s.1 + 1, I5))) else none else none
def fX12_image (v1 : Int) (I : zMem) : Option (Int × zMem) :=
  zlet (zst I (50, 0, 0) 0 0) (fun I1 => zb (fX12_within (w32 v1) 0 1) (fun r2 => if w32 r2 = 0 then some ((-2), I1) else zb (zlp (fX12_image_l20 v1) 5000 (0, I1)) (fun x6 => if zin v1 2 then zlet (zst x6.2 (53, 0, 0) (ix v1) 1) (fun I8 => some (0, I8)) else none)))
def fX12_restore_l32 (v1 : Int) (s : (Int × zMem)) : Option ((Int × zMem) ⊕ (Int × zMem)) :=
  if 1033 ≤ w32 s.1 then some (.inr (s.1, s.2)) else if zin ((1033 * (v1 + 1)) + s.1) 3099 then if zin s.1 3099 then zlet (zst s.2 (51, 0, 0) (ix s.1) (s.2 (51, 0, 0) (ix ((1033 * (v1 + 1)) + s.1)))) (fun I6 => some (.inl (s.1 + 1, I6))) else none else none
def fX12_restore (v1 : Int) (I : zMem) : Option (Int × zMem) :=
  zlet (zst I (50, 0, 0) 0 0) (fun I1 => zb (fX12_within (w32 v1) 0 1) (fun r2 => if w32 r2 = 0 then some ((-2), I1) else if zin v1 2 then if w32 (I1 (53, 0, 0) (ix v1)) = 0 then some ((-5), I1) else zb (zlp (fX12_restore_l32 v1) 5000 (0, I1)) (fun x7 => some (0, x7.2)) else none))
def fX12_manyStored_b4_29 (I : zMem) (w2 : Int) (k0 : Int) (k1 : Int) : Option ((Int × Int) ⊕ (Int × Int)) :=
  zlet (k1 + k0) (fun a2 => some (.inl (a2, w2 + 1)))
def fX12_manyStored_l4 (I : zMem) (s : (Int × Int)) : Option ((Int × Int) ⊕ (Int × Int)) :=
  if 8 ≤ w32 s.2 then some (.inr (s.1, s.2)) else if zin (56 + s.2) 3099 then if w32 (I (51, 0, 0) (ix (56 + s.2))) = (-1) then fX12_manyStored_b4_29 I s.2 0 s.1 else fX12_manyStored_b4_29 I s.2 1 s.1 else none
def fX12_manyStored  (I : zMem) : Option Int :=
  zb (zlp (fX12_manyStored_l4 I) 5000 (0, 0)) (fun x3 => some x3.1)
def fX12_count (v1 : Int) (I : zMem) : Option (Int × zMem) :=
  zlet (zst I (50, 0, 0) 0 0) (fun I1 => if w32 v1 = 0 then some (I1 (51, 0, 0) 7, I1) else if w32 v1 = 1 then some (I1 (51, 0, 0) 28, I1) else if w32 v1 = 2 then some (I1 (51, 0, 0) 29, I1) else if w32 v1 = 3 then some (I1 (51, 0, 0) 30, I1) else if w32 v1 = 4 then some (I1 (51, 0, 0) 55, I1) else if w32 v1 = 5 then zb (fX12_manyStored I1) (fun r2 => some (r2, I1)) else if w32 v1 = 6 then some (I1 (51, 0, 0) 64, I1) else if w32 v1 = 7 then some (I1 (51, 0, 0) 65, I1) else if w32 v1 = 8 then some (I1 (51, 0, 0) 66, I1) else if w32 v1 = 9 then some (I1 (51, 0, 0) 67, I1) else if w32 v1 = 10 then some (I1 (51, 0, 0) 68, I1) else if w32 v1 = 11 then some (I1 (51, 0, 0) 69, I1) else if w32 v1 = 12 then some (I1 (51, 0, 0) 70, I1) else if w32 v1 = 13 then some (I1 (51, 0, 0) 71, I1) else if w32 v1 = 14 then some (I1 (51, 0, 0) 72, I1) else if w32 v1 = 15 then some (I1 (51, 0, 0) 0, I1) else if w32 v1 = 16 then some (I1 (51, 0, 0) 1, I1) else if w32 v1 = 17 then some (I1 (51, 0, 0) 4, I1) else if w32 v1 = 18 then some (I1 (51, 0, 0) 5, I1) else if w32 v1 = 19 then some (I1 (51, 0, 0) 6, I1) else some ((-1), I1))
