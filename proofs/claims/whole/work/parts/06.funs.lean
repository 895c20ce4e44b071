def f_X10_refuseBad (x0 : Nat) (I : mI) : Option (Int32 × mI) :=
  (bnd (u2 I x0 12 ((I x0 12) + (1 : Int32))) (fun I1 => (some ((-2 : Int32), I1))))

def f_X2_append (x0 : Nat) (x1 : Int32) (I : mI) (R : mR) : Option (mI) :=
  (if (120 : Int32) ≤ (I x0 2) then (some I) else (if inb (I x0 2) (lnC (R x0 0)) = true then (bnd (u2 I (R x0 0) ((I x0 2)).toNatClampNeg x1) (fun I4 => (bnd (u2 I4 x0 2 ((I4 x0 2) + (1 : Int32))) (fun I5 => (some I5))))) else none))

def f_X10_type (x0 : Nat) (x1 : Int32) (I : mI) (R : mR) : Option (Int32 × mI) :=
  (bnd ((bd2 (f_X10_refuseBad x0 I) (fun r2 I2 => (some (r2, I2))))) (fun j10_1 => (if x1 < 0 then j10_1 else (if x1 ≤ (127 : Int32) then (if (I (R x0 2) 2) < (120 : Int32) then (bd1 (f_X2_append (R x0 2) x1 I R) (fun I7 => (some ((I7 (R x0 2) 2), I7)))) else (bnd (u2 I x0 14 ((I x0 14) + (1 : Int32))) (fun I8 => (some ((-4 : Int32), I8))))) else j10_1))))

def f_X10_clear (x0 : Nat) (I : mI) (R : mR) : Option (Int32 × mI) :=
  (bnd (u2 I (R x0 2) 2 (0 : Int32)) (fun I2 => (some ((I (R x0 2) 2), I2))))

def f_X2_skipBlanks_L0 : Nat → Nat → mI → mR → Option (mI)
  | 0, _, _, _ => none
  | n + 1, x0, I, R =>
  (if (I x0 2) ≤ (I x0 3) then (some I) else (if inb (I x0 3) (lnC (R x0 0)) = true then (if (I (R x0 0) ((I x0 3)).toNatClampNeg) = (32 : Int32) then (bnd (u2 I x0 3 ((I x0 3) + (1 : Int32))) (fun I5 => (f_X2_skipBlanks_L0 n x0 I5 R))) else (some I)) else none))

def f_X2_skipBlanks (x0 : Nat) (I : mI) (R : mR) : Option (mI) :=
  (bd1 (f_X2_skipBlanks_L0 FU x0 I R) (fun I_6 => (some I_6)))

def f_X10_slotOf (x0 : Int32)  : Option (Int32) :=
  (if x0 = (97 : Int32) then (some (0 : Int32)) else (if x0 = (98 : Int32) then (some (1 : Int32)) else (if x0 = (102 : Int32) then (some (2 : Int32)) else (if x0 = (103 : Int32) then (some (3 : Int32)) else (if x0 = (120 : Int32) then (some (4 : Int32)) else (if x0 = (121 : Int32) then (some (5 : Int32)) else (some (-1 : Int32))))))))

def f_X10_unknownBit (x0 : Int32)  : Option (Int32) :=
  (if x0 = (120 : Int32) then (some (1 : Int32)) else (if x0 = (121 : Int32) then (some (2 : Int32)) else (some (0 : Int32))))

def f_X8_addLetter (x0 : Nat) (x1 : Int32) (I : mI) (R : mR) : Option (mI) :=
  (if (nI (lnC (R x0 0))) ≤ (I x0 2) then (some I) else (if inb (I x0 2) (lnC (R x0 0)) = true then (bnd (u2 I (R x0 0) ((I x0 2)).toNatClampNeg x1) (fun I4 => (bnd (u2 I4 x0 2 ((I4 x0 2) + (1 : Int32))) (fun I5 => (some I5))))) else none))

def f_X2_readLetter (x0 : Nat) (x1 : Nat) (x2 : Int32) (I : mI) (R : mR) : Option (Int32 × mI) :=
  (bd1 (f_X2_skipBlanks x0 I R) (fun I1 => (if (I1 x0 2) ≤ (I1 x0 3) then (some ((0 : Int32), I1)) else (if inb (I1 x0 3) (lnC (R x0 0)) = true then (bd1 (f_X10_slotOf (I1 (R x0 0) ((I1 x0 3)).toNatClampNeg) ) (fun r5 => (if r5 = (-1 : Int32) then (some ((0 : Int32), I1)) else (bd1 (f_X10_unknownBit (I1 (R x0 0) ((I1 x0 3)).toNatClampNeg) ) (fun r7 => (if (r7 &&& x2) = r7 then (bd1 (f_X8_addLetter x1 (I1 (R x0 0) ((I1 x0 3)).toNatClampNeg) I1 R) (fun I9 => (bnd (u2 I9 x0 3 ((I9 x0 3) + (1 : Int32))) (fun I10 => (some ((1 : Int32), I10)))))) else (some ((0 : Int32), I1)))))))) else none))))

def f_X10_partsBehind (x0 : Int32)  : Option (Int32) :=
  (if x0 = (103 : Int32) then (some (2 : Int32)) else (if x0 = (102 : Int32) then (some (1 : Int32)) else (some (0 : Int32))))

def f_X2_takes (x0 : Nat) (x1 : Int32) (I : mI) (R : mR) : Option (Int32 × mI) :=
  (bd1 (f_X2_skipBlanks x0 I R) (fun I1 => (if (I1 x0 2) ≤ (I1 x0 3) then (some ((0 : Int32), I1)) else (if inb (I1 x0 3) (lnC (R x0 0)) = true then (if (I1 (R x0 0) ((I1 x0 3)).toNatClampNeg) = x1 then (bnd (u2 I1 x0 3 ((I1 x0 3) + (1 : Int32))) (fun I6 => (some ((1 : Int32), I6)))) else (some ((0 : Int32), I1))) else none))))

def f_X2_opens (x0 : Nat) (x1 : Int32) (I : mI) (R : mR) : Option (Int32 × mI) :=
  (if (60 : Int32) ≤ (I x0 4) then (some ((0 : Int32), I)) else (bd2 (f_X2_takes x0 (40 : Int32) I R) (fun r2 I2 => (if r2 = 0 then (some ((0 : Int32), I2)) else (if inb (I2 x0 4) (lnC (R x0 1)) = true then (bnd (u2 I2 (R x0 1) ((I2 x0 4)).toNatClampNeg x1) (fun I6 => (bnd (u2 I6 x0 4 ((I6 x0 4) + (1 : Int32))) (fun I7 => (some ((1 : Int32), I7)))))) else none)))))

def f_X2_closes_L0 : Nat → Nat → mI → mR → Option ((Int32 × mI) ⊕ (mI))
  | 0, _, _, _ => none
  | n + 1, x0, I, R =>
  (if (I x0 4) ≤ 0 then (some (Sum.inr I)) else (if inb ((I x0 4) - (1 : Int32)) (lnC (R x0 1)) = true then (bnd (u2 I (R x0 1) (((I x0 4) - (1 : Int32))).toNatClampNeg ((I (R x0 1) (((I x0 4) - (1 : Int32))).toNatClampNeg) - (1 : Int32))) (fun I4 => (if inb ((I4 x0 4) - (1 : Int32)) (lnC (R x0 1)) = true then (if (I4 (R x0 1) (((I4 x0 4) - (1 : Int32))).toNatClampNeg) ≤ 0 then (bd2 (f_X2_takes x0 (41 : Int32) I4 R) (fun r7 I7 => (if r7 = 0 then (some (Sum.inl ((0 : Int32), I7))) else (bnd (u2 I7 x0 4 ((I7 x0 4) - (1 : Int32))) (fun I9 => (f_X2_closes_L0 n x0 I9 R)))))) else (bd2 (f_X2_takes x0 (44 : Int32) I4 R) (fun r10 I10 => (if zb r10 = true then (some (Sum.inl (r10, I10))) else none)))) else none))) else none))

def f_X2_closes (x0 : Nat) (I : mI) (R : mR) : Option (Int32 × mI) :=
  (bdS (f_X2_closes_L0 FU x0 I R) (un2 (fun r_12 I_12 => some (r_12, I_12))) (un1 (fun I_12 => (some ((1 : Int32), I_12)))))

def f_X8_findEnds_L25 : Nat → Nat → Int32 → Int32 → Int32 → mI → mR → Option (Int32)
  | 0, _, _, _, _, _, _ => none
  | n + 1, x0, x1, x2, x3, I, R =>
  (if x3 ≤ 0 then (some x2) else (if (I x0 2) ≤ x2 then (some x2) else (if inb x2 (lnC (R x0 1)) = true then (f_X8_findEnds_L25 n x0 x1 (I (R x0 1) x2.toNatClampNeg) (x3 + (-1 : Int32)) I R) else none)))

def f_X8_findEnds_L7 : Nat → Nat → Int32 → mI → mR → Option (mI)
  | 0, _, _, _, _ => none
  | n + 1, x0, x1, I, R =>
  (if x1 < 0 then (some I) else (if inb x1 (lnC (R x0 0)) = true then (bd1 (f_X10_partsBehind (I (R x0 0) x1.toNatClampNeg) ) (fun r4 => (bd1 (f_X8_findEnds_L25 FU x0 x1 (x1 + (1 : Int32)) r4 I R) (fun y2_9 => (if inb x1 (lnC (R x0 1)) = true then (bnd (u2 I (R x0 1) x1.toNatClampNeg y2_9) (fun I12 => (f_X8_findEnds_L7 n x0 (x1 + (-1 : Int32)) I12 R))) else none))))) else none))

def f_X8_findEnds (x0 : Nat) (I : mI) (R : mR) : Option (mI) :=
  (bd1 (f_X8_findEnds_L7 FU x0 ((I x0 2) - (1 : Int32)) I R) (fun I_13 => (some I_13)))

def f_X2_readTerm_L13 : Nat → Nat → Nat → Int32 → Int32 → Int32 → Int32 → mI → mR → Option ((Int32 × mI) ⊕ (mI))
  | 0, _, _, _, _, _, _, _, _ => none
  | n + 1, x0, x1, x2, x3, x4, x5, I, R =>
  (if x2 ≤ x5 then (some (Sum.inr I)) else (bnd (fun (w2_4 : Int32) => (bd2 (f_X2_readLetter x0 x1 w2_4 I R) (fun r5 I5 => (if r5 = 0 then (some (Sum.inl ((0 : Int32), I5))) else (if inb x5 (lnC (R x1 0)) = true then (bd1 (f_X10_partsBehind (I5 (R x1 0) x5.toNatClampNeg) ) (fun r9 => (bnd (fun (I_10 : mI) => (if (I_10 x0 4) = 0 then (bd1 (f_X8_findEnds x1 I_10 R) (fun I12 => (some (Sum.inl ((1 : Int32), I12))))) else (f_X2_readTerm_L13 n x0 x1 x2 x3 x4 (x5 + (1 : Int32)) I_10 R))) (fun j78_10 => (if r9 ≤ 0 then (bd2 (f_X2_closes x0 I5 R) (fun r14 I14 => (if r14 = 0 then (some (Sum.inl ((0 : Int32), I14))) else (j78_10 I14)))) else (bd2 (f_X2_opens x0 r9 I5 R) (fun r16 I16 => (if r16 = 0 then (some (Sum.inl ((0 : Int32), I16))) else (j78_10 I16))))))))) else none))))) (fun j32_4 => (if x5 = 0 then (j32_4 x3) else (j32_4 x4)))))

def f_X2_readTerm (x0 : Nat) (x1 : Nat) (x2 : Int32) (x3 : Int32) (x4 : Int32) (I : mI) (R : mR) : Option (Int32 × mI) :=
  (bnd (u2 I x1 2 (0 : Int32)) (fun I1 => (bnd (u2 I1 x0 4 (0 : Int32)) (fun I2 => (bdS (f_X2_readTerm_L13 FU x0 x1 x2 x3 x4 (0 : Int32) I2 R) (un2 (fun r_19 I_19 => some (r_19, I_19))) (un1 (fun I_19 => (bd1 (f_X2_skipBlanks x0 I_19 R) (fun I20 => (some ((0 : Int32), I20)))))))))))

def f_X8_unknowns_L4 : Nat → Nat → Int32 → Int32 → mI → mR → Option (Int32)
  | 0, _, _, _, _, _ => none
  | n + 1, x0, x1, x2, I, R =>
  (if (I x0 2) ≤ x2 then (some x1) else (if inb x2 (lnC (R x0 0)) = true then (bd1 (f_X10_unknownBit (I (R x0 0) x2.toNatClampNeg) ) (fun r4 => (f_X8_unknowns_L4 n x0 (x1 ||| r4) (x2 + (1 : Int32)) I R))) else none))

def f_X8_unknowns (x0 : Nat) (I : mI) (R : mR) : Option (Int32) :=
  (bd1 (f_X8_unknowns_L4 FU x0 (0 : Int32) (0 : Int32) I R) (fun y1_5 => (some y1_5)))

def f_X2_readRule (x0 : Nat) (x1 : Nat) (I : mI) (R : mR) : Option (Int32 × mI) :=
  (bd2 (f_X2_readTerm x0 (R x1 0) (12 : Int32) (0 : Int32) (3 : Int32) I R) (fun r2 I2 => (if r2 = 0 then (some ((0 : Int32), I2)) else (bd2 (f_X2_takes x0 (62 : Int32) I2 R) (fun r4 I4 => (if r4 = 0 then (some ((0 : Int32), I4)) else (bd1 (f_X8_unknowns (R x1 0) I4 R) (fun r6 => (bd2 (f_X2_readTerm x0 (R x1 1) (12 : Int32) r6 r6 I4 R) (fun r8 I8 => (bnd (fun (I_9 : mI) => (some ((0 : Int32), I_9))) (fun j62_9 => (if r8 = 0 then (j62_9 I8) else (bd2 (f_X2_takes x0 (59 : Int32) I8 R) (fun r11 I11 => (if r11 = 0 then (j62_9 I11) else (some ((1 : Int32), I11))))))))))))))))))

def f_X2_readRules_L10 : Nat → Nat → Nat → Int32 → mI → mR → Option ((Int32 × mI) ⊕ (mI))
  | 0, _, _, _, _, _ => none
  | n + 1, x0, x1, x2, I, R =>
  (if (5 : Int32) ≤ x2 then (some (Sum.inr I)) else (if inb x2 (lnC (R x1 0)) = true then (bd2 (f_X2_readRule x0 (R (R x1 0) x2.toNatClampNeg) I R) (fun r6 I6 => (if r6 = 0 then (some (Sum.inl ((-1 : Int32), I6))) else (bd1 (f_X2_skipBlanks x0 I6 R) (fun I8 => (if (I8 x0 3) = (I8 x0 2) then (some (Sum.inl ((x2 + (1 : Int32)), I8))) else (f_X2_readRules_L10 n x0 x1 (x2 + (1 : Int32)) I8 R))))))) else none))

def f_X2_readRules (x0 : Nat) (x1 : Nat) (I : mI) (R : mR) : Option (Int32 × mI) :=
  (bnd (u2 I x0 3 (0 : Int32)) (fun I1 => (bdS (f_X2_readRules_L10 FU x0 x1 (I1 x1 2) I1 R) (un2 (fun r_10 I_10 => some (r_10, I_10))) (un1 (fun I_10 => (bd1 (f_X2_skipBlanks x0 I_10 R) (fun I11 => (some ((-1 : Int32), I11)))))))))

def f_X1_loseOldest_L9 : Nat → Nat → Nat → Int32 → mI → mR → Option (mR)
  | 0, _, _, _, _, _ => none
  | n + 1, x0, x1, x2, I, R =>
  (if (5 : Int32) ≤ (x2 + (1 : Int32)) then (some R) else (if inb (x2 + (1 : Int32)) (lnC (R x0 0)) = true then (if inb x2 (lnC (R x0 0)) = true then (bnd (u2 R (R x0 0) x2.toNatClampNeg (R (R x0 0) ((x2 + (1 : Int32))).toNatClampNeg)) (fun R9 => (f_X1_loseOldest_L9 n x0 x1 (x2 + (1 : Int32)) I R9))) else none) else none))

def f_X1_loseOldest (x0 : Nat) (I : mI) (R : mR) : Option (mI × mR) :=
  (if inb (0 : Int32) (lnC (R x0 0)) = true then (bd1 (f_X1_loseOldest_L9 FU x0 (R (R x0 0) ((0 : Int32)).toNatClampNeg) (0 : Int32) I R) (fun R_10 => (if inb (4 : Int32) (lnC (R_10 x0 0)) = true then (bnd (u2 R_10 (R_10 x0 0) ((4 : Int32)).toNatClampNeg (R (R x0 0) ((0 : Int32)).toNatClampNeg)) (fun R13 => (bnd (u2 I x0 1 ((I x0 1) - (1 : Int32))) (fun I14 => (some (I14, R13)))))) else none))) else none)

def f_X8_copyFrom (x0 : Nat) (x1 : Nat) (I : mI) (R : mR) : Option (mI) :=
  (bnd (u2 I x0 2 (if (nI (lnC (R x0 0))) < (I x1 2) then (nI (lnC (R x0 0))) else (I x1 2))) (fun I2 => (if cpok (0 : Int32) (0 : Int32) (I2 x0 2) (lnC (R x1 0)) (lnC (R x0 0)) = true then (bnd (va_up I2 (R x0 0) (va_cpy (I2 (R x1 0)) (I2 (R x0 0)) ((0 : Int32)).toNatClampNeg ((0 : Int32)).toNatClampNeg ((I2 x0 2)).toNatClampNeg)) (fun I5 => (if cpok (0 : Int32) (0 : Int32) (I5 x0 2) (lnC (R x1 1)) (lnC (R x0 1)) = true then (bnd (va_up I5 (R x0 1) (va_cpy (I5 (R x1 1)) (I5 (R x0 1)) ((0 : Int32)).toNatClampNeg ((0 : Int32)).toNatClampNeg ((I5 x0 2)).toNatClampNeg)) (fun I9 => (some I9))) else none))) else none)))

def f_X3_copyFrom (x0 : Nat) (x1 : Nat) (I : mI) (R : mR) : Option (mI) :=
  (bd1 (f_X8_copyFrom (R x0 0) (R x1 0) I R) (fun I3 => (bd1 (f_X8_copyFrom (R x0 1) (R x1 1) I3 R) (fun I6 => (some I6)))))

def f_X7_copyFrom_L10 : Nat → Nat → Nat → Int32 → mI → mR → Option (mI)
  | 0, _, _, _, _, _ => none
  | n + 1, x0, x1, x2, I, R =>
  (if (I x0 2) ≤ x2 then (some I) else (if inb x2 (lnC (R x0 0)) = true then (if inb x2 (lnC (R x1 0)) = true then (bd1 (f_X3_copyFrom (R (R x0 0) x2.toNatClampNeg) (R (R x1 0) x2.toNatClampNeg) I R) (fun I9 => (f_X7_copyFrom_L10 n x0 x1 (x2 + (1 : Int32)) I9 R))) else none) else none))

def f_X7_copyFrom (x0 : Nat) (x1 : Nat) (I : mI) (R : mR) : Option (mI) :=
  (bnd (u2 I x0 2 (I x1 2)) (fun I1 => (bd1 (f_X7_copyFrom_L10 FU x0 x1 (0 : Int32) I1 R) (fun I_10 => (bd1 (f_X8_copyFrom (R x0 1) (R x1 1) I_10 R) (fun I13 => (some I13)))))))

def f_X1_keep (x0 : Nat) (x1 : Nat) (I : mI) (R : mR) : Option (mI × mR) :=
  (bnd (fun (I_1 : mI) (R_1 : mR) => (if inb (I_1 x0 1) (lnC (R_1 x0 0)) = true then (bd1 (f_X7_copyFrom (R_1 (R_1 x0 0) ((I_1 x0 1)).toNatClampNeg) x1 I_1 R_1) (fun I5 => (bnd (u2 I5 x0 1 ((I5 x0 1) + (1 : Int32))) (fun I6 => (some (I6, R_1)))))) else none)) (fun j12_1 => (if (I x0 1) = (5 : Int32) then (bd2 (f_X1_loseOldest x0 I R) (fun I8 R8 => (j12_1 I8 R8))) else (j12_1 I R))))

def f_X10_forgetFindings (x0 : Nat) (I : mI) : Option (mI) :=
  (bnd (u2 I x0 9 (0 : Int32)) (fun I1 => (bnd (u2 I1 x0 10 (0 : Int32)) (fun I2 => (bnd (u2 I2 x0 11 (-9 : Int32)) (fun I3 => (some I3)))))))

def f_X10_reads (x0 : Nat) (I : mI) (R : mR) : Option (Int32 × mI × mR) :=
  (bd2 (f_X2_readRules (R x0 2) (R x0 0) I R) (fun r3 I3 => (if r3 = (-1 : Int32) then (some (((-10 : Int32) - (I3 (R x0 2) 3)), I3, R)) else (bd2 (f_X1_keep (R x0 1) (R x0 0) I3 R) (fun I6 R6 => (bnd (u2 I6 (R6 x0 0) 2 r3) (fun I8 => (bd1 (f_X10_forgetFindings x0 I8) (fun I9 => (some (r3, I9, R6)))))))))))

def f_X2_readWhole (x0 : Nat) (x1 : Nat) (I : mI) (R : mR) : Option (Int32 × mI) :=
  (bnd (u2 I x0 3 (0 : Int32)) (fun I1 => (bd2 (f_X2_readTerm x0 x1 (60 : Int32) (3 : Int32) (3 : Int32) I1 R) (fun r2 I2 => (if r2 = 0 then (some ((0 : Int32), I2)) else (bd1 (f_X2_skipBlanks x0 I2 R) (fun I4 => (if (I4 x0 3) = (I4 x0 2) then (some ((1 : Int32), I4)) else (some ((0 : Int32), I4))))))))))

def f_X10_term (x0 : Nat) (I : mI) (R : mR) : Option (Int32 × mI × mR) :=
  (bd2 (f_X2_readWhole (R x0 2) (R x0 7) I R) (fun r3 I3 => (if r3 = 0 then (some (((-10 : Int32) - (I3 (R x0 2) 3)), I3, R)) else (bd2 (f_X1_keep (R x0 1) (R x0 0) I3 R) (fun I7 R7 => (bd1 (f_X8_copyFrom (R7 (R7 x0 0) 1) (R7 x0 7) I7 R7) (fun I11 => (some ((I11 (R7 (R7 x0 0) 1) 2), I11, R7)))))))))

def f_X10_isRule (x0 : Nat) (x1 : Int32) (I : mI) (R : mR) : Option (Int32) :=
  (bnd ((some (0 : Int32))) (fun j19_1 => (if x1 < 0 then j19_1 else (if (I (R x0 0) 2) ≤ x1 then j19_1 else (some (1 : Int32))))))

def f_X7_removeRule_L9 : Nat → Nat → Nat → Int32 → mI → mR → Option (mR)
  | 0, _, _, _, _, _ => none
  | n + 1, x0, x2, x3, I, R =>
  (if (I x0 2) ≤ (x3 + (1 : Int32)) then (some R) else (if inb (x3 + (1 : Int32)) (lnC (R x0 0)) = true then (if inb x3 (lnC (R x0 0)) = true then (bnd (u2 R (R x0 0) x3.toNatClampNeg (R (R x0 0) ((x3 + (1 : Int32))).toNatClampNeg)) (fun R9 => (f_X7_removeRule_L9 n x0 x2 (x3 + (1 : Int32)) I R9))) else none) else none))

def f_X7_removeRule (x0 : Nat) (x1 : Int32) (I : mI) (R : mR) : Option (mI × mR) :=
  (if inb x1 (lnC (R x0 0)) = true then (bd1 (f_X7_removeRule_L9 FU x0 (R (R x0 0) x1.toNatClampNeg) x1 I R) (fun R_10 => (if inb ((I x0 2) - (1 : Int32)) (lnC (R_10 x0 0)) = true then (bnd (u2 R_10 (R_10 x0 0) (((I x0 2) - (1 : Int32))).toNatClampNeg (R (R x0 0) x1.toNatClampNeg)) (fun R13 => (bnd (u2 I x0 2 ((I x0 2) - (1 : Int32))) (fun I14 => (some (I14, R13)))))) else none))) else none)

def f_X10_drops (x0 : Nat) (x1 : Int32) (I : mI) (R : mR) : Option (Int32 × mI × mR) :=
  (bd1 (f_X10_isRule x0 x1 I R) (fun r1 => (if r1 = 0 then (bd2 (f_X10_refuseBad x0 I) (fun r10 I10 => (some (r10, I10, R)))) else (bd2 (f_X1_keep (R x0 1) (R x0 0) I R) (fun I5 R5 => (bd2 (f_X7_removeRule (R5 x0 0) x1 I5 R5) (fun I7 R7 => (bd1 (f_X10_forgetFindings x0 I7) (fun I8 => (some ((I8 (R7 x0 0) 2), I8, R7)))))))))))

def f_X7_moveToFront_L9 : Nat → Nat → Nat → Int32 → mR → Option (mR)
  | 0, _, _, _, _ => none
  | n + 1, x0, x2, x3, R =>
  (if x3 ≤ 0 then (some R) else (if inb (x3 - (1 : Int32)) (lnC (R x0 0)) = true then (if inb x3 (lnC (R x0 0)) = true then (bnd (u2 R (R x0 0) x3.toNatClampNeg (R (R x0 0) ((x3 - (1 : Int32))).toNatClampNeg)) (fun R9 => (f_X7_moveToFront_L9 n x0 x2 (x3 + (-1 : Int32)) R9))) else none) else none))

def f_X7_moveToFront (x0 : Nat) (x1 : Int32) (R : mR) : Option (mR) :=
  (if inb x1 (lnC (R x0 0)) = true then (bd1 (f_X7_moveToFront_L9 FU x0 (R (R x0 0) x1.toNatClampNeg) x1 R) (fun R_10 => (if inb (0 : Int32) (lnC (R_10 x0 0)) = true then (bnd (u2 R_10 (R_10 x0 0) ((0 : Int32)).toNatClampNeg (R (R x0 0) x1.toNatClampNeg)) (fun R13 => (some R13))) else none))) else none)

def f_X10_first (x0 : Nat) (x1 : Int32) (I : mI) (R : mR) : Option (Int32 × mI × mR) :=
  (bd1 (f_X10_isRule x0 x1 I R) (fun r1 => (if r1 = 0 then (bd2 (f_X10_refuseBad x0 I) (fun r9 I9 => (some (r9, I9, R)))) else (bd2 (f_X1_keep (R x0 1) (R x0 0) I R) (fun I5 R5 => (bd1 (f_X7_moveToFront (R5 x0 0) x1 R5) (fun R7 => (bd1 (f_X10_forgetFindings x0 I5) (fun I8 => (some (x1, I8, R7)))))))))))

def f_X0_findHeads_L7 : Nat → Nat → Nat → Int32 → mI → mR → Option (mI)
  | 0, _, _, _, _, _ => none
  | n + 1, x0, x1, x2, I, R =>
  (if (I x1 2) ≤ x2 then (some I) else (if inb x2 (lnC (R x1 0)) = true then (if inb (0 : Int32) (lnC (R (R (R (R x1 0) x2.toNatClampNeg) 0) 0)) = true then (bnd (u2 I x0 7 ((I x0 7) ||| ((1 : Int32) <<< (((I (R (R (R (R x1 0) x2.toNatClampNeg) 0) 0) ((0 : Int32)).toNatClampNeg) - (97 : Int32)) &&& 31)))) (fun I9 => (f_X0_findHeads_L7 n x0 x1 (x2 + (1 : Int32)) I9 R))) else none) else none))

def f_X0_findHeads (x0 : Nat) (x1 : Nat) (I : mI) (R : mR) : Option (mI) :=
  (bnd (u2 I x0 7 (0 : Int32)) (fun I1 => (bd1 (f_X0_findHeads_L7 FU x0 x1 (0 : Int32) I1 R) (fun I_10 => (some I_10)))))

def f_X0_isHead (x0 : Nat) (x1 : Int32) (I : mI) : Option (Int32) :=
  (if (((((I x0 7)).toUInt32 >>> (((x1 - (97 : Int32))).toUInt32 &&& Int32.toUInt32 31)).toInt32) &&& (1 : Int32)) = 0 then (some (0 : Int32)) else (some (1 : Int32)))

def f_X0_collect_L35 : Nat → Nat → Nat → Int32 → Nat → Int32 → mI → mL → mR → Option (mI × mL)
  | 0, _, _, _, _, _, _, _, _ => none
  | n + 1, x0, x1, x2, x3, x4, I, L, R =>
  (if (I x3 2) ≤ x4 then (some (I, L)) else (if inb x4 (lnC (R x3 0)) = true then (bd1 (f_X0_isHead x0 (I (R x3 0) x4.toNatClampNeg) I) (fun r13 => (bnd (fun (I_14 : mI) (L_14 : mL) => (f_X0_collect_L35 n x0 x1 x2 x3 (x4 + (1 : Int32)) I_14 L_14 R)) (fun j113_14 => (if r13 = 0 then (j113_14 I L) else (if (60 : Int32) ≤ (I x0 8) then (j113_14 I L) else (if inb (I x0 8) (lnC (R x0 0)) = true then (bnd (u2 I (R x0 0) ((I x0 8)).toNatClampNeg x2) (fun I19 => (if inb (I19 x0 8) (lnC (R x0 1)) = true then (bnd (u2 I19 (R x0 1) ((I19 x0 8)).toNatClampNeg x4) (fun I22 => (if inb x2 (lnC (R x0 5)) = true then (bnd (u2 L (R x0 5) x2.toNatClampNeg ((L (R x0 5) x2.toNatClampNeg) ||| ((1 : Int64) <<< (((I22 x0 8)).toInt64 &&& 63)))) (fun L25 => (bnd (u2 I22 x0 8 ((I22 x0 8) + (1 : Int32))) (fun I26 => (j113_14 I26 L25))))) else none))) else none))) else none))))))) else none))

def f_X0_collect_L7 : Nat → Nat → Nat → Int32 → mI → mL → mR → Option (mI × mL)
  | 0, _, _, _, _, _, _ => none
  | n + 1, x0, x1, x2, I, L, R =>
  (if (I x1 2) ≤ x2 then (some (I, L)) else (if inb x2 (lnC (R x0 5)) = true then (bnd (u2 L (R x0 5) x2.toNatClampNeg (0 : Int64)) (fun L5 => (if inb x2 (lnC (R x1 0)) = true then (bd2 (f_X0_collect_L35 FU x0 x1 x2 (R (R (R x1 0) x2.toNatClampNeg) 1) (0 : Int32) I L5 R) (fun I_27 L_27 => (f_X0_collect_L7 n x0 x1 (x2 + (1 : Int32)) I_27 L_27 R))) else none))) else none))

def f_X0_collect (x0 : Nat) (x1 : Nat) (I : mI) (L : mL) (R : mR) : Option (mI × mL) :=
  (bnd (u2 I x0 8 (0 : Int32)) (fun I1 => (bd2 (f_X0_collect_L7 FU x0 x1 (0 : Int32) I1 L R) (fun I_28 L_28 => (some (I_28, L_28))))))

def f_X10_isUnknown (x0 : Int32)  : Option (Int32) :=
  (bnd ((some (1 : Int32))) (fun j12_1 => (if x0 = (120 : Int32) then j12_1 else (if x0 = (121 : Int32) then j12_1 else (some (0 : Int32))))))

def f_X0_comesTo_L36 : Nat → Nat → Nat → Nat → Int32 → Int32 → Int32 → Int32 → mI → mR → Option ((Int32) ⊕ (Unit))
  | 0, _, _, _, _, _, _, _, _, _ => none
  | n + 1, x0, x1, x3, x4, x5, x6, x7, I, R =>
  (if (12 : Int32) ≤ x7 then (some (Sum.inr ())) else (if x4 ≤ x5 then (some (Sum.inr ())) else (if (I x3 2) ≤ x6 then (some (Sum.inr ())) else (if inb x5 (lnC (R x1 0)) = true then (if inb x6 (lnC (R x3 0)) = true then (bd1 (f_X10_isUnknown (I (R x3 0) x6.toNatClampNeg) ) (fun r15 => (bnd (fun (v5_16 : Int32) (v6_16 : Int32) => (f_X0_comesTo_L36 n x0 x1 x3 x4 v5_16 v6_16 (x7 + (1 : Int32)) I R)) (fun j141_16 => (bnd ((if inb x5 (lnC (R x1 1)) = true then (if inb x6 (lnC (R x3 1)) = true then (j141_16 (I (R x1 1) x5.toNatClampNeg) (I (R x3 1) x6.toNatClampNeg)) else none) else none)) (fun j102_17 => (if r15 = 0 then (bd1 (f_X10_isUnknown (I (R x1 0) x5.toNatClampNeg) ) (fun r23 => (if r23 = 0 then (bd1 (f_X0_isHead x0 (I (R x1 0) x5.toNatClampNeg) I) (fun r25 => (if r25 = 0 then (if (I (R x1 0) x5.toNatClampNeg) = (I (R x3 0) x6.toNatClampNeg) then (j141_16 (x5 + (1 : Int32)) (x6 + (1 : Int32))) else (some (Sum.inl (0 : Int32)))) else j102_17))) else j102_17))) else j102_17))))))) else none) else none))))

def f_X0_comesTo (x0 : Nat) (x1 : Nat) (x2 : Int32) (x3 : Nat) (I : mI) (R : mR) : Option (Int32) :=
  (if inb x2 (lnC (R x1 0)) = true then (if inb (0 : Int32) (lnC (R x3 0)) = true then (if (I (R x1 0) x2.toNatClampNeg) = (I (R x3 0) ((0 : Int32)).toNatClampNeg) then (if inb x2 (lnC (R x1 1)) = true then (bdS (f_X0_comesTo_L36 FU x0 x1 x3 (I (R x1 1) x2.toNatClampNeg) (x2 + (1 : Int32)) (1 : Int32) (0 : Int32) I R) (un1 (fun r_28 => some r_28)) (un0 (some (1 : Int32)))) else none) else (some (0 : Int32))) else none) else none)

def f_X0_followersOf_L21 : Nat → Nat → Nat → Int32 → Nat → Int64 → Int32 → mI → mL → mR → Option (Int64)
  | 0, _, _, _, _, _, _, _, _, _ => none
  | n + 1, x0, x1, x2, x3, x4, x6, I, L, R =>
  (if (I x1 2) ≤ x6 then (some x4) else (if inb x2 (lnC (R x0 1)) = true then (if inb x6 (lnC (R x1 0)) = true then (bd1 (f_X0_comesTo x0 x3 (I (R x0 1) x2.toNatClampNeg) (R (R (R x1 0) x6.toNatClampNeg) 0) I R) (fun r14 => (bnd (fun (v4_15 : Int64) => (f_X0_followersOf_L21 n x0 x1 x2 x3 v4_15 (x6 + (1 : Int32)) I L R)) (fun j66_15 => (if r14 = 0 then (j66_15 x4) else (if inb x6 (lnC (R x0 5)) = true then (j66_15 (x4 ||| (L (R x0 5) x6.toNatClampNeg))) else none)))))) else none) else none))

def f_X0_followersOf (x0 : Nat) (x1 : Nat) (x2 : Int32) (I : mI) (L : mL) (R : mR) : Option (Int64) :=
  (if inb x2 (lnC (R x0 0)) = true then (if inb (I (R x0 0) x2.toNatClampNeg) (lnC (R x1 0)) = true then (bd1 (f_X0_followersOf_L21 FU x0 x1 x2 (R (R (R x1 0) ((I (R x0 0) x2.toNatClampNeg)).toNatClampNeg) 1) (0 : Int64) (0 : Int32) I L R) (fun y4_19 => (some y4_19))) else none) else none)

def f_X10_hasBit (x0 : Int64) (x2 : Int32)  : Option (Int32) :=
  (if (lg_cmp ((((x0).toUInt64 >>> ((x2).toInt64.toUInt64 &&& Int64.toUInt64 63)).toInt64) &&& (1 : Int64)) (0 : Int64)) = 0 then (some (0 : Int32)) else (some (1 : Int32)))

def f_X0_reachOn_L12 : Nat → Nat → Int32 → Int32 → mI → mL → mR → Option (mL)
  | 0, _, _, _, _, _, _ => none
  | n + 1, x0, x1, x2, I, L, R =>
  (if (I x0 8) ≤ x2 then (some L) else (if inb x2 (lnC (R x0 4)) = true then (bd1 (f_X10_hasBit (L (R x0 4) x2.toNatClampNeg) x1 ) (fun r5 => (bnd (fun (L_6 : mL) => (f_X0_reachOn_L12 n x0 x1 (x2 + (1 : Int32)) I L_6 R)) (fun j48_6 => (if r5 = 0 then (j48_6 L) else (if inb x1 (lnC (R x0 4)) = true then (bnd (u2 L (R x0 4) x2.toNatClampNeg ((L (R x0 4) x2.toNatClampNeg) ||| (L (R x0 4) x1.toNatClampNeg))) (fun L9 => (j48_6 L9))) else none)))))) else none))

def f_X0_reachOn_L2 : Nat → Nat → Int32 → mI → mL → mR → Option (mL)
  | 0, _, _, _, _, _ => none
  | n + 1, x0, x1, I, L, R =>
  (if (I x0 8) ≤ x1 then (some L) else (bd1 (f_X0_reachOn_L12 FU x0 x1 (0 : Int32) I L R) (fun L_10 => (f_X0_reachOn_L2 n x0 (x1 + (1 : Int32)) I L_10 R))))

def f_X0_reachOn (x0 : Nat) (I : mI) (L : mL) (R : mR) : Option (mL) :=
  (bd1 (f_X0_reachOn_L2 FU x0 (0 : Int32) I L R) (fun L_11 => (some L_11)))

def f_X0_nameRing_L2 : Nat → Nat → Int32 → Int32 → mI → mL → mR → Option (mI)
  | 0, _, _, _, _, _, _ => none
  | n + 1, x0, x1, x2, I, L, R =>
  (if (I x0 8) ≤ x2 then (some I) else (if inb x1 (lnC (R x0 4)) = true then (bd1 (f_X10_hasBit (L (R x0 4) x1.toNatClampNeg) x2 ) (fun r4 => (bnd (fun (I_5 : mI) => (f_X0_nameRing_L2 n x0 x1 (x2 + (1 : Int32)) I_5 L R)) (fun j46_5 => (if r4 = 0 then (j46_5 I) else (if inb x2 (lnC (R x0 4)) = true then (bd1 (f_X10_hasBit (L (R x0 4) x2.toNatClampNeg) x1 ) (fun r8 => (if r8 = 0 then (j46_5 I) else (if inb x2 (lnC (R x0 2)) = true then (bnd (u2 I (R x0 2) x2.toNatClampNeg (I x0 9)) (fun I12 => (j46_5 I12))) else none)))) else none)))))) else none))

def f_X0_nameRing (x0 : Nat) (x1 : Int32) (I : mI) (L : mL) (R : mR) : Option (mI) :=
  (bd1 (f_X0_nameRing_L2 FU x0 x1 x1 I L R) (fun I_13 => (bnd (u2 I_13 x0 9 ((I_13 x0 9) + (1 : Int32))) (fun I14 => (some I14)))))

def f_X0_findRings_L7 : Nat → Nat → Int32 → mI → mL → mR → Option (mI)
  | 0, _, _, _, _, _ => none
  | n + 1, x0, x1, I, L, R =>
  (if (I x0 8) ≤ x1 then (some I) else (if inb x1 (lnC (R x0 2)) = true then (bnd (u2 I (R x0 2) x1.toNatClampNeg (-1 : Int32)) (fun I5 => (f_X0_findRings_L7 n x0 (x1 + (1 : Int32)) I5 L R))) else none))

def f_X0_findRings_L30 : Nat → Nat → Int32 → mI → mL → mR → Option (mI)
  | 0, _, _, _, _, _ => none
  | n + 1, x0, x1, I, L, R =>
  (if (I x0 8) ≤ x1 then (some I) else (if inb x1 (lnC (R x0 2)) = true then (bnd (fun (I_10 : mI) => (f_X0_findRings_L30 n x0 (x1 + (1 : Int32)) I_10 L R)) (fun j66_10 => (if (I (R x0 2) x1.toNatClampNeg) = (-1 : Int32) then (if inb x1 (lnC (R x0 4)) = true then (bd1 (f_X10_hasBit (L (R x0 4) x1.toNatClampNeg) x1 ) (fun r14 => (if r14 = 0 then (j66_10 I) else (bd1 (f_X0_nameRing x0 x1 I L R) (fun I16 => (j66_10 I16)))))) else none) else (j66_10 I)))) else none))

def f_X0_findRings (x0 : Nat) (I : mI) (L : mL) (R : mR) : Option (mI) :=
  (bnd (u2 I x0 9 (0 : Int32)) (fun I1 => (bd1 (f_X0_findRings_L7 FU x0 (0 : Int32) I1 L R) (fun I_6 => (bd1 (f_X0_findRings_L30 FU x0 (0 : Int32) I_6 L R) (fun I_17 => (some I_17)))))))

def f_X0_fillFrom_L12 : Nat → Nat → Nat → Int32 → mI → mL → mR → Option (mL)
  | 0, _, _, _, _, _, _ => none
  | n + 1, x0, x1, x2, I, L, R =>
  (if (I x0 8) ≤ x2 then (some L) else (bd1 (f_X0_followersOf x0 x1 x2 I L R) (fun r5 => (if inb x2 (lnC (R x0 3)) = true then (bnd (u2 L (R x0 3) x2.toNatClampNeg r5) (fun L7 => (if inb x2 (lnC (R x0 4)) = true then (bnd (u2 L7 (R x0 4) x2.toNatClampNeg (L7 (R x0 3) x2.toNatClampNeg)) (fun L10 => (f_X0_fillFrom_L12 n x0 x1 (x2 + (1 : Int32)) I L10 R))) else none))) else none))))

def f_X0_fillFrom (x0 : Nat) (x1 : Nat) (I : mI) (L : mL) (R : mR) : Option (mI × mL) :=
  (bd1 (f_X0_findHeads x0 x1 I R) (fun I1 => (bd2 (f_X0_collect x0 x1 I1 L R) (fun I2 L2 => (bd1 (f_X0_fillFrom_L12 FU x0 x1 (0 : Int32) I2 L2 R) (fun L_11 => (bd1 (f_X0_reachOn x0 I2 L_11 R) (fun L12 => (bd1 (f_X0_findRings x0 I2 L12 R) (fun I13 => (some (I13, L12))))))))))))

def f_X10_keepBookRight (x0 : Nat) (I : mI) (L : mL) (R : mR) : Option (mI × mL) :=
  (if (I x0 9) = 0 then (bd2 (f_X0_fillFrom (R x0 4) (R x0 0) I L R) (fun I4 L4 => (bnd (u2 I4 x0 9 (1 : Int32)) (fun I5 => (some (I5, L4)))))) else (some (I, L)))

def f_J13_bitCount_95d88 (x0 : Int64)  : Option (Int32) :=
  (some (((((((((((x0 - ((((x0).toUInt64 >>> (((1 : Int32)).toInt64.toUInt64 &&& Int64.toUInt64 63)).toInt64) &&& (6148914691236517205 : Int64))) &&& (3689348814741910323 : Int64)) + (((((x0 - ((((x0).toUInt64 >>> (((1 : Int32)).toInt64.toUInt64 &&& Int64.toUInt64 63)).toInt64) &&& (6148914691236517205 : Int64)))).toUInt64 >>> (((2 : Int32)).toInt64.toUInt64 &&& Int64.toUInt64 63)).toInt64) &&& (3689348814741910323 : Int64))) + ((((((x0 - ((((x0).toUInt64 >>> (((1 : Int32)).toInt64.toUInt64 &&& Int64.toUInt64 63)).toInt64) &&& (6148914691236517205 : Int64))) &&& (3689348814741910323 : Int64)) + (((((x0 - ((((x0).toUInt64 >>> (((1 : Int32)).toInt64.toUInt64 &&& Int64.toUInt64 63)).toInt64) &&& (6148914691236517205 : Int64)))).toUInt64 >>> (((2 : Int32)).toInt64.toUInt64 &&& Int64.toUInt64 63)).toInt64) &&& (3689348814741910323 : Int64)))).toUInt64 >>> (((4 : Int32)).toInt64.toUInt64 &&& Int64.toUInt64 63)).toInt64)) &&& (1085102592571150095 : Int64)) + ((((((((x0 - ((((x0).toUInt64 >>> (((1 : Int32)).toInt64.toUInt64 &&& Int64.toUInt64 63)).toInt64) &&& (6148914691236517205 : Int64))) &&& (3689348814741910323 : Int64)) + (((((x0 - ((((x0).toUInt64 >>> (((1 : Int32)).toInt64.toUInt64 &&& Int64.toUInt64 63)).toInt64) &&& (6148914691236517205 : Int64)))).toUInt64 >>> (((2 : Int32)).toInt64.toUInt64 &&& Int64.toUInt64 63)).toInt64) &&& (3689348814741910323 : Int64))) + ((((((x0 - ((((x0).toUInt64 >>> (((1 : Int32)).toInt64.toUInt64 &&& Int64.toUInt64 63)).toInt64) &&& (6148914691236517205 : Int64))) &&& (3689348814741910323 : Int64)) + (((((x0 - ((((x0).toUInt64 >>> (((1 : Int32)).toInt64.toUInt64 &&& Int64.toUInt64 63)).toInt64) &&& (6148914691236517205 : Int64)))).toUInt64 >>> (((2 : Int32)).toInt64.toUInt64 &&& Int64.toUInt64 63)).toInt64) &&& (3689348814741910323 : Int64)))).toUInt64 >>> (((4 : Int32)).toInt64.toUInt64 &&& Int64.toUInt64 63)).toInt64)) &&& (1085102592571150095 : Int64))).toUInt64 >>> (((8 : Int32)).toInt64.toUInt64 &&& Int64.toUInt64 63)).toInt64)) + (((((((((x0 - ((((x0).toUInt64 >>> (((1 : Int32)).toInt64.toUInt64 &&& Int64.toUInt64 63)).toInt64) &&& (6148914691236517205 : Int64))) &&& (3689348814741910323 : Int64)) + (((((x0 - ((((x0).toUInt64 >>> (((1 : Int32)).toInt64.toUInt64 &&& Int64.toUInt64 63)).toInt64) &&& (6148914691236517205 : Int64)))).toUInt64 >>> (((2 : Int32)).toInt64.toUInt64 &&& Int64.toUInt64 63)).toInt64) &&& (3689348814741910323 : Int64))) + ((((((x0 - ((((x0).toUInt64 >>> (((1 : Int32)).toInt64.toUInt64 &&& Int64.toUInt64 63)).toInt64) &&& (6148914691236517205 : Int64))) &&& (3689348814741910323 : Int64)) + (((((x0 - ((((x0).toUInt64 >>> (((1 : Int32)).toInt64.toUInt64 &&& Int64.toUInt64 63)).toInt64) &&& (6148914691236517205 : Int64)))).toUInt64 >>> (((2 : Int32)).toInt64.toUInt64 &&& Int64.toUInt64 63)).toInt64) &&& (3689348814741910323 : Int64)))).toUInt64 >>> (((4 : Int32)).toInt64.toUInt64 &&& Int64.toUInt64 63)).toInt64)) &&& (1085102592571150095 : Int64)) + ((((((((x0 - ((((x0).toUInt64 >>> (((1 : Int32)).toInt64.toUInt64 &&& Int64.toUInt64 63)).toInt64) &&& (6148914691236517205 : Int64))) &&& (3689348814741910323 : Int64)) + (((((x0 - ((((x0).toUInt64 >>> (((1 : Int32)).toInt64.toUInt64 &&& Int64.toUInt64 63)).toInt64) &&& (6148914691236517205 : Int64)))).toUInt64 >>> (((2 : Int32)).toInt64.toUInt64 &&& Int64.toUInt64 63)).toInt64) &&& (3689348814741910323 : Int64))) + ((((((x0 - ((((x0).toUInt64 >>> (((1 : Int32)).toInt64.toUInt64 &&& Int64.toUInt64 63)).toInt64) &&& (6148914691236517205 : Int64))) &&& (3689348814741910323 : Int64)) + (((((x0 - ((((x0).toUInt64 >>> (((1 : Int32)).toInt64.toUInt64 &&& Int64.toUInt64 63)).toInt64) &&& (6148914691236517205 : Int64)))).toUInt64 >>> (((2 : Int32)).toInt64.toUInt64 &&& Int64.toUInt64 63)).toInt64) &&& (3689348814741910323 : Int64)))).toUInt64 >>> (((4 : Int32)).toInt64.toUInt64 &&& Int64.toUInt64 63)).toInt64)) &&& (1085102592571150095 : Int64))).toUInt64 >>> (((8 : Int32)).toInt64.toUInt64 &&& Int64.toUInt64 63)).toInt64))).toUInt64 >>> (((16 : Int32)).toInt64.toUInt64 &&& Int64.toUInt64 63)).toInt64)) + ((((((((((x0 - ((((x0).toUInt64 >>> (((1 : Int32)).toInt64.toUInt64 &&& Int64.toUInt64 63)).toInt64) &&& (6148914691236517205 : Int64))) &&& (3689348814741910323 : Int64)) + (((((x0 - ((((x0).toUInt64 >>> (((1 : Int32)).toInt64.toUInt64 &&& Int64.toUInt64 63)).toInt64) &&& (6148914691236517205 : Int64)))).toUInt64 >>> (((2 : Int32)).toInt64.toUInt64 &&& Int64.toUInt64 63)).toInt64) &&& (3689348814741910323 : Int64))) + ((((((x0 - ((((x0).toUInt64 >>> (((1 : Int32)).toInt64.toUInt64 &&& Int64.toUInt64 63)).toInt64) &&& (6148914691236517205 : Int64))) &&& (3689348814741910323 : Int64)) + (((((x0 - ((((x0).toUInt64 >>> (((1 : Int32)).toInt64.toUInt64 &&& Int64.toUInt64 63)).toInt64) &&& (6148914691236517205 : Int64)))).toUInt64 >>> (((2 : Int32)).toInt64.toUInt64 &&& Int64.toUInt64 63)).toInt64) &&& (3689348814741910323 : Int64)))).toUInt64 >>> (((4 : Int32)).toInt64.toUInt64 &&& Int64.toUInt64 63)).toInt64)) &&& (1085102592571150095 : Int64)) + ((((((((x0 - ((((x0).toUInt64 >>> (((1 : Int32)).toInt64.toUInt64 &&& Int64.toUInt64 63)).toInt64) &&& (6148914691236517205 : Int64))) &&& (3689348814741910323 : Int64)) + (((((x0 - ((((x0).toUInt64 >>> (((1 : Int32)).toInt64.toUInt64 &&& Int64.toUInt64 63)).toInt64) &&& (6148914691236517205 : Int64)))).toUInt64 >>> (((2 : Int32)).toInt64.toUInt64 &&& Int64.toUInt64 63)).toInt64) &&& (3689348814741910323 : Int64))) + ((((((x0 - ((((x0).toUInt64 >>> (((1 : Int32)).toInt64.toUInt64 &&& Int64.toUInt64 63)).toInt64) &&& (6148914691236517205 : Int64))) &&& (3689348814741910323 : Int64)) + (((((x0 - ((((x0).toUInt64 >>> (((1 : Int32)).toInt64.toUInt64 &&& Int64.toUInt64 63)).toInt64) &&& (6148914691236517205 : Int64)))).toUInt64 >>> (((2 : Int32)).toInt64.toUInt64 &&& Int64.toUInt64 63)).toInt64) &&& (3689348814741910323 : Int64)))).toUInt64 >>> (((4 : Int32)).toInt64.toUInt64 &&& Int64.toUInt64 63)).toInt64)) &&& (1085102592571150095 : Int64))).toUInt64 >>> (((8 : Int32)).toInt64.toUInt64 &&& Int64.toUInt64 63)).toInt64)) + (((((((((x0 - ((((x0).toUInt64 >>> (((1 : Int32)).toInt64.toUInt64 &&& Int64.toUInt64 63)).toInt64) &&& (6148914691236517205 : Int64))) &&& (3689348814741910323 : Int64)) + (((((x0 - ((((x0).toUInt64 >>> (((1 : Int32)).toInt64.toUInt64 &&& Int64.toUInt64 63)).toInt64) &&& (6148914691236517205 : Int64)))).toUInt64 >>> (((2 : Int32)).toInt64.toUInt64 &&& Int64.toUInt64 63)).toInt64) &&& (3689348814741910323 : Int64))) + ((((((x0 - ((((x0).toUInt64 >>> (((1 : Int32)).toInt64.toUInt64 &&& Int64.toUInt64 63)).toInt64) &&& (6148914691236517205 : Int64))) &&& (3689348814741910323 : Int64)) + (((((x0 - ((((x0).toUInt64 >>> (((1 : Int32)).toInt64.toUInt64 &&& Int64.toUInt64 63)).toInt64) &&& (6148914691236517205 : Int64)))).toUInt64 >>> (((2 : Int32)).toInt64.toUInt64 &&& Int64.toUInt64 63)).toInt64) &&& (3689348814741910323 : Int64)))).toUInt64 >>> (((4 : Int32)).toInt64.toUInt64 &&& Int64.toUInt64 63)).toInt64)) &&& (1085102592571150095 : Int64)) + ((((((((x0 - ((((x0).toUInt64 >>> (((1 : Int32)).toInt64.toUInt64 &&& Int64.toUInt64 63)).toInt64) &&& (6148914691236517205 : Int64))) &&& (3689348814741910323 : Int64)) + (((((x0 - ((((x0).toUInt64 >>> (((1 : Int32)).toInt64.toUInt64 &&& Int64.toUInt64 63)).toInt64) &&& (6148914691236517205 : Int64)))).toUInt64 >>> (((2 : Int32)).toInt64.toUInt64 &&& Int64.toUInt64 63)).toInt64) &&& (3689348814741910323 : Int64))) + ((((((x0 - ((((x0).toUInt64 >>> (((1 : Int32)).toInt64.toUInt64 &&& Int64.toUInt64 63)).toInt64) &&& (6148914691236517205 : Int64))) &&& (3689348814741910323 : Int64)) + (((((x0 - ((((x0).toUInt64 >>> (((1 : Int32)).toInt64.toUInt64 &&& Int64.toUInt64 63)).toInt64) &&& (6148914691236517205 : Int64)))).toUInt64 >>> (((2 : Int32)).toInt64.toUInt64 &&& Int64.toUInt64 63)).toInt64) &&& (3689348814741910323 : Int64)))).toUInt64 >>> (((4 : Int32)).toInt64.toUInt64 &&& Int64.toUInt64 63)).toInt64)) &&& (1085102592571150095 : Int64))).toUInt64 >>> (((8 : Int32)).toInt64.toUInt64 &&& Int64.toUInt64 63)).toInt64))).toUInt64 >>> (((16 : Int32)).toInt64.toUInt64 &&& Int64.toUInt64 63)).toInt64))).toUInt64 >>> (((32 : Int32)).toInt64.toUInt64 &&& Int64.toUInt64 63)).toInt64))).toInt32) &&& (127 : Int32)))

def f_X10_of (x0 : Nat) (x1 : Int32) (x2 : Int32) (I : mI) (L : mL) (R : mR) : Option (Int32 × mI × mL) :=
  (bd1 (f_X10_isRule x0 x1 I R) (fun r1 => (bnd ((bd2 (f_X10_refuseBad x0 I) (fun r3 I3 => (some (r3, I3, L))))) (fun j17_2 => (if r1 = 0 then j17_2 else (if x2 < 0 then j17_2 else (if x2 ≤ (5 : Int32) then (if inb x1 (lnC (R (R x0 0) 0)) = true then (if x2 = (0 : Int32) then (some ((I (R (R (R (R x0 0) 0) x1.toNatClampNeg) 0) 2), I, L)) else (if x2 = (1 : Int32) then (some ((I (R (R (R (R x0 0) 0) x1.toNatClampNeg) 1) 2), I, L)) else (if x2 = (2 : Int32) then (if inb (0 : Int32) (lnC (R (R (R (R (R x0 0) 0) x1.toNatClampNeg) 0) 0)) = true then (some ((I (R (R (R (R (R x0 0) 0) x1.toNatClampNeg) 0) 0) ((0 : Int32)).toNatClampNeg), I, L)) else none) else (if x2 = (3 : Int32) then (bd1 (f_X8_unknowns (R (R (R (R x0 0) 0) x1.toNatClampNeg) 0) I R) (fun r21 => (some (r21, I, L)))) else (if x2 = (4 : Int32) then (bd1 (f_X8_unknowns (R (R (R (R x0 0) 0) x1.toNatClampNeg) 1) I R) (fun r24 => (some (r24, I, L)))) else (bd2 (f_X10_keepBookRight x0 I L R) (fun I25 L25 => (if inb x1 (lnC (R (R x0 4) 5)) = true then (bd1 (f_J13_bitCount_95d88 (L25 (R (R x0 4) 5) x1.toNatClampNeg) ) (fun r29 => (some (r29, I25, L25)))) else none)))))))) else none) else j17_2)))))))

def f_X5_put (x0 : Nat) (x1 : Int32) (I : mI) (R : mR) : Option (mI) :=
  (if (nI (lnC (R x0 0))) ≤ (I x0 1) then (some I) else (if inb (I x0 1) (lnC (R x0 0)) = true then (bnd (u2 I (R x0 0) ((I x0 1)).toNatClampNeg x1) (fun I4 => (bnd (u2 I4 x0 1 ((I4 x0 1) + (1 : Int32))) (fun I5 => (some I5))))) else none))

def f_X5_writeBehind_L4 : Nat → Nat → Nat → Int32 → Int32 → mI → mR → Option (mI)
  | 0, _, _, _, _, _, _ => none
  | n + 1, x0, x1, x2, x3, I, R =>
  (if x3 < 0 then (some I) else (if inb x3 (lnC (R x1 1)) = true then (bnd (fun (I_4 : mI) => (f_X5_writeBehind_L4 n x0 x1 x2 (x3 + (-1 : Int32)) I_4 R)) (fun j24_4 => (if (I (R x1 1) x3.toNatClampNeg) = x2 then (bd1 (f_X5_put x0 (41 : Int32) I R) (fun I6 => (j24_4 I6))) else (j24_4 I)))) else none))

def f_X5_writeBehind_L34 : Nat → Nat → Nat → Int32 → Int32 → mI → mR → Option (mI)
  | 0, _, _, _, _, _, _ => none
  | n + 1, x0, x1, x2, x3, I, R =>
  (if x3 < 0 then (some I) else (if inb x3 (lnC (R x1 0)) = true then (bnd (fun (I_11 : mI) => (f_X5_writeBehind_L34 n x0 x1 x2 (x3 + (-1 : Int32)) I_11 R)) (fun j67_11 => (if (I (R x1 0) x3.toNatClampNeg) = (103 : Int32) then (if inb (x3 + (1 : Int32)) (lnC (R x1 1)) = true then (if (I (R x1 1) ((x3 + (1 : Int32))).toNatClampNeg) = x2 then (bd1 (f_X5_put x0 (44 : Int32) I R) (fun I16 => (j67_11 I16))) else (j67_11 I)) else none) else (j67_11 I)))) else none))

def f_X5_writeBehind (x0 : Nat) (x1 : Nat) (x2 : Int32) (I : mI) (R : mR) : Option (mI) :=
  (bd1 (f_X5_writeBehind_L4 FU x0 x1 x2 (x2 - (2 : Int32)) I R) (fun I_7 => (bd1 (f_X5_writeBehind_L34 FU x0 x1 x2 (x2 - (2 : Int32)) I_7 R) (fun I_17 => (some I_17)))))

def f_X5_writeSide_L2 : Nat → Nat → Nat → Int32 → mI → mR → Option (mI)
  | 0, _, _, _, _, _ => none
  | n + 1, x0, x1, x2, I, R =>
  (if (I x1 2) ≤ x2 then (some I) else (if inb x2 (lnC (R x1 0)) = true then (bd1 (f_X5_put x0 (I (R x1 0) x2.toNatClampNeg) I R) (fun I4 => (bd1 (f_X10_partsBehind (I4 (R x1 0) x2.toNatClampNeg) ) (fun r5 => (bnd (fun (I_6 : mI) => (f_X5_writeSide_L2 n x0 x1 (x2 + (1 : Int32)) I_6 R)) (fun j49_6 => (if r5 ≤ 0 then (bd1 (f_X5_writeBehind x0 x1 (x2 + (1 : Int32)) I4 R) (fun I8 => (j49_6 I8))) else (bd1 (f_X5_put x0 (40 : Int32) I4 R) (fun I9 => (j49_6 I9)))))))))) else none))

def f_X5_writeSide (x0 : Nat) (x1 : Nat) (I : mI) (R : mR) : Option (mI) :=
  (bd1 (f_X5_writeSide_L2 FU x0 x1 (0 : Int32) I R) (fun I_10 => (some I_10)))

def f_X5_writeRule (x0 : Nat) (x1 : Nat) (I : mI) (R : mR) : Option (mI) :=
  (bnd (u2 I x0 1 (0 : Int32)) (fun I1 => (bd1 (f_X5_writeSide x0 (R x1 0) I1 R) (fun I3 => (bd1 (f_X5_put x0 (62 : Int32) I3 R) (fun I4 => (bd1 (f_X5_writeSide x0 (R x1 1) I4 R) (fun I6 => (some I6)))))))))

def f_X10_shown (x0 : Nat) (x1 : Int32) (x2 : Int32) (I : mI) (R : mR) : Option (Int32 × mI) :=
  (bd1 (f_X10_isRule x0 x1 I R) (fun r1 => (bnd ((bd2 (f_X10_refuseBad x0 I) (fun r3 I3 => (some (r3, I3))))) (fun j13_2 => (if r1 = 0 then j13_2 else (if (-1 : Int32) ≤ x2 then (if inb x1 (lnC (R (R x0 0) 0)) = true then (bd1 (f_X5_writeRule (R x0 3) (R (R (R x0 0) 0) x1.toNatClampNeg) I R) (fun I11 => (if x2 = (-1 : Int32) then (some ((I11 (R x0 3) 1), I11)) else (if (I11 (R x0 3) 1) ≤ x2 then (some ((-5 : Int32), I11)) else (if inb x2 (lnC (R (R x0 3) 0)) = true then (some ((I11 (R (R x0 3) 0) x2.toNatClampNeg), I11)) else none))))) else none) else j13_2))))))

def f_X6_addPart_L14 : Nat → Nat → Int32 → Int32 → Int32 → Int32 → mI → mR → Option (mI)
  | 0, _, _, _, _, _, _, _ => none
  | n + 1, x0, x1, x2, x3, x4, I, R =>
  (if (6 : Int32) ≤ x4 then (some I) else (if inb ((x1 * (6 : Int32)) + x4) (lnC (R x0 0)) = true then (if inb ((x2 * (6 : Int32)) + x4) (lnC (R x0 0)) = true then (bnd (u2 I (R x0 0) (((x1 * (6 : Int32)) + x4)).toNatClampNeg ((I (R x0 0) (((x1 * (6 : Int32)) + x4)).toNatClampNeg) + (x3 * (I (R x0 0) (((x2 * (6 : Int32)) + x4)).toNatClampNeg)))) (fun I7 => (f_X6_addPart_L14 n x0 x1 x2 x3 (x4 + (1 : Int32)) I7 R))) else none) else none))

def f_X6_addPart (x0 : Nat) (x1 : Int32) (x2 : Int32) (x3 : Int32) (I : mI) (R : mR) : Option (mI) :=
  (if x2 < 0 then (some I) else (if x2 < (12 : Int32) then (bd1 (f_X6_addPart_L14 FU x0 x1 x2 x3 (0 : Int32) I R) (fun I_8 => (some I_8))) else (some I)))

def f_X6_countIn_L16 : Nat → Nat → Nat → Int32 → Int32 → Int32 → Int32 → Int32 → mI → mR → Option (mI)
  | 0, _, _, _, _, _, _, _, _, _ => none
  | n + 1, x0, x1, x2, x3, x4, x5, x6, I, R =>
  (if (6 : Int32) ≤ x6 then (some I) else (if inb ((x5 * (6 : Int32)) + x6) (lnC (R x0 0)) = true then (bnd (u2 I (R x0 0) (((x5 * (6 : Int32)) + x6)).toNatClampNeg (0 : Int32)) (fun I5 => (f_X6_countIn_L16 n x0 x1 x2 x3 x4 x5 (x6 + (1 : Int32)) I5 R))) else none))

def f_X6_countIn_L8 : Nat → Nat → Nat → Int32 → Int32 → Int32 → Int32 → mI → mR → Option (mI)
  | 0, _, _, _, _, _, _, _, _ => none
  | n + 1, x0, x1, x2, x3, x4, x5, I, R =>
  (if x5 < 0 then (some I) else (bd1 (f_X6_countIn_L16 FU x0 x1 x2 x3 x4 x5 (0 : Int32) I R) (fun I_6 => (if inb x5 (lnC (R x1 0)) = true then (bd1 (f_X10_slotOf (I_6 (R x1 0) x5.toNatClampNeg) ) (fun r9 => (bnd (fun (I_10 : mI) => (bnd (fun (I_11 : mI) => (f_X6_countIn_L8 n x0 x1 x2 x3 x4 (x5 + (-1 : Int32)) I_11 R)) (fun j156_11 => (if (I_10 (R x1 0) x5.toNatClampNeg) = (102 : Int32) then (bd1 (f_X6_addPart x0 x5 (x5 + (1 : Int32)) x2 I_10 R) (fun I20 => (j156_11 I20))) else (if (I_10 (R x1 0) x5.toNatClampNeg) = (103 : Int32) then (bd1 (f_X6_addPart x0 x5 (x5 + (1 : Int32)) x3 I_10 R) (fun I14 => (bnd (fun (w2_15 : Int32) => (bd1 (f_X6_addPart x0 x5 w2_15 x4 I14 R) (fun I16 => (j156_11 I16)))) (fun j151_15 => (if (I14 x1 2) ≤ (x5 + (1 : Int32)) then (j151_15 (-1 : Int32)) else (if inb (x5 + (1 : Int32)) (lnC (R x1 1)) = true then (j151_15 (I14 (R x1 1) ((x5 + (1 : Int32))).toNatClampNeg)) else none)))))) else (j156_11 I_10)))))) (fun j75_10 => (if r9 = (-1 : Int32) then (j75_10 I_6) else (if inb ((x5 * (6 : Int32)) + r9) (lnC (R x0 0)) = true then (bnd (u2 I_6 (R x0 0) (((x5 * (6 : Int32)) + r9)).toNatClampNeg (1 : Int32)) (fun I24 => (j75_10 I24))) else none)))))) else none))))

def f_X6_countIn (x0 : Nat) (x1 : Nat) (x2 : Int32) (x3 : Int32) (x4 : Int32) (I : mI) (R : mR) : Option (mI) :=
  (bd1 (f_X6_countIn_L8 FU x0 x1 x2 x3 x4 ((I x1 2) - (1 : Int32)) I R) (fun I_25 => (some I_25)))

def f_X4_addRow_L99 : Nat → Nat → Int32 → Int32 → Int32 → Int32 → mI → mR → Option (mI)
  | 0, _, _, _, _, _, _, _ => none
  | n + 1, x0, x2, x3, x4, x5, I, R =>
  (if (4 : Int32) ≤ x5 then (some I) else (if inb x5 (lnC (R (R x0 0) 0)) = true then (if inb (x3 + x5) (lnC (R (R x0 1) 0)) = true then (if inb (x4 + x5) (lnC (R x0 2)) = true then (bnd (u2 I (R x0 2) ((x4 + x5)).toNatClampNeg ((I (R (R x0 0) 0) x5.toNatClampNeg) - (I (R (R x0 1) 0) ((x3 + x5)).toNatClampNeg))) (fun I24 => (f_X4_addRow_L99 n x0 x2 x3 x4 (x5 + (1 : Int32)) I24 R))) else none) else none) else none))

def f_X4_addRow (x0 : Nat) (x1 : Int32) (x2 : Int32) (I : mI) (R : mR) : Option (Int32 × mI) :=
  (if (x1 * (6 : Int32)) < 0 then (some ((0 : Int32), I)) else (if ((x1 * (6 : Int32)) + (6 : Int32)) ≤ (nI (lnC (R (R x0 1) 0))) then (if inb (4 : Int32) (lnC (R (R x0 0) 0)) = true then (if inb ((x1 * (6 : Int32)) + (4 : Int32)) (lnC (R (R x0 1) 0)) = true then (if (I (R (R x0 0) 0) ((4 : Int32)).toNatClampNeg) < (I (R (R x0 1) 0) (((x1 * (6 : Int32)) + (4 : Int32))).toNatClampNeg) then (some ((0 : Int32), I)) else (if inb (5 : Int32) (lnC (R (R x0 0) 0)) = true then (if inb ((x1 * (6 : Int32)) + (5 : Int32)) (lnC (R (R x0 1) 0)) = true then (if (I (R (R x0 1) 0) (((x1 * (6 : Int32)) + (5 : Int32))).toNatClampNeg) ≤ (I (R (R x0 0) 0) ((5 : Int32)).toNatClampNeg) then (if (((I x0 4) * (5 : Int32)) + (5 : Int32)) ≤ (nI (lnC (R x0 2))) then (bd1 (f_X4_addRow_L99 FU x0 x2 (x1 * (6 : Int32)) ((I x0 4) * (5 : Int32)) (0 : Int32) I R) (fun I_25 => (if inb (((I x0 4) * (5 : Int32)) + (4 : Int32)) (lnC (R x0 2)) = true then (bnd (u2 I_25 (R x0 2) ((((I x0 4) * (5 : Int32)) + (4 : Int32))).toNatClampNeg x2) (fun I27 => (bnd (u2 I27 x0 4 ((I27 x0 4) + (1 : Int32))) (fun I28 => (some ((1 : Int32), I28)))))) else none))) else (some ((0 : Int32), I))) else (some ((0 : Int32), I))) else none) else none)) else none) else none) else (some ((0 : Int32), I))))

def f_X4_addCallRows_L3 : Nat → Nat → Nat → Int32 → Int32 → Int32 → mI → mR → Option ((Int32 × mI) ⊕ (mI))
  | 0, _, _, _, _, _, _, _ => none
  | n + 1, x0, x1, x2, x3, x4, I, R =>
  (if (I x1 8) ≤ x4 then (some (Sum.inr I)) else (if inb x4 (lnC (R x1 0)) = true then (bnd (fun (I_4 : mI) => (f_X4_addCallRows_L3 n x0 x1 x2 x3 (x4 + (1 : Int32)) I_4 R)) (fun j51_4 => (if (I (R x1 0) x4.toNatClampNeg) = x3 then (if inb x4 (lnC (R x1 2)) = true then (if (I (R x1 2) x4.toNatClampNeg) = x2 then (if inb x4 (lnC (R x1 1)) = true then (bd2 (f_X4_addRow x0 (I (R x1 1) x4.toNatClampNeg) (1 : Int32) I R) (fun r11 I11 => (if r11 = 0 then (some (Sum.inl ((0 : Int32), I11))) else (j51_4 I11)))) else none) else (j51_4 I)) else none) else (j51_4 I)))) else none))

def f_X4_addCallRows (x0 : Nat) (x1 : Nat) (x2 : Int32) (x3 : Int32) (I : mI) (R : mR) : Option (Int32 × mI) :=
  (bdS (f_X4_addCallRows_L3 FU x0 x1 x2 x3 (0 : Int32) I R) (un2 (fun r_13 I_13 => some (r_13, I_13))) (un1 (fun I_13 => (some ((1 : Int32), I_13)))))

def f_X4_fillRows_L8 : Nat → Nat → Nat → Nat → Int32 → Int32 → Int32 → Int32 → Int32 → mI → mR → Option ((Int32 × mI) ⊕ (mI))
  | 0, _, _, _, _, _, _, _, _, _, _ => none
  | n + 1, x0, x1, x2, x3, x4, x5, x6, x7, I, R =>
  (if (I x1 2) ≤ x7 then (some (Sum.inr I)) else (if inb x7 (lnC (R x1 0)) = true then (bd1 (f_X6_countIn (R x0 0) (R (R (R x1 0) x7.toNatClampNeg) 0) x4 x5 x6 I R) (fun I8 => (bd1 (f_X6_countIn (R x0 1) (R (R (R x1 0) x7.toNatClampNeg) 1) x4 x5 x6 I8 R) (fun I11 => (bnd (fun (w2_12 : Int32) => (bd2 (f_X4_addRow x0 (0 : Int32) w2_12 I11 R) (fun r13 I13 => (if r13 = 0 then (some (Sum.inl ((0 : Int32), I13))) else (bnd (fun (I_15 : mI) => (f_X4_fillRows_L8 n x0 x1 x2 x3 x4 x5 x6 (x7 + (1 : Int32)) I_15 R)) (fun j101_15 => (if x3 = (-1 : Int32) then (j101_15 I13) else (bd2 (f_X4_addCallRows x0 x2 x3 x7 I13 R) (fun r17 I17 => (if r17 = 0 then (some (Sum.inl ((0 : Int32), I17))) else (j101_15 I17))))))))))) (fun j75_12 => (if x3 = (-1 : Int32) then (j75_12 (1 : Int32)) else (j75_12 (0 : Int32))))))))) else none))

def f_X4_fillRows (x0 : Nat) (x1 : Nat) (x2 : Nat) (x3 : Int32) (x4 : Int32) (x5 : Int32) (x6 : Int32) (I : mI) (R : mR) : Option (Int32 × mI) :=
  (bnd (u2 I x0 4 (0 : Int32)) (fun I1 => (bdS (f_X4_fillRows_L8 FU x0 x1 x2 x3 x4 x5 x6 (0 : Int32) I1 R) (un2 (fun r_20 I_20 => some (r_20, I_20))) (un1 (fun I_20 => (some ((1 : Int32), I_20)))))))

def f_X4_sumOfRow (x0 : Nat) (x1 : Int32) (x2 : Int32) (x3 : Int32) (x4 : Int32) (x5 : Int32) (I : mI) (R : mR) : Option (Int32) :=
  (if inb (x1 * (5 : Int32)) (lnC (R x0 2)) = true then (if inb ((x1 * (5 : Int32)) + (1 : Int32)) (lnC (R x0 2)) = true then (if inb ((x1 * (5 : Int32)) + (2 : Int32)) (lnC (R x0 2)) = true then (if inb ((x1 * (5 : Int32)) + (3 : Int32)) (lnC (R x0 2)) = true then (some ((((x2 * (I (R x0 2) ((x1 * (5 : Int32))).toNatClampNeg)) + (x3 * (I (R x0 2) (((x1 * (5 : Int32)) + (1 : Int32))).toNatClampNeg))) + (x4 * (I (R x0 2) (((x1 * (5 : Int32)) + (2 : Int32))).toNatClampNeg))) + (x5 * (I (R x0 2) (((x1 * (5 : Int32)) + (3 : Int32))).toNatClampNeg)))) else none) else none) else none) else none)

def f_X4_meetsRows_L3 : Nat → Nat → Int32 → Int32 → Int32 → Int32 → Int32 → mI → mR → Option ((Int32) ⊕ (Unit))
  | 0, _, _, _, _, _, _, _, _ => none
  | n + 1, x0, x1, x2, x3, x4, x5, I, R =>
  (if (I x0 4) ≤ x5 then (some (Sum.inr ())) else (bd1 (f_X4_sumOfRow x0 x5 x1 x2 x3 x4 I R) (fun r2 => (if inb ((x5 * (5 : Int32)) + (4 : Int32)) (lnC (R x0 2)) = true then (if (I (R x0 2) (((x5 * (5 : Int32)) + (4 : Int32))).toNatClampNeg) ≤ r2 then (f_X4_meetsRows_L3 n x0 x1 x2 x3 x4 (x5 + (1 : Int32)) I R) else (some (Sum.inl (0 : Int32)))) else none))))

def f_X4_meetsRows (x0 : Nat) (x1 : Int32) (x2 : Int32) (x3 : Int32) (x4 : Int32) (I : mI) (R : mR) : Option (Int32) :=
  (bdS (f_X4_meetsRows_L3 FU x0 x1 x2 x3 x4 (0 : Int32) I R) (un1 (fun r_6 => some r_6)) (un0 (some (1 : Int32))))

def f_X4_leastByRows_L30 : Nat → Nat → Int32 → Int32 → Int32 → Int32 → Int32 → Int32 → Int32 → mI → mR → Option ((Int32) ⊕ (Unit))
  | 0, _, _, _, _, _, _, _, _, _, _ => none
  | n + 1, x0, x1, x2, x3, x4, x5, x6, x7, I, R =>
  (if x2 < x7 then (some (Sum.inr ())) else (bnd ((bd1 (f_X4_meetsRows x0 x4 x5 x6 x7 I R) (fun r6 => (if r6 = 0 then (f_X4_leastByRows_L30 n x0 x1 x2 x3 x4 x5 x6 (x7 + (1 : Int32)) I R) else (some (Sum.inl (((1000 : Int32) * (((((1000 : Int32) * x4) + ((100 : Int32) * x5)) + ((10 : Int32) * x6)) + x7)) + x1))))))) (fun j78_5 => (if x3 = (-1 : Int32) then j78_5 else (if (((1000 : Int32) * (((((1000 : Int32) * x4) + ((100 : Int32) * x5)) + ((10 : Int32) * x6)) + x7)) + x1) ≤ x3 then j78_5 else (some (Sum.inl x3)))))))

def f_X4_leastByRows_L21 : Nat → Nat → Int32 → Int32 → Int32 → Int32 → Int32 → Int32 → mI → mR → Option ((Int32) ⊕ (Unit))
  | 0, _, _, _, _, _, _, _, _, _ => none
  | n + 1, x0, x1, x2, x3, x4, x5, x6, I, R =>
  (if x2 < x6 then (some (Sum.inr ())) else (bdS (f_X4_leastByRows_L30 FU x0 x1 x2 x3 x4 x5 x6 (0 : Int32) I R) (un1 (fun r_10 => some (Sum.inl r_10))) (un0 (f_X4_leastByRows_L21 n x0 x1 x2 x3 x4 x5 (x6 + (1 : Int32)) I R))))

def f_X4_leastByRows_L12 : Nat → Nat → Int32 → Int32 → Int32 → Int32 → Int32 → mI → mR → Option ((Int32) ⊕ (Unit))
  | 0, _, _, _, _, _, _, _, _ => none
  | n + 1, x0, x1, x2, x3, x4, x5, I, R =>
  (if x2 < x5 then (some (Sum.inr ())) else (bdS (f_X4_leastByRows_L21 FU x0 x1 x2 x3 x4 x5 (0 : Int32) I R) (un1 (fun r_11 => some (Sum.inl r_11))) (un0 (f_X4_leastByRows_L12 n x0 x1 x2 x3 x4 (x5 + (1 : Int32)) I R))))

def f_X4_leastByRows_L3 : Nat → Nat → Int32 → Int32 → Int32 → Int32 → mI → mR → Option ((Int32) ⊕ (Unit))
  | 0, _, _, _, _, _, _, _ => none
  | n + 1, x0, x1, x2, x3, x4, I, R =>
  (if x2 < x4 then (some (Sum.inr ())) else (bdS (f_X4_leastByRows_L12 FU x0 x1 x2 x3 x4 (0 : Int32) I R) (un1 (fun r_12 => some (Sum.inl r_12))) (un0 (f_X4_leastByRows_L3 n x0 x1 x2 x3 (x4 + (1 : Int32)) I R))))

def f_X4_leastByRows (x0 : Nat) (x1 : Int32) (x2 : Int32) (x3 : Int32) (I : mI) (R : mR) : Option (Int32) :=
  (bdS (f_X4_leastByRows_L3 FU x0 x1 x2 x3 (0 : Int32) I R) (un1 (fun r_13 => some r_13)) (un0 (some x3)))

def f_X4_leastWeights_L57 : Nat → Nat → Nat → Nat → Int32 → Int32 → Int32 → Int32 → Int32 → Int32 → Int32 → mI → mR → Option (Int32 × mI)
  | 0, _, _, _, _, _, _, _, _, _, _, _, _ => none
  | n + 1, x0, x1, x2, x3, x4, x5, x6, x7, x8, x9, I, R =>
  (if (x4 + (2 : Int32)) < x9 then (some (x6, I)) else (bd2 (f_X4_fillRows x0 x1 x2 x3 x7 x8 x9 I R) (fun r6 I6 => (bnd (fun (v6_7 : Int32) => (f_X4_leastWeights_L57 n x0 x1 x2 x3 x4 x5 v6_7 x7 x8 (x9 + (1 : Int32)) I6 R)) (fun j106_7 => (if r6 = 0 then (j106_7 x6) else (bd1 (f_X4_leastByRows x0 ((((100 : Int32) * x7) + ((10 : Int32) * x8)) + x9) x5 x6 I6 R) (fun r9 => (j106_7 r9)))))))))

def f_X4_leastWeights_L44 : Nat → Nat → Nat → Nat → Int32 → Int32 → Int32 → Int32 → Int32 → Int32 → mI → mR → Option (Int32 × mI)
  | 0, _, _, _, _, _, _, _, _, _, _, _ => none
  | n + 1, x0, x1, x2, x3, x4, x5, x6, x7, x8, I, R =>
  (if (x4 + (2 : Int32)) < x8 then (some (x6, I)) else (bd2 (f_X4_leastWeights_L57 FU x0 x1 x2 x3 x4 x5 x6 x7 x8 x4 I R) (fun y6_10 I_10 => (f_X4_leastWeights_L44 n x0 x1 x2 x3 x4 x5 y6_10 x7 (x8 + (1 : Int32)) I_10 R))))

def f_X4_leastWeights_L31 : Nat → Nat → Nat → Nat → Int32 → Int32 → Int32 → Int32 → Int32 → mI → mR → Option (Int32 × mI)
  | 0, _, _, _, _, _, _, _, _, _, _ => none
  | n + 1, x0, x1, x2, x3, x4, x5, x6, x7, I, R =>
  (if (x4 + (2 : Int32)) < x7 then (some (x6, I)) else (bd2 (f_X4_leastWeights_L44 FU x0 x1 x2 x3 x4 x5 x6 x7 x4 I R) (fun y6_11 I_11 => (f_X4_leastWeights_L31 n x0 x1 x2 x3 x4 x5 y6_11 (x7 + (1 : Int32)) I_11 R))))

def f_X4_leastWeights (x0 : Nat) (x1 : Nat) (x2 : Nat) (x3 : Int32) (I : mI) (R : mR) : Option (Int32 × mI) :=
  (bnd (fun (w0_1 : Int32) => (bnd (fun (w0_2 : Int32) => (bd2 (f_X4_leastWeights_L31 FU x0 x1 x2 x3 w0_1 w0_2 (-1 : Int32) w0_1 I R) (fun y6_12 I_12 => (some (y6_12, I_12))))) (fun j22_2 => (if x3 = (-1 : Int32) then (j22_2 (3 : Int32)) else (j22_2 (2 : Int32)))))) (fun j10_1 => (if x3 = (-1 : Int32) then (j10_1 (1 : Int32)) else (j10_1 (0 : Int32)))))

def f_X10_fall (x0 : Nat) (I : mI) (R : mR) : Option (Int32 × mI) :=
  (if (I x0 11) = (-9 : Int32) then (bd2 (f_X4_leastWeights (R x0 5) (R x0 0) (R x0 4) (-1 : Int32) I R) (fun r5 I5 => (bnd (u2 I5 x0 11 r5) (fun I6 => (some ((I6 x0 11), I6)))))) else (some ((I x0 11), I)))

def f_X10_splitFigures_L11 : Nat → Nat → Int32 → Int32 → mI → mR → Option ((Int32 × mI) ⊕ (Int32 × mI))
  | 0, _, _, _, _, _ => none
  | n + 1, x0, x2, x3, I, R =>
  (if x3 < 0 then (some (Sum.inr (x2, I))) else (if inb x3 (lnC (R x0 8)) = true then (bnd (u2 I (R x0 8) x3.toNatClampNeg (x2 - x2 / (10 : Int32) * (10 : Int32))) (fun I5 => (if (I5 (R x0 8) x3.toNatClampNeg) ≤ (3 : Int32) then (f_X10_splitFigures_L11 n x0 (x2 / (10 : Int32)) (x3 + (-1 : Int32)) I5 R) else (some (Sum.inl ((0 : Int32), I5)))))) else none))

def f_X10_splitFigures (x0 : Nat) (x1 : Int32) (I : mI) (R : mR) : Option (Int32 × mI) :=
  (if 0 ≤ x1 then (bdS (f_X10_splitFigures_L11 FU x0 x1 (6 : Int32) I R) (un2 (fun r_7 I_7 => some (r_7, I_7))) (un2 (fun y2_7 I_7 => (if y2_7 = 0 then (some ((1 : Int32), I_7)) else (some ((0 : Int32), I_7)))))) else (some ((0 : Int32), I)))

def f_X4_compareSides (x0 : Nat) (x1 : Nat) (x2 : Nat) (I : mI) (R : mR) : Option (Int32 × mI) :=
  (if inb (4 : Int32) (lnC x2) = true then (if inb (5 : Int32) (lnC x2) = true then (if inb (6 : Int32) (lnC x2) = true then (bd1 (f_X6_countIn (R x0 0) (R x1 0) (I x2 ((4 : Int32)).toNatClampNeg) (I x2 ((5 : Int32)).toNatClampNeg) (I x2 ((6 : Int32)).toNatClampNeg) I R) (fun I6 => (bd1 (f_X6_countIn (R x0 1) (R x1 1) (I6 x2 ((4 : Int32)).toNatClampNeg) (I6 x2 ((5 : Int32)).toNatClampNeg) (I6 x2 ((6 : Int32)).toNatClampNeg) I6 R) (fun I9 => (bnd (u2 I9 x0 4 (0 : Int32)) (fun I10 => (bd2 (f_X4_addRow x0 (0 : Int32) (1 : Int32) I10 R) (fun r11 I11 => (if r11 = 0 then (some ((0 : Int32), I11)) else (if inb (0 : Int32) (lnC x2) = true then (if inb (1 : Int32) (lnC x2) = true then (if inb (2 : Int32) (lnC x2) = true then (if inb (3 : Int32) (lnC x2) = true then (bd1 (f_X4_sumOfRow x0 (0 : Int32) (I11 x2 ((0 : Int32)).toNatClampNeg) (I11 x2 ((1 : Int32)).toNatClampNeg) (I11 x2 ((2 : Int32)).toNatClampNeg) (I11 x2 ((3 : Int32)).toNatClampNeg) I11 R) (fun r17 => (if r17 ≤ 0 then (if r17 = 0 then (some ((1 : Int32), I11)) else (some ((0 : Int32), I11))) else (some ((2 : Int32), I11))))) else none) else none) else none) else none)))))))))) else none) else none) else none)

def f_X10_weighs (x0 : Nat) (x1 : Int32) (x2 : Int32) (I : mI) (R : mR) : Option (Int32 × mI) :=
  (bd2 (f_X10_splitFigures x0 x1 I R) (fun r1 I1 => (bnd ((bd2 (f_X10_refuseBad x0 I1) (fun r3 I3 => (some (r3, I3))))) (fun j16_2 => (if r1 = 0 then j16_2 else (bd1 (f_X10_isRule x0 x2 I1 R) (fun r5 => (if r5 = 0 then j16_2 else (if inb x2 (lnC (R (R x0 0) 0)) = true then (bd2 (f_X4_compareSides (R x0 5) (R (R (R x0 0) 0) x2.toNatClampNeg) (R x0 8) I1 R) (fun r13 I13 => (some (r13, I13)))) else none)))))))))

def f_X4_totalAt (x0 : Nat) (x1 : Nat) (x2 : Int32) (I : mI) (L : mL) (R : mR) : Option (Int64) :=
  (bnd ((some (0 : Int64))) (fun j21_1 => (if x2 < 0 then j21_1 else (if (I x1 2) ≤ x2 then j21_1 else (if inb x2 (lnC (R x0 3)) = true then (some (L (R x0 3) x2.toNatClampNeg)) else none)))))

def f_X4_weightLeftOver_L7 : Nat → Nat → Nat → Nat → Int32 → mI → mL → mR → Option (mL)
  | 0, _, _, _, _, _, _, _ => none
  | n + 1, x0, x1, x2, x3, I, L, R =>
  (if x3 < 0 then (some L) else (if inb x3 (lnC (R x1 0)) = true then (bd1 (f_X10_slotOf (I (R x1 0) x3.toNatClampNeg) ) (fun r4 => (bnd (fun (w0_5 : Int64) => (bnd (fun (v5_6 : Int64) => (if inb x3 (lnC (R x0 3)) = true then (bnd (u2 L (R x0 3) x3.toNatClampNeg (v5_6 - v5_6 / (1000000007 : Int64) * (1000000007 : Int64))) (fun L9 => (f_X4_weightLeftOver_L7 n x0 x1 x2 (x3 + (-1 : Int32)) I L9 R))) else none)) (fun j139_6 => (if (I (R x1 0) x3.toNatClampNeg) = (102 : Int32) then (if inb (4 : Int32) (lnC x2) = true then (bd1 (f_X4_totalAt x0 x1 (x3 + (1 : Int32)) I L R) (fun r20 => (j139_6 (w0_5 + ((((I x2 ((4 : Int32)).toNatClampNeg)).toInt64) * r20))))) else none) else (if (I (R x1 0) x3.toNatClampNeg) = (103 : Int32) then (if (I x1 2) ≤ (x3 + (1 : Int32)) then (j139_6 w0_5) else (if inb (5 : Int32) (lnC x2) = true then (bd1 (f_X4_totalAt x0 x1 (x3 + (1 : Int32)) I L R) (fun r14 => (if inb (6 : Int32) (lnC x2) = true then (if inb (x3 + (1 : Int32)) (lnC (R x1 1)) = true then (bd1 (f_X4_totalAt x0 x1 (I (R x1 1) ((x3 + (1 : Int32))).toNatClampNeg) I L R) (fun r18 => (j139_6 ((w0_5 + ((((I x2 ((5 : Int32)).toNatClampNeg)).toInt64) * r14)) + ((((I x2 ((6 : Int32)).toNatClampNeg)).toInt64) * r18))))) else none) else none))) else none)) else (j139_6 w0_5)))))) (fun j42_5 => (bnd ((j42_5 (0 : Int64))) (fun j41_21 => (if r4 < 0 then j41_21 else (if (4 : Int32) ≤ r4 then j41_21 else (if inb r4 (lnC x2) = true then (j42_5 (((I x2 r4.toNatClampNeg)).toInt64)) else none))))))))) else none))

def f_X4_weightLeftOver (x0 : Nat) (x1 : Nat) (x2 : Nat) (I : mI) (L : mL) (R : mR) : Option (Int32 × mL) :=
  (bd1 (f_X4_weightLeftOver_L7 FU x0 x1 x2 ((I x1 2) - (1 : Int32)) I L R) (fun L_25 => (if inb (0 : Int32) (lnC (R x0 3)) = true then (some ((((L_25 (R x0 3) ((0 : Int32)).toNatClampNeg)).toInt32), L_25)) else none)))

def f_X10_weight (x0 : Nat) (x1 : Int32) (I : mI) (L : mL) (R : mR) : Option (Int32 × mI × mL) :=
  (bd2 (f_X10_splitFigures x0 x1 I R) (fun r1 I1 => (if r1 = 0 then (bd2 (f_X10_refuseBad x0 I1) (fun r8 I8 => (some (r8, I8, L)))) else (bd2 (f_X4_weightLeftOver (R x0 5) (R (R x0 0) 1) (R x0 8) I1 L R) (fun r7 L7 => (some (r7, I1, L7)))))))

def f_X10_weighRings_L18 : Nat → Nat → Int32 → mI → mR → Option (mI)
  | 0, _, _, _, _ => none
  | n + 1, x0, x1, I, R =>
  (if (I (R x0 4) 9) ≤ x1 then (some I) else (bd2 (f_X4_leastWeights (R x0 5) (R x0 0) (R x0 4) x1 I R) (fun r9 I9 => (if inb x1 (lnC (R (R x0 4) 6)) = true then (bnd (u2 I9 (R (R x0 4) 6) x1.toNatClampNeg r9) (fun I11 => (bnd (fun (I_12 : mI) => (f_X10_weighRings_L18 n x0 (x1 + (1 : Int32)) I_12 R)) (fun j75_12 => (if (I11 (R (R x0 4) 6) x1.toNatClampNeg) = (-1 : Int32) then (bnd (u2 I11 (R x0 4) 10 (0 : Int32)) (fun I14 => (j75_12 I14))) else (j75_12 I11)))))) else none))))

def f_X10_weighRings (x0 : Nat) (I : mI) (R : mR) : Option (mI) :=
  (if (I x0 10) = 0 then (bnd (u2 I (R x0 4) 10 (1 : Int32)) (fun I3 => (bd1 (f_X10_weighRings_L18 FU x0 (0 : Int32) I3 R) (fun I_15 => (bnd (u2 I_15 x0 10 (1 : Int32)) (fun I16 => (some I16))))))) else (some I))

def f_X10_calls (x0 : Nat) (x1 : Int32) (I : mI) (L : mL) (R : mR) : Option (Int32 × mI × mL) :=
  (bnd ((bd2 (f_X10_refuseBad x0 I) (fun r2 I2 => (some (r2, I2, L))))) (fun j9_1 => (if x1 < 0 then j9_1 else (if x1 ≤ (2 : Int32) then (bd2 (f_X10_keepBookRight x0 I L R) (fun I5 L5 => (if x1 = 0 then (some ((I5 (R x0 4) 8), I5, L5)) else (if x1 = (1 : Int32) then (some ((I5 (R x0 4) 9), I5, L5)) else (bd1 (f_X10_weighRings x0 I5 R) (fun I8 => (if (I8 (R x0 4) 10) = 0 then (some ((0 : Int32), I8, L5)) else (some ((1 : Int32), I8, L5))))))))) else j9_1))))

def f_X0_has (x0 : Nat) (x1 : Int32) (I : mI) : Option (Int32) :=
  (bnd ((some (0 : Int32))) (fun j16_1 => (if x1 < 0 then j16_1 else (if (I x0 8) ≤ x1 then j16_1 else (some (1 : Int32))))))

def f_X8_partSize (x0 : Nat) (x1 : Int32) (I : mI) (R : mR) : Option (Int32) :=
  (bnd ((some (0 : Int32))) (fun j23_1 => (if x1 < 0 then j23_1 else (if (I x0 2) ≤ x1 then j23_1 else (if inb x1 (lnC (R x0 1)) = true then (some ((I (R x0 1) x1.toNatClampNeg) - x1)) else none)))))

def f_X0_partSize (x0 : Nat) (x1 : Nat) (x2 : Int32) (I : mI) (R : mR) : Option (Int32) :=
  (if inb x2 (lnC (R x0 0)) = true then (if inb (I (R x0 0) x2.toNatClampNeg) (lnC (R x1 0)) = true then (if inb x2 (lnC (R x0 1)) = true then (bd1 (f_X8_partSize (R (R (R x1 0) ((I (R x0 0) x2.toNatClampNeg)).toNatClampNeg) 1) (I (R x0 1) x2.toNatClampNeg) I R) (fun r9 => (some r9))) else none) else none) else none)

def f_X10_call (x0 : Nat) (x1 : Int32) (x2 : Int32) (I : mI) (L : mL) (R : mR) : Option (Int32 × mI × mL) :=
  (bd2 (f_X10_keepBookRight x0 I L R) (fun I1 L1 => (bd1 (f_X0_has (R x0 4) x1 I1) (fun r3 => (bnd ((bd2 (f_X10_refuseBad x0 I1) (fun r5 I5 => (some (r5, I5, L1))))) (fun j24_4 => (if r3 = 0 then j24_4 else (if x2 < 0 then j24_4 else (if x2 ≤ (3 : Int32) then (if x2 = (0 : Int32) then (if inb x1 (lnC (R (R x0 4) 0)) = true then (some ((I1 (R (R x0 4) 0) x1.toNatClampNeg), I1, L1)) else none) else (if x2 = (1 : Int32) then (bd1 (f_X0_partSize (R x0 4) (R x0 0) x1 I1 R) (fun r14 => (some (r14, I1, L1)))) else (if x2 = (2 : Int32) then (if inb x1 (lnC (R (R x0 4) 2)) = true then (some ((I1 (R (R x0 4) 2) x1.toNatClampNeg), I1, L1)) else none) else (if inb x1 (lnC (R (R x0 4) 3)) = true then (bd1 (f_J13_bitCount_95d88 (L1 (R (R x0 4) 3) x1.toNatClampNeg) ) (fun r20 => (some (r20, I1, L1)))) else none)))) else j24_4)))))))))

def f_X10_follows (x0 : Nat) (x1 : Int32) (x2 : Int32) (I : mI) (L : mL) (R : mR) : Option (Int32 × mI × mL) :=
  (bd2 (f_X10_keepBookRight x0 I L R) (fun I1 L1 => (bd1 (f_X0_has (R x0 4) x1 I1) (fun r3 => (bnd ((bd2 (f_X10_refuseBad x0 I1) (fun r5 I5 => (some (r5, I5, L1))))) (fun j26_4 => (if r3 = 0 then j26_4 else (bd1 (f_X0_has (R x0 4) x2 I1) (fun r7 => (if r7 = 0 then j26_4 else (if inb x1 (lnC (R (R x0 4) 3)) = true then (bd1 (f_X10_hasBit (L1 (R (R x0 4) 3) x1.toNatClampNeg) x2 ) (fun r11 => (if r11 = 0 then (some ((0 : Int32), I1, L1)) else (some ((1 : Int32), I1, L1))))) else none)))))))))))

def f_X10_lighter (x0 : Nat) (x1 : Int32) (I : mI) (L : mL) (R : mR) : Option (Int32 × mI × mL) :=
  (bd2 (f_X10_keepBookRight x0 I L R) (fun I1 L1 => (bnd ((bd2 (f_X10_refuseBad x0 I1) (fun r3 I3 => (some (r3, I3, L1))))) (fun j19_2 => (if x1 < 0 then j19_2 else (if x1 < (I1 (R x0 4) 9) then (bd1 (f_X10_weighRings x0 I1 R) (fun I7 => (if inb x1 (lnC (R (R x0 4) 6)) = true then (some ((I7 (R (R x0 4) 6) x1.toNatClampNeg), I7, L1)) else none))) else j19_2))))))

def f_X8_sameParts_L57 : Nat → Nat → Int32 → Int32 → Int32 → Int32 → mI → mR → Option ((Int32) ⊕ (Unit))
  | 0, _, _, _, _, _, _, _ => none
  | n + 1, x0, x1, x2, x3, x4, I, R =>
  (if x3 ≤ x4 then (some (Sum.inr ())) else (if inb (x1 + x4) (lnC (R x0 0)) = true then (if inb (x2 + x4) (lnC (R x0 0)) = true then (if (I (R x0 0) ((x1 + x4)).toNatClampNeg) = (I (R x0 0) ((x2 + x4)).toNatClampNeg) then (f_X8_sameParts_L57 n x0 x1 x2 x3 (x4 + (1 : Int32)) I R) else (some (Sum.inl (0 : Int32)))) else none) else none))

def f_X8_sameParts (x0 : Nat) (x1 : Int32) (x2 : Int32) (I : mI) (R : mR) : Option (Int32) :=
  (if x1 < 0 then (some (0 : Int32)) else (if (I x0 2) ≤ x1 then (some (0 : Int32)) else (if x2 < 0 then (some (0 : Int32)) else (if (I x0 2) ≤ x2 then (some (0 : Int32)) else (if inb x1 (lnC (R x0 1)) = true then (if inb x2 (lnC (R x0 1)) = true then (if ((I (R x0 1) x1.toNatClampNeg) - x1) = ((I (R x0 1) x2.toNatClampNeg) - x2) then (bdS (f_X8_sameParts_L57 FU x0 x1 x2 ((I (R x0 1) x1.toNatClampNeg) - x1) (0 : Int32) I R) (un1 (fun r_14 => some r_14)) (un0 (some (1 : Int32)))) else (some (0 : Int32))) else none) else none)))))

def f_X9_fits_L20 : Nat → Nat → Nat → Nat → Int32 → Int32 → mI → mR → Option ((Int32 × mI) ⊕ (mI))
  | 0, _, _, _, _, _, _, _ => none
  | n + 1, x0, x1, x2, x4, x5, I, R =>
  (if (I x1 2) ≤ x5 then (some (Sum.inr I)) else (if x4 < 0 then (some (Sum.inl ((0 : Int32), I))) else (if x4 < (I x2 2) then (if inb x5 (lnC (R x1 0)) = true then (bd1 (f_X10_unknownBit (I (R x1 0) x5.toNatClampNeg) ) (fun r11 => (bnd ((bnd (fun (I_13 : mI) => (bnd ((bnd (fun (w0_15 : Int32) => (f_X9_fits_L20 n x0 x1 x2 w0_15 (x5 + (1 : Int32)) I_13 R)) (fun j147_15 => (if r11 = 0 then (j147_15 (x4 + (1 : Int32))) else (if inb x4 (lnC (R x2 1)) = true then (j147_15 (I_13 (R x2 1) x4.toNatClampNeg)) else none))))) (fun j128_14 => (if r11 = 0 then j128_14 else (if inb r11 (lnC (R x0 1)) = true then (bd1 (f_X8_sameParts x2 (I_13 (R x0 1) r11.toNatClampNeg) x4 I_13 R) (fun r22 => (if r22 = 0 then (some (Sum.inl ((0 : Int32), I_13))) else j128_14))) else none))))) (fun j105_13 => (if r11 = 0 then (j105_13 I) else (if inb r11 (lnC (R x0 1)) = true then (if (I (R x0 1) r11.toNatClampNeg) = (-1 : Int32) then (bnd (u2 I (R x0 1) r11.toNatClampNeg x4) (fun I28 => (j105_13 I28))) else (j105_13 I)) else none))))) (fun j80_12 => (if r11 = 0 then (if inb x4 (lnC (R x2 0)) = true then (if (I (R x2 0) x4.toNatClampNeg) = (I (R x1 0) x5.toNatClampNeg) then j80_12 else (some (Sum.inl ((0 : Int32), I)))) else none) else j80_12))))) else none) else (some (Sum.inl ((0 : Int32), I))))))

def f_X9_fits (x0 : Nat) (x1 : Nat) (x2 : Nat) (x3 : Int32) (I : mI) (R : mR) : Option (Int32 × mI) :=
  (if inb (1 : Int32) (lnC (R x0 1)) = true then (bnd (u2 I (R x0 1) ((1 : Int32)).toNatClampNeg (-1 : Int32)) (fun I3 => (if inb (2 : Int32) (lnC (R x0 1)) = true then (bnd (u2 I3 (R x0 1) ((2 : Int32)).toNatClampNeg (-1 : Int32)) (fun I5 => (bdS (f_X9_fits_L20 FU x0 x1 x2 x3 (0 : Int32) I5 R) (un2 (fun r_33 I_33 => some (r_33, I_33))) (un1 (fun I_33 => (some ((1 : Int32), I_33))))))) else none))) else none)

def f_X9_leastRuleAt_L3 : Nat → Nat → Nat → Nat → Int32 → Int32 → mI → mR → Option ((Int32 × mI) ⊕ (mI))
  | 0, _, _, _, _, _, _, _ => none
  | n + 1, x0, x1, x2, x3, x4, I, R =>
  (if (I x1 2) ≤ x4 then (some (Sum.inr I)) else (if inb x4 (lnC (R x1 0)) = true then (bd2 (f_X9_fits x0 (R (R (R x1 0) x4.toNatClampNeg) 0) x2 x3 I R) (fun r6 I6 => (if r6 = 0 then (f_X9_leastRuleAt_L3 n x0 x1 x2 x3 (x4 + (1 : Int32)) I6 R) else (some (Sum.inl (x4, I6)))))) else none))

def f_X9_leastRuleAt (x0 : Nat) (x1 : Nat) (x2 : Nat) (x3 : Int32) (I : mI) (R : mR) : Option (Int32 × mI) :=
  (bdS (f_X9_leastRuleAt_L3 FU x0 x1 x2 x3 (0 : Int32) I R) (un2 (fun r_8 I_8 => some (r_8, I_8))) (un1 (fun I_8 => (some ((-1 : Int32), I_8)))))

def f_X9_seek_L7 : Nat → Nat → Nat → Nat → Int32 → mI → mR → Option (mI)
  | 0, _, _, _, _, _, _ => none
  | n + 1, x0, x1, x2, x3, I, R =>
  (if (I x2 2) ≤ x3 then (some I) else (bnd ((bd2 (f_X9_leastRuleAt x0 x1 x2 x3 I R) (fun r4 I4 => (bnd (fun (I_5 : mI) => (f_X9_seek_L7 n x0 x1 x2 (x3 + (1 : Int32)) I_5 R)) (fun j65_5 => (if r4 = (-1 : Int32) then (j65_5 I4) else (bnd (u2 I4 x0 2 x3) (fun I7 => (bnd (u2 I7 x0 3 r4) (fun I8 => (j65_5 I8))))))))))) (fun j39_3 => (if (I x0 2) = (-1 : Int32) then j39_3 else (if inb (I x0 2) (lnC (R x2 1)) = true then (if x3 < (I (R x2 1) ((I x0 2)).toNatClampNeg) then j39_3 else (some I)) else none)))))

def f_X9_seek (x0 : Nat) (x1 : Nat) (x2 : Nat) (I : mI) (R : mR) : Option (Int32 × mI) :=
  (bnd (u2 I x0 2 (-1 : Int32)) (fun I1 => (bd1 (f_X9_seek_L7 FU x0 x1 x2 (0 : Int32) I1 R) (fun I_13 => (if (I_13 x0 2) = (-1 : Int32) then (some ((0 : Int32), I_13)) else (some ((1 : Int32), I_13)))))))

def f_X9_sizeBehind_L17 : Nat → Nat → Nat → Nat → Int32 → Int32 → mI → mR → Option (Int32)
  | 0, _, _, _, _, _, _, _ => none
  | n + 1, x0, x1, x2, x3, x4, I, R =>
  (if (I x1 2) ≤ x4 then (some x3) else (if inb x4 (lnC (R x1 0)) = true then (bd1 (f_X10_unknownBit (I (R x1 0) x4.toNatClampNeg) ) (fun r5 => (bnd (fun (w1_6 : Int32) => (f_X9_sizeBehind_L17 n x0 x1 x2 (x3 + w1_6) (x4 + (1 : Int32)) I R)) (fun j59_6 => (if r5 = 0 then (j59_6 (1 : Int32)) else (if inb r5 (lnC (R x0 1)) = true then (bd1 (f_X8_partSize x2 (I (R x0 1) r5.toNatClampNeg) I R) (fun r10 => (j59_6 r10))) else none)))))) else none))

def f_X9_sizeBehind (x0 : Nat) (x1 : Nat) (x2 : Nat) (I : mI) (R : mR) : Option (Int32) :=
  (bd1 (f_X8_partSize x2 (I x0 2) I R) (fun r1 => (bd1 (f_X9_sizeBehind_L17 FU x0 x1 x2 ((I x2 2) - r1) (0 : Int32) I R) (fun y3_11 => (some y3_11)))))

def f_X8_addPart_L23 : Nat → Nat → Nat → Int32 → Int32 → mI → mR → Option (mI)
  | 0, _, _, _, _, _, _ => none
  | n + 1, x0, x1, x3, x4, I, R =>
  (if x3 ≤ x4 then (some I) else (if inb x4 (lnC (R x1 0)) = true then (bd1 (f_X8_addLetter x0 (I (R x1 0) x4.toNatClampNeg) I R) (fun I8 => (f_X8_addPart_L23 n x0 x1 x3 (x4 + (1 : Int32)) I8 R))) else none))

def f_X8_addPart (x0 : Nat) (x1 : Nat) (x2 : Int32) (I : mI) (R : mR) : Option (mI) :=
  (if x2 < 0 then (some I) else (if x2 < (I x1 2) then (if inb x2 (lnC (R x1 1)) = true then (bd1 (f_X8_addPart_L23 FU x0 x1 (I (R x1 1) x2.toNatClampNeg) x2 I R) (fun I_9 => (some I_9))) else none) else (some I)))

def f_X9_build_L42 : Nat → Nat → Nat → Nat → Int32 → mI → mR → Option (mI)
  | 0, _, _, _, _, _, _ => none
  | n + 1, x0, x1, x2, x3, I, R =>
  (if (I x0 2) ≤ x3 then (some I) else (if inb x3 (lnC (R x2 0)) = true then (bd1 (f_X8_addLetter (R x0 0) (I (R x2 0) x3.toNatClampNeg) I R) (fun I13 => (f_X9_build_L42 n x0 x1 x2 (x3 + (1 : Int32)) I13 R))) else none))

def f_X9_build_L71 : Nat → Nat → Nat → Nat → Int32 → mI → mR → Option (mI)
  | 0, _, _, _, _, _, _ => none
  | n + 1, x0, x1, x2, x3, I, R =>
  (if (I (R x1 1) 2) ≤ x3 then (some I) else (if inb x3 (lnC (R (R x1 1) 0)) = true then (bd1 (f_X10_isUnknown (I (R (R x1 1) 0) x3.toNatClampNeg) ) (fun r19 => (bnd (fun (I_20 : mI) => (f_X9_build_L71 n x0 x1 x2 (x3 + (1 : Int32)) I_20 R)) (fun j131_20 => (if r19 = 0 then (bd1 (f_X8_addLetter (R x0 0) (I (R (R x1 1) 0) x3.toNatClampNeg) I R) (fun I23 => (j131_20 I23))) else (bd1 (f_X10_unknownBit (I (R (R x1 1) 0) x3.toNatClampNeg) ) (fun r26 => (if inb r26 (lnC (R x0 1)) = true then (bd1 (f_X8_addPart (R x0 0) x2 (I (R x0 1) r26.toNatClampNeg) I R) (fun I28 => (j131_20 I28))) else none)))))))) else none))

def f_X9_build_L147 : Nat → Nat → Nat → Int32 → mI → mR → Option (mI)
  | 0, _, _, _, _, _ => none
  | n + 1, x0, x2, x3, I, R =>
  (if (I x2 2) ≤ x3 then (some I) else (if inb x3 (lnC (R x2 0)) = true then (bd1 (f_X8_addLetter (R x0 0) (I (R x2 0) x3.toNatClampNeg) I R) (fun I36 => (f_X9_build_L147 n x0 x2 (x3 + (1 : Int32)) I36 R))) else none))

def f_X9_build (x0 : Nat) (x1 : Nat) (x2 : Nat) (I : mI) (R : mR) : Option (Int32 × mI) :=
  (bd2 (f_X9_fits x0 (R x1 0) x2 (I x0 2) I R) (fun r2 I2 => (if r2 = 0 then (some ((0 : Int32), I2)) else (bd1 (f_X9_sizeBehind x0 (R x1 1) x2 I2 R) (fun r5 => (if r5 ≤ (60 : Int32) then (bnd (u2 I2 (R x0 0) 2 (0 : Int32)) (fun I8 => (bd1 (f_X9_build_L42 FU x0 x1 x2 (0 : Int32) I8 R) (fun I_14 => (bd1 (f_X9_build_L71 FU x0 x1 x2 (0 : Int32) I_14 R) (fun I_29 => (if inb (I_29 x0 2) (lnC (R x2 1)) = true then (bd1 (f_X9_build_L147 FU x0 x2 (I_29 (R x2 1) ((I_29 x0 2)).toNatClampNeg) I_29 R) (fun I_37 => (bd1 (f_X8_findEnds (R x0 0) I_37 R) (fun I38 => (some ((1 : Int32), I38)))))) else none))))))) else (some ((0 : Int32), I2))))))))

def f_X9_turnMany_L3 : Nat → Nat → Nat → Nat → Int32 → Int32 → mI → mR → Option ((Int32 × mI) ⊕ (mI))
  | 0, _, _, _, _, _, _, _ => none
  | n + 1, x0, x1, x2, x3, x4, I, R =>
  (if x3 ≤ x4 then (some (Sum.inr I)) else (bd2 (f_X9_seek x0 x1 x2 I R) (fun r2 I2 => (if r2 = 0 then (some (Sum.inl (x4, I2))) else (if inb (I2 x0 3) (lnC (R x1 0)) = true then (bd2 (f_X9_build x0 (R (R x1 0) ((I2 x0 3)).toNatClampNeg) x2 I2 R) (fun r7 I7 => (if r7 = 0 then (some (Sum.inl (x4, I7))) else (bd1 (f_X8_copyFrom x2 (R x0 0) I7 R) (fun I10 => (f_X9_turnMany_L3 n x0 x1 x2 x3 (x4 + (1 : Int32)) I10 R)))))) else none)))))

def f_X9_turnMany (x0 : Nat) (x1 : Nat) (x2 : Nat) (x3 : Int32) (I : mI) (R : mR) : Option (Int32 × mI) :=
  (bdS (f_X9_turnMany_L3 FU x0 x1 x2 x3 (0 : Int32) I R) (un2 (fun r_11 I_11 => some (r_11, I_11))) (un1 (fun I_11 => (some (x3, I_11)))))

def f_X10_turns (x0 : Nat) (x1 : Int32) (I : mI) (R : mR) : Option (Int32 × mI × mR) :=
  (bnd ((bd2 (f_X10_refuseBad x0 I) (fun r2 I2 => (some (r2, I2, R))))) (fun j10_1 => (if x1 < 0 then j10_1 else (if x1 ≤ (30 : Int32) then (bd2 (f_X1_keep (R x0 1) (R x0 0) I R) (fun I7 R7 => (bd2 (f_X9_turnMany (R7 x0 6) (R7 x0 0) (R7 (R7 x0 0) 1) x1 I7 R7) (fun r11 I11 => (some (r11, I11, R7)))))) else j10_1))))

def f_X10_settles (x0 : Nat) (I : mI) (R : mR) : Option (Int32 × mI) :=
  (bd1 (f_X8_copyFrom (R x0 7) (R (R x0 0) 1) I R) (fun I4 => (bd2 (f_X9_turnMany (R x0 6) (R x0 0) (R x0 7) (30 : Int32) I4 R) (fun r6 I6 => (bd2 (f_X9_seek (R x0 6) (R x0 0) (R x0 7) I6 R) (fun r7 I7 => (if r7 = 0 then (some (r6, I7)) else (some ((-1 : Int32), I7)))))))))

def f_X10_next (x0 : Nat) (x1 : Int32) (I : mI) (R : mR) : Option (Int32 × mI) :=
  (bnd ((bd2 (f_X10_refuseBad x0 I) (fun r2 I2 => (some (r2, I2))))) (fun j9_1 => (if x1 < 0 then j9_1 else (if x1 ≤ (1 : Int32) then (bd2 (f_X9_seek (R x0 6) (R x0 0) (R (R x0 0) 1) I R) (fun r8 I8 => (if r8 = 0 then (some ((-1 : Int32), I8)) else (if x1 = 0 then (some ((I8 (R x0 6) 3), I8)) else (some ((I8 (R x0 6) 2), I8)))))) else j9_1))))

def f_X10_letter (x0 : Nat) (x1 : Int32) (I : mI) (R : mR) : Option (Int32 × mI) :=
  (if (-1 : Int32) ≤ x1 then (if x1 = (-1 : Int32) then (some ((I (R (R x0 0) 1) 2), I)) else (if (I (R (R x0 0) 1) 2) ≤ x1 then (some ((-5 : Int32), I)) else (if inb x1 (lnC (R (R (R x0 0) 1) 0)) = true then (some ((I (R (R (R x0 0) 1) 0) x1.toNatClampNeg), I)) else none))) else (bd2 (f_X10_refuseBad x0 I) (fun r10 I10 => (some (r10, I10)))))

def f_X1_giveBack (x0 : Nat) (x1 : Nat) (I : mI) (R : mR) : Option (mI) :=
  (bnd (u2 I x0 1 ((I x0 1) - (1 : Int32))) (fun I1 => (if inb (I1 x0 1) (lnC (R x0 0)) = true then (bd1 (f_X7_copyFrom x1 (R (R x0 0) ((I1 x0 1)).toNatClampNeg) I1 R) (fun I5 => (some I5))) else none)))

def f_X10_back (x0 : Nat) (I : mI) (R : mR) : Option (Int32 × mI) :=
  (if (I (R x0 1) 1) = 0 then (bnd (u2 I x0 13 ((I x0 13) + (1 : Int32))) (fun I6 => (some ((-3 : Int32), I6)))) else (bd1 (f_X1_giveBack (R x0 1) (R x0 0) I R) (fun I4 => (bd1 (f_X10_forgetFindings x0 I4) (fun I5 => (some ((I5 (R x0 1) 1), I5)))))))

def f_X10_told (x0 : Nat) (x1 : Int32) (I : mI) (R : mR) : Option (Int32 × mI) :=
  (if x1 = (0 : Int32) then (some ((I x0 12), I)) else (if x1 = (1 : Int32) then (some ((I x0 13), I)) else (if x1 = (2 : Int32) then (some ((I x0 14), I)) else (if x1 = (3 : Int32) then (some ((I (R x0 2) 2), I)) else (if x1 = (4 : Int32) then (some ((I (R x0 0) 2), I)) else (if x1 = (5 : Int32) then (some ((I (R (R x0 0) 1) 2), I)) else (if x1 = (6 : Int32) then (some ((I (R x0 1) 1), I)) else (bd2 (f_X10_refuseBad x0 I) (fun r13 I13 => (some (r13, I13)))))))))))

def f_X10_digest_L6 : Nat → Nat → Int64 → Int32 → mI → mL → mR → Option (Int64 × mI)
  | 0, _, _, _, _, _, _ => none
  | n + 1, x0, x1, x3, I, L, R =>
  (if (6 : Int32) < x3 then (some (x1, I)) else (bd2 (f_X10_told x0 x3 I R) (fun r2 I2 => (f_X10_digest_L6 n x0 (((31 : Int64) * x1) + ((r2).toInt64)) (x3 + (1 : Int32)) I2 L R))))

def f_X10_digest_L47 : Nat → Nat → Int64 → Int32 → Int32 → mI → mL → mR → Option (Int64 × mI × mL)
  | 0, _, _, _, _, _, _, _ => none
  | n + 1, x0, x1, x3, x4, I, L, R =>
  (if (5 : Int32) < x4 then (some (x1, I, L)) else (bd3 (f_X10_of x0 x3 x4 I L R) (fun r7 I7 L7 => (f_X10_digest_L47 n x0 (((31 : Int64) * x1) + ((r7).toInt64)) x3 (x4 + (1 : Int32)) I7 L7 R))))

def f_X10_digest_L33 : Nat → Nat → Int64 → Int32 → mI → mL → mR → Option (Int64 × mI × mL)
  | 0, _, _, _, _, _, _ => none
  | n + 1, x0, x1, x3, I, L, R =>
  (if (I (R x0 0) 2) ≤ x3 then (some (x1, I, L)) else (bd3 (f_X10_digest_L47 FU x0 x1 x3 (0 : Int32) I L R) (fun y1_8 I_8 L_8 => (bd2 (f_X10_weighs x0 (1111111 : Int32) x3 I_8 R) (fun r9 I9 => (f_X10_digest_L33 n x0 (((31 : Int64) * y1_8) + ((r9).toInt64)) (x3 + (1 : Int32)) I9 L_8 R))))))

def f_X10_digest_L97 : Nat → Nat → Int64 → Int32 → mI → mL → mR → Option (Int64)
  | 0, _, _, _, _, _, _ => none
  | n + 1, x0, x1, x3, I, L, R =>
  (if (I (R (R x0 0) 1) 2) ≤ x3 then (some x1) else (if inb x3 (lnC (R (R (R x0 0) 1) 0)) = true then (f_X10_digest_L97 n x0 (((31 : Int64) * x1) + (((I (R (R (R x0 0) 1) 0) x3.toNatClampNeg)).toInt64)) (x3 + (1 : Int32)) I L R) else none))

def f_X10_digest_L151 : Nat → Nat → Int64 → Int32 → mI → mL → mR → Option (Int64 × mI × mL)
  | 0, _, _, _, _, _, _ => none
  | n + 1, x0, x1, x3, I, L, R =>
  (if (2 : Int32) < x3 then (some (x1, I, L)) else (bd3 (f_X10_calls x0 x3 I L R) (fun r19 I19 L19 => (f_X10_digest_L151 n x0 (((31 : Int64) * x1) + ((r19).toInt64)) (x3 + (1 : Int32)) I19 L19 R))))

def f_X10_digest_L191 : Nat → Nat → Int64 → Int32 → Int32 → mI → mL → mR → Option (Int64 × mI × mL)
  | 0, _, _, _, _, _, _, _ => none
  | n + 1, x0, x1, x3, x4, I, L, R =>
  (if (3 : Int32) < x4 then (some (x1, I, L)) else (bd3 (f_X10_call x0 x3 x4 I L R) (fun r24 I24 L24 => (f_X10_digest_L191 n x0 (((31 : Int64) * x1) + ((r24).toInt64)) x3 (x4 + (1 : Int32)) I24 L24 R))))

def f_X10_digest_L177 : Nat → Nat → Int64 → Int32 → mI → mL → mR → Option (Int64 × mI × mL)
  | 0, _, _, _, _, _, _ => none
  | n + 1, x0, x1, x3, I, L, R =>
  (if (I (R x0 4) 8) ≤ x3 then (some (x1, I, L)) else (bd3 (f_X10_digest_L191 FU x0 x1 x3 (0 : Int32) I L R) (fun y1_25 I_25 L_25 => (f_X10_digest_L177 n x0 y1_25 (x3 + (1 : Int32)) I_25 L_25 R))))

def f_X10_digest (x0 : Nat) (I : mI) (L : mL) (R : mR) : Option (Int64 × mI × mL) :=
  (bd2 (f_X10_digest_L6 FU x0 (2609 : Int64) (0 : Int32) I L R) (fun y1_3 I_3 => (bd3 (f_X10_digest_L33 FU x0 y1_3 (0 : Int32) I_3 L R) (fun y1_10 I_10 L_10 => (bd1 (f_X10_digest_L97 FU x0 y1_10 (0 : Int32) I_10 L_10 R) (fun y1_16 => (bd2 (f_X10_fall x0 I_10 R) (fun r17 I17 => (bd3 (f_X10_digest_L151 FU x0 (((31 : Int64) * y1_16) + ((r17).toInt64)) (0 : Int32) I17 L_10 R) (fun y1_20 I_20 L_20 => (bd3 (f_X10_digest_L177 FU x0 y1_20 (0 : Int32) I_20 L_20 R) (fun y1_26 I_26 L_26 => (bd2 (f_X10_settles x0 I_26 R) (fun r27 I27 => (bd2 (f_X10_next x0 (0 : Int32) I27 R) (fun r28 I28 => (bd2 (f_X10_next x0 (1 : Int32) I28 R) (fun r29 I29 => (some ((((31 : Int64) * (((31 : Int64) * (((31 : Int64) * y1_26) + ((r27).toInt64))) + ((r28).toInt64))) + ((r29).toInt64)), I29, L_26))))))))))))))))))))

def f_X11_in (x0 : Int32) (x1 : Int32) (x2 : Int32)  : Option (Int32) :=
  (bnd ((some (0 : Int32))) (fun j14_1 => (if x0 < x1 then j14_1 else (if x2 < x0 then j14_1 else (some (1 : Int32))))))

def f_X11_refuses (x0 : Nat) (x1 : Int32) (I : mI) (R : mR) : Option (Int32 × mI) :=
  (if inb ((-2 : Int32) - x1) (lnM (R x0 4)) = true then (bnd (u2 I (R x0 4) (((-2 : Int32) - x1)).toNatClampNeg ((I (R x0 4) (((-2 : Int32) - x1)).toNatClampNeg) + (1 : Int32))) (fun I3 => (some (x1, I3)))) else none)

def f_X11_copies_L3 : Nat → Nat → Int32 → Nat → Int32 → Int32 → mI → Option (mI)
  | 0, _, _, _, _, _, _ => none
  | n + 1, x0, x1, x2, x3, x4, I =>
  (if (192 : Int32) ≤ x4 then (some I) else (if inb (x1 + x4) (lnM x0) = true then (if inb (x3 + x4) (lnM x2) = true then (bnd (u2 I x2 ((x3 + x4)).toNatClampNeg (I x0 ((x1 + x4)).toNatClampNeg)) (fun I4 => (f_X11_copies_L3 n x0 x1 x2 x3 (x4 + (1 : Int32)) I4))) else none) else none))

def f_X11_copies (x0 : Nat) (x1 : Int32) (x2 : Nat) (x3 : Int32) (I : mI) : Option (mI) :=
  (bd1 (f_X11_copies_L3 FU x0 x1 x2 x3 (0 : Int32) I) (fun I_5 => (some I_5)))

def f_X11_remembers_L10 : Nat → Nat → Int32 → mI → mR → Option (mI)
  | 0, _, _, _, _ => none
  | n + 1, x0, x1, I, R =>
  (if (768 : Int32) ≤ x1 then (some I) else (if inb (x1 + (192 : Int32)) (lnM (R x0 2)) = true then (if inb x1 (lnM (R x0 2)) = true then (bnd (u2 I (R x0 2) x1.toNatClampNeg (I (R x0 2) ((x1 + (192 : Int32))).toNatClampNeg)) (fun I11 => (f_X11_remembers_L10 n x0 (x1 + (1 : Int32)) I11 R))) else none) else none))

def f_X11_remembers (x0 : Nat) (I : mI) (R : mR) : Option (mI) :=
  (bnd (fun (I_1 : mI) => (bd1 (f_X11_copies (R x0 0) (0 : Int32) (R x0 2) ((192 : Int32) * (I_1 x0 3)) I_1) (fun I4 => (bnd (u2 I4 x0 3 ((I4 x0 3) + (1 : Int32))) (fun I5 => (some I5)))))) (fun j49_1 => (if (I x0 3) = (5 : Int32) then (bd1 (f_X11_remembers_L10 FU x0 (0 : Int32) I R) (fun I_12 => (bnd (u2 I_12 x0 3 ((I_12 x0 3) - (1 : Int32))) (fun I13 => (j49_1 I13))))) else (j49_1 I))))

def f_X11_back (x0 : Nat) (I : mI) (R : mR) : Option (Int32 × mI) :=
  (if (I x0 3) = 0 then (bd2 (f_X11_refuses x0 (-3 : Int32) I R) (fun r6 I6 => (some (r6, I6)))) else (bnd (u2 I x0 3 ((I x0 3) - (1 : Int32))) (fun I2 => (bd1 (f_X11_copies (R x0 2) ((192 : Int32) * (I2 x0 3)) (R x0 0) (0 : Int32) I2) (fun I5 => (some ((I5 x0 3), I5)))))))

def f_X11_wants (x0 : Int32)  : Option (Int32) :=
  (if x0 = (102 : Int32) then (some (1 : Int32)) else (if x0 = (103 : Int32) then (some (2 : Int32)) else (some (0 : Int32))))

def f_X11_isUnknown (x0 : Int32)  : Option (Int32) :=
  (bnd ((some (1 : Int32))) (fun j12_1 => (if x0 = (120 : Int32) then j12_1 else (if x0 = (121 : Int32) then j12_1 else (some (0 : Int32))))))

def f_X11_longAt_L4 : Nat → Nat → Int32 → Int32 → Int32 → mI → Option (Int32)
  | 0, _, _, _, _, _ => none
  | n + 1, x0, x1, x2, x3, I =>
  (if x2 ≤ 0 then (some x3) else (if inb (x1 + x3) (lnM x0) = true then (bd1 (f_X11_wants (I x0 ((x1 + x3)).toNatClampNeg) ) (fun r3 => (f_X11_longAt_L4 n x0 x1 (x2 + (r3 - (1 : Int32))) (x3 + (1 : Int32)) I))) else none))

def f_X11_longAt (x0 : Nat) (x1 : Int32) (I : mI) : Option (Int32) :=
  (bd1 (f_X11_longAt_L4 FU x0 x1 (1 : Int32) (0 : Int32) I) (fun y3_4 => (some y3_4)))

def f_X11_leftOf (x0 : Int32)  : Option (Int32) :=
  (some (((1 : Int32) + ((26 : Int32) * x0)) + (2 : Int32)))

def f_X11_rightOf (x0 : Int32)  : Option (Int32) :=
  (some (((1 : Int32) + ((26 : Int32) * x0)) + (14 : Int32)))

def f_X11_leftLong (x0 : Nat) (x1 : Int32) (I : mI) : Option (Int32) :=
  (if inb ((1 : Int32) + ((26 : Int32) * x1)) (lnM x0) = true then (some (I x0 (((1 : Int32) + ((26 : Int32) * x1))).toNatClampNeg)) else none)

def f_X11_rightLong (x0 : Nat) (x1 : Int32) (I : mI) : Option (Int32) :=
  (if inb (((1 : Int32) + ((26 : Int32) * x1)) + (1 : Int32)) (lnM x0) = true then (some (I x0 ((((1 : Int32) + ((26 : Int32) * x1)) + (1 : Int32))).toNatClampNeg)) else none)

def f_X11_unknowns_L5 : Nat → Nat → Int32 → Int32 → Int32 → Int32 → mI → Option (Int32)
  | 0, _, _, _, _, _, _ => none
  | n + 1, x0, x1, x2, x3, x4, I =>
  (if x2 ≤ x4 then (some x3) else (if inb (x1 + x4) (lnM x0) = true then (bnd (fun (w1_3 : Int32) => (f_X11_unknowns_L5 n x0 x1 x2 (x3 ||| w1_3) (x4 + (1 : Int32)) I)) (fun j43_3 => (if (I x0 ((x1 + x4)).toNatClampNeg) = (120 : Int32) then (j43_3 (1 : Int32)) else (if (I x0 ((x1 + x4)).toNatClampNeg) = (121 : Int32) then (j43_3 (2 : Int32)) else (j43_3 (0 : Int32)))))) else none))

def f_X11_unknowns (x0 : Nat) (x1 : Int32) (x2 : Int32) (I : mI) : Option (Int32) :=
  (bd1 (f_X11_unknowns_L5 FU x0 x1 x2 (0 : Int32) (0 : Int32) I) (fun y3_6 => (some y3_6)))

def f_X11_wantsMore (x0 : Nat) (x1 : Int32) (I : mI) (R : mR) : Option (mI) :=
  (if inb (I x0 9) (lnM (R x0 8)) = true then (bnd (u2 I (R x0 8) ((I x0 9)).toNatClampNeg x1) (fun I3 => (bnd (u2 I3 x0 9 ((I3 x0 9) + (1 : Int32))) (fun I4 => (some I4))))) else none)

def f_X11_blanks_L0 : Nat → Nat → mI → mR → Option (mI)
  | 0, _, _, _ => none
  | n + 1, x0, I, R =>
  (if (I x0 6) ≤ (I x0 7) then (some I) else (if inb (I x0 7) (lnM (R x0 5)) = true then (if (I (R x0 5) ((I x0 7)).toNatClampNeg) = (32 : Int32) then (bnd (u2 I x0 7 ((I x0 7) + (1 : Int32))) (fun I5 => (f_X11_blanks_L0 n x0 I5 R))) else (some I)) else none))

def f_X11_blanks (x0 : Nat) (I : mI) (R : mR) : Option (mI) :=
  (bd1 (f_X11_blanks_L0 FU x0 I R) (fun I_6 => (some I_6)))

def f_X11_isLetter (x0 : Int32)  : Option (Int32) :=
  (bd1 (f_X11_in x0 (97 : Int32) (98 : Int32) ) (fun r1 => (bnd ((some (1 : Int32))) (fun j29_2 => (if r1 = 0 then (bd1 (f_X11_in x0 (102 : Int32) (103 : Int32) ) (fun r4 => (if r4 = 0 then (bd1 (f_X11_isUnknown x0 ) (fun r6 => (if r6 = 0 then (some (0 : Int32)) else j29_2))) else j29_2))) else j29_2)))))

def f_X11_opens (x0 : Nat) (x1 : Int32) (I : mI) (R : mR) : Option (mI) :=
  (bd1 (f_X11_wants x1 ) (fun r1 => (if r1 ≤ 0 then (some I) else (bd1 (f_X11_wantsMore x0 (41 : Int32) I R) (fun I3 => (bd1 (f_X11_wantsMore x0 (84 : Int32) I3 R) (fun I4 => (bd1 (f_X11_wants x1 ) (fun r5 => (bnd (fun (I_6 : mI) => (bd1 (f_X11_wantsMore x0 (40 : Int32) I_6 R) (fun I7 => (some I7)))) (fun j39_6 => (if r5 ≤ (1 : Int32) then (j39_6 I4) else (bd1 (f_X11_wantsMore x0 (44 : Int32) I4 R) (fun I9 => (bd1 (f_X11_wantsMore x0 (84 : Int32) I9 R) (fun I10 => (j39_6 I10)))))))))))))))))

def f_X11_takesTerm_L14 : Nat → Nat → Int32 → Int32 → Int32 → Int32 → mI → mR → Option ((Int32 × mI) ⊕ (Int32 × mI))
  | 0, _, _, _, _, _, _, _ => none
  | n + 1, x0, x1, x2, x3, x4, I, R =>
  (if (I x0 9) ≤ 0 then (some (Sum.inr (x4, I))) else (bd1 (f_X11_blanks x0 I R) (fun I4 => (if (I4 x0 7) = (I4 x0 6) then (some (Sum.inl ((-1 : Int32), I4))) else (if inb (I4 x0 7) (lnM (R x0 5)) = true then (bnd (u2 I4 x0 9 ((I4 x0 9) - (1 : Int32))) (fun I8 => (if inb (I8 x0 9) (lnM (R x0 8)) = true then (bnd (fun (v4_11 : Int32) (I_11 : mI) => (bnd (u2 I_11 x0 7 ((I_11 x0 7) + (1 : Int32))) (fun I12 => (f_X11_takesTerm_L14 n x0 x1 x2 x3 v4_11 I12 R)))) (fun j161_11 => (if (I8 (R x0 8) ((I8 x0 9)).toNatClampNeg) = (84 : Int32) then (bd1 (f_X11_isUnknown (I4 (R x0 5) ((I4 x0 7)).toNatClampNeg) ) (fun r15 => (bnd (fun (w0_16 : Int32) => (bd1 (f_X11_isLetter (I4 (R x0 5) ((I4 x0 7)).toNatClampNeg) ) (fun r17 => (if r17 = 0 then (some (Sum.inl ((-1 : Int32), I8))) else (if x4 = x2 then (some (Sum.inl ((-1 : Int32), I8))) else (if w0_16 = 0 then (some (Sum.inl ((-1 : Int32), I8))) else (if inb (x1 + x4) (lnM (R x0 1)) = true then (bnd (u2 I8 (R x0 1) ((x1 + x4)).toNatClampNeg (I4 (R x0 5) ((I4 x0 7)).toNatClampNeg)) (fun I23 => (bd1 (f_X11_opens x0 (I4 (R x0 5) ((I4 x0 7)).toNatClampNeg) I23 R) (fun I24 => (j161_11 (x4 + (1 : Int32)) I24))))) else none))))))) (fun j99_16 => (bnd ((j99_16 (1 : Int32))) (fun j94_25 => (if r15 = 0 then j94_25 else (if ((x3 >>> (((I4 (R x0 5) ((I4 x0 7)).toNatClampNeg) - (120 : Int32)) &&& 31)) &&& (1 : Int32)) = (1 : Int32) then j94_25 else (j99_16 (0 : Int32)))))))))) else (if (I4 (R x0 5) ((I4 x0 7)).toNatClampNeg) = (I8 (R x0 8) ((I8 x0 9)).toNatClampNeg) then (j161_11 x4 I8) else (some (Sum.inl ((-1 : Int32), I8))))))) else none))) else none)))))

def f_X11_takesTerm (x0 : Nat) (x1 : Int32) (x2 : Int32) (x3 : Int32) (I : mI) (R : mR) : Option (Int32 × mI) :=
  (bnd (u2 I x0 9 (0 : Int32)) (fun I1 => (bd1 (f_X11_wantsMore x0 (84 : Int32) I1 R) (fun I2 => (bdS (f_X11_takesTerm_L14 FU x0 x1 x2 x3 (0 : Int32) I2 R) (un2 (fun r_28 I_28 => some (r_28, I_28))) (un2 (fun y4_28 I_28 => (bd1 (f_X11_blanks x0 I_28 R) (fun I29 => (some (y4_28, I29)))))))))))

def f_X11_takesSign (x0 : Nat) (x1 : Int32) (I : mI) (R : mR) : Option (Int32 × mI) :=
  (bnd (fun (w0_1 : Int32) => (bnd (fun (w2_2 : Int32) => (bnd (u2 I x0 7 ((I x0 7) + w2_2)) (fun I3 => (if zb w0_1 = true then (some (w0_1, I3)) else none)))) (fun j44_2 => (if w0_1 = 0 then (j44_2 (0 : Int32)) else (j44_2 (1 : Int32)))))) (fun j29_1 => (bnd ((j29_1 (0 : Int32))) (fun j28_6 => (if (I x0 6) ≤ (I x0 7) then j28_6 else (if inb (I x0 7) (lnM (R x0 5)) = true then (if (I (R x0 5) ((I x0 7)).toNatClampNeg) = x1 then (j29_1 (1 : Int32)) else j28_6) else none))))))

def f_X11_takesRule (x0 : Nat) (I : mI) (R : mR) : Option (Int32 × mI) :=
  (if inb (0 : Int32) (lnM (R x0 1)) = true then (if (I (R x0 1) ((0 : Int32)).toNatClampNeg) = (5 : Int32) then (some ((0 : Int32), I)) else (bnd ((bd1 (f_X11_leftOf (I (R x0 1) ((0 : Int32)).toNatClampNeg) ) (fun r5 => (bd2 (f_X11_takesTerm x0 r5 (12 : Int32) (3 : Int32) I R) (fun r6 I6 => (if r6 = (-1 : Int32) then (some ((0 : Int32), I6)) else (bd2 (f_X11_takesSign x0 (62 : Int32) I6 R) (fun r8 I8 => (if r8 = 0 then (some ((0 : Int32), I8)) else (bd1 (f_X11_rightOf (I (R x0 1) ((0 : Int32)).toNatClampNeg) ) (fun r10 => (bd1 (f_X11_leftOf (I (R x0 1) ((0 : Int32)).toNatClampNeg) ) (fun r11 => (bd1 (f_X11_unknowns (R x0 1) r11 r6 I8) (fun r12 => (bd2 (f_X11_takesTerm x0 r10 (12 : Int32) r12 I8 R) (fun r13 I13 => (if r13 = (-1 : Int32) then (some ((0 : Int32), I13)) else (bd2 (f_X11_takesSign x0 (59 : Int32) I13 R) (fun r15 I15 => (if r15 = 0 then (some ((0 : Int32), I15)) else (if inb ((1 : Int32) + ((26 : Int32) * (I (R x0 1) ((0 : Int32)).toNatClampNeg))) (lnM (R x0 1)) = true then (bnd (u2 I15 (R x0 1) (((1 : Int32) + ((26 : Int32) * (I (R x0 1) ((0 : Int32)).toNatClampNeg)))).toNatClampNeg r6) (fun I18 => (if inb (((1 : Int32) + ((26 : Int32) * (I (R x0 1) ((0 : Int32)).toNatClampNeg))) + (1 : Int32)) (lnM (R x0 1)) = true then (bnd (u2 I18 (R x0 1) ((((1 : Int32) + ((26 : Int32) * (I (R x0 1) ((0 : Int32)).toNatClampNeg))) + (1 : Int32))).toNatClampNeg r13) (fun I20 => (bnd (u2 I20 (R x0 1) ((0 : Int32)).toNatClampNeg ((I20 (R x0 1) ((0 : Int32)).toNatClampNeg) + (1 : Int32))) (fun I21 => (bd1 (f_X11_blanks x0 I21 R) (fun I22 => (some ((1 : Int32), I22)))))))) else none))) else none)))))))))))))))))))))) (fun j40_4 => (if (I x0 6) ≤ (I x0 7) then j40_4 else (if inb (I x0 7) (lnM (R x0 5)) = true then (bd1 (f_X11_isUnknown (I (R x0 5) ((I x0 7)).toNatClampNeg) ) (fun r26 => (if r26 = 0 then j40_4 else (some ((0 : Int32), I))))) else none))))) else none)

def f_X11_readsRules_L39 : Nat → Nat → Int32 → mI → mR → Option (Int32 × mI)
  | 0, _, _, _, _ => none
  | n + 1, x0, x1, I, R =>
  (if x1 = 0 then (some (x1, I)) else (if (I x0 6) ≤ (I x0 7) then (some (x1, I)) else (bd2 (f_X11_takesRule x0 I R) (fun r9 I9 => (f_X11_readsRules_L39 n x0 r9 I9 R)))))

def f_X11_readsRules (x0 : Nat) (I : mI) (R : mR) : Option (Int32 × mI) :=
  (bd1 (f_X11_copies (R x0 0) (0 : Int32) (R x0 1) (0 : Int32) I) (fun I3 => (bnd (u2 I3 x0 7 (0 : Int32)) (fun I4 => (bd1 (f_X11_blanks x0 I4 R) (fun I5 => (bnd (fun (w0_6 : Int32) => (bd2 (f_X11_readsRules_L39 FU x0 w0_6 I5 R) (fun y1_10 I_10 => (if y1_10 = 0 then (some ((I_10 x0 7), I_10)) else (some ((-1 : Int32), I_10)))))) (fun j38_6 => (if (I5 x0 6) ≤ (I5 x0 7) then (j38_6 (0 : Int32)) else (j38_6 (1 : Int32)))))))))))

def f_X11_readsTerm (x0 : Nat) (I : mI) (R : mR) : Option (Int32 × mI) :=
  (bd1 (f_X11_copies (R x0 0) (0 : Int32) (R x0 1) (0 : Int32) I) (fun I3 => (bnd (u2 I3 x0 7 (0 : Int32)) (fun I4 => (bd2 (f_X11_takesTerm x0 (132 : Int32) (60 : Int32) (3 : Int32) I4 R) (fun r5 I5 => (if inb (131 : Int32) (lnM (R x0 1)) = true then (bnd (u2 I5 (R x0 1) ((131 : Int32)).toNatClampNeg r5) (fun I7 => (bnd ((some ((I7 x0 7), I7))) (fun j54_8 => (if r5 = (-1 : Int32) then j54_8 else (if (I7 x0 6) ≤ (I7 x0 7) then (some ((-1 : Int32), I7)) else j54_8)))))) else none)))))))

def f_X11_type (x0 : Nat) (x1 : Int32) (I : mI) (R : mR) : Option (Int32 × mI) :=
  (bd1 (f_X11_in x1 (0 : Int32) (127 : Int32) ) (fun r1 => (if r1 = 0 then (bd2 (f_X11_refuses x0 (-2 : Int32) I R) (fun r9 I9 => (some (r9, I9)))) else (if (I x0 6) = (120 : Int32) then (bd2 (f_X11_refuses x0 (-4 : Int32) I R) (fun r8 I8 => (some (r8, I8)))) else (if inb (I x0 6) (lnM (R x0 5)) = true then (bnd (u2 I (R x0 5) ((I x0 6)).toNatClampNeg x1) (fun I6 => (bnd (u2 I6 x0 6 ((I6 x0 6) + (1 : Int32))) (fun I7 => (some ((I7 x0 6), I7)))))) else none)))))

def f_X11_clear (x0 : Nat) (I : mI) : Option (Int32 × mI) :=
  (bnd (u2 I x0 6 (0 : Int32)) (fun I1 => (some ((I x0 6), I1))))

def f_X11_reads (x0 : Nat) (I : mI) (R : mR) : Option (Int32 × mI) :=
  (bd2 (f_X11_readsRules x0 I R) (fun r1 I1 => (if r1 = (-1 : Int32) then (bd1 (f_X11_remembers x0 I1 R) (fun I3 => (bd1 (f_X11_copies (R x0 1) (0 : Int32) (R x0 0) (0 : Int32) I3) (fun I6 => (if inb (0 : Int32) (lnM (R x0 0)) = true then (some ((I6 (R x0 0) ((0 : Int32)).toNatClampNeg), I6)) else none))))) else (some (((-10 : Int32) - r1), I1)))))

def f_X11_term (x0 : Nat) (I : mI) (R : mR) : Option (Int32 × mI) :=
  (bd2 (f_X11_readsTerm x0 I R) (fun r1 I1 => (if r1 = (-1 : Int32) then (bd1 (f_X11_remembers x0 I1 R) (fun I3 => (bd1 (f_X11_copies (R x0 1) (0 : Int32) (R x0 0) (0 : Int32) I3) (fun I6 => (if inb (131 : Int32) (lnM (R x0 0)) = true then (some ((I6 (R x0 0) ((131 : Int32)).toNatClampNeg), I6)) else none))))) else (some (((-10 : Int32) - r1), I1)))))

def f_X11_isRule (x0 : Nat) (x1 : Int32) (I : mI) (R : mR) : Option (Int32) :=
  (if inb (0 : Int32) (lnM (R x0 0)) = true then (bd1 (f_X11_in x1 (0 : Int32) ((I (R x0 0) ((0 : Int32)).toNatClampNeg) - (1 : Int32)) ) (fun r3 => (if zb r3 = true then (some r3) else none))) else none)

def f_X11_movesRule_L2 : Nat → Nat → Int32 → Int32 → Int32 → mI → mR → Option (mI)
  | 0, _, _, _, _, _, _ => none
  | n + 1, x0, x1, x2, x3, I, R =>
  (if (26 : Int32) ≤ x3 then (some I) else (if inb (((1 : Int32) + ((26 : Int32) * x1)) + x3) (lnM (R x0 0)) = true then (if inb (((1 : Int32) + ((26 : Int32) * x2)) + x3) (lnM (R x0 0)) = true then (bnd (u2 I (R x0 0) ((((1 : Int32) + ((26 : Int32) * x2)) + x3)).toNatClampNeg (I (R x0 0) ((((1 : Int32) + ((26 : Int32) * x1)) + x3)).toNatClampNeg)) (fun I5 => (f_X11_movesRule_L2 n x0 x1 x2 (x3 + (1 : Int32)) I5 R))) else none) else none))

def f_X11_movesRule (x0 : Nat) (x1 : Int32) (x2 : Int32) (I : mI) (R : mR) : Option (mI) :=
  (bd1 (f_X11_movesRule_L2 FU x0 x1 x2 (0 : Int32) I R) (fun I_6 => (some I_6)))

def f_X11_drops_L21 : Nat → Nat → Int32 → mI → mR → Option (mI)
  | 0, _, _, _, _ => none
  | n + 1, x0, x2, I, R =>
  (if inb (0 : Int32) (lnM (R x0 0)) = true then (if ((I (R x0 0) ((0 : Int32)).toNatClampNeg) - (1 : Int32)) ≤ x2 then (some I) else (bd1 (f_X11_movesRule x0 (x2 + (1 : Int32)) x2 I R) (fun I7 => (f_X11_drops_L21 n x0 (x2 + (1 : Int32)) I7 R)))) else none)

def f_X11_drops (x0 : Nat) (x1 : Int32) (I : mI) (R : mR) : Option (Int32 × mI) :=
  (bd1 (f_X11_isRule x0 x1 I R) (fun r1 => (if r1 = 0 then (bd2 (f_X11_refuses x0 (-2 : Int32) I R) (fun r12 I12 => (some (r12, I12)))) else (bd1 (f_X11_remembers x0 I R) (fun I3 => (bd1 (f_X11_drops_L21 FU x0 x1 I3 R) (fun I_8 => (if inb (0 : Int32) (lnM (R x0 0)) = true then (bnd (u2 I_8 (R x0 0) ((0 : Int32)).toNatClampNeg ((I_8 (R x0 0) ((0 : Int32)).toNatClampNeg) - (1 : Int32))) (fun I11 => (some ((I11 (R x0 0) ((0 : Int32)).toNatClampNeg), I11)))) else none))))))))

def f_X11_first_L34 : Nat → Nat → Int32 → Int32 → mI → mR → Option (mI)
  | 0, _, _, _, _, _ => none
  | n + 1, x0, x1, x2, I, R =>
  (if x2 ≤ 0 then (some I) else (bd1 (f_X11_movesRule x0 (x2 - (1 : Int32)) x2 I R) (fun I8 => (f_X11_first_L34 n x0 x1 (x2 + (-1 : Int32)) I8 R))))

def f_X11_first_L54 : Nat → Nat → Int32 → Int32 → mI → mR → Option (mI)
  | 0, _, _, _, _, _ => none
  | n + 1, x0, x1, x2, I, R =>
  (if (26 : Int32) ≤ x2 then (some I) else (if inb (((1 : Int32) + ((26 : Int32) * x1)) + x2) (lnM (R x0 1)) = true then (if inb ((1 : Int32) + x2) (lnM (R x0 0)) = true then (bnd (u2 I (R x0 0) (((1 : Int32) + x2)).toNatClampNeg (I (R x0 1) ((((1 : Int32) + ((26 : Int32) * x1)) + x2)).toNatClampNeg)) (fun I15 => (f_X11_first_L54 n x0 x1 (x2 + (1 : Int32)) I15 R))) else none) else none))

def f_X11_first (x0 : Nat) (x1 : Int32) (I : mI) (R : mR) : Option (Int32 × mI) :=
  (bd1 (f_X11_isRule x0 x1 I R) (fun r1 => (if r1 = 0 then (bd2 (f_X11_refuses x0 (-2 : Int32) I R) (fun r17 I17 => (some (r17, I17)))) else (bd1 (f_X11_remembers x0 I R) (fun I3 => (bd1 (f_X11_copies (R x0 0) (0 : Int32) (R x0 1) (0 : Int32) I3) (fun I6 => (bd1 (f_X11_first_L34 FU x0 x1 x1 I6 R) (fun I_9 => (bd1 (f_X11_first_L54 FU x0 x1 (0 : Int32) I_9 R) (fun I_16 => (some (x1, I_16)))))))))))))

def f_X11_heads_L4 : Nat → Nat → Int32 → Int32 → mI → mR → Option (Int32)
  | 0, _, _, _, _, _ => none
  | n + 1, x0, x1, x2, I, R =>
  (if inb (0 : Int32) (lnM (R x0 0)) = true then (if (I (R x0 0) ((0 : Int32)).toNatClampNeg) ≤ x2 then (some x1) else (bd1 (f_X11_leftOf x2 ) (fun r4 => (if inb r4 (lnM (R x0 0)) = true then (f_X11_heads_L4 n x0 (x1 ||| ((1 : Int32) <<< (((I (R x0 0) r4.toNatClampNeg) - (97 : Int32)) &&& 31))) (x2 + (1 : Int32)) I R) else none)))) else none)

def f_X11_heads (x0 : Nat) (I : mI) (R : mR) : Option (Int32) :=
  (bd1 (f_X11_heads_L4 FU x0 (0 : Int32) (0 : Int32) I R) (fun y1_6 => (some y1_6)))

def f_X11_isHead (x0 : Nat) (x1 : Int32) (I : mI) (R : mR) : Option (Int32) :=
  (bd1 (f_X11_heads x0 I R) (fun r1 => (if ((r1 >>> ((x1 - (97 : Int32)) &&& 31)) &&& (1 : Int32)) = (1 : Int32) then (some (1 : Int32)) else (some (0 : Int32)))))

def f_X11_ruleTold_L109 : Nat → Nat → Int32 → Int32 → Int32 → mI → mR → Option (Int32)
  | 0, _, _, _, _, _, _ => none
  | n + 1, x0, x1, x3, x4, I, R =>
  (bd1 (f_X11_rightLong (R x0 0) x1 I) (fun r22 => (if r22 ≤ x4 then (some x3) else (bd1 (f_X11_rightOf x1 ) (fun r24 => (if inb (r24 + x4) (lnM (R x0 0)) = true then (bd1 (f_X11_isHead x0 (I (R x0 0) ((r24 + x4)).toNatClampNeg) I R) (fun r26 => (bnd (fun (w1_27 : Int32) => (f_X11_ruleTold_L109 n x0 x1 (x3 + w1_27) (x4 + (1 : Int32)) I R)) (fun j147_27 => (if r26 = 0 then (j147_27 (0 : Int32)) else (j147_27 (1 : Int32))))))) else none))))))

def f_X11_ruleTold (x0 : Nat) (x1 : Int32) (x2 : Int32) (I : mI) (R : mR) : Option (Int32) :=
  (if x2 = (0 : Int32) then (bd1 (f_X11_leftLong (R x0 0) x1 I) (fun r3 => (some r3))) else (if x2 = (1 : Int32) then (bd1 (f_X11_rightLong (R x0 0) x1 I) (fun r6 => (some r6))) else (if x2 = (2 : Int32) then (bd1 (f_X11_leftOf x1 ) (fun r9 => (if inb r9 (lnM (R x0 0)) = true then (some (I (R x0 0) r9.toNatClampNeg)) else none))) else (if x2 = (3 : Int32) then (bd1 (f_X11_leftOf x1 ) (fun r13 => (bd1 (f_X11_leftLong (R x0 0) x1 I) (fun r14 => (bd1 (f_X11_unknowns (R x0 0) r13 r14 I) (fun r15 => (some r15))))))) else (if x2 = (4 : Int32) then (bd1 (f_X11_rightOf x1 ) (fun r18 => (bd1 (f_X11_rightLong (R x0 0) x1 I) (fun r19 => (bd1 (f_X11_unknowns (R x0 0) r18 r19 I) (fun r20 => (some r20))))))) else (bd1 (f_X11_ruleTold_L109 FU x0 x1 (0 : Int32) (0 : Int32) I R) (fun y3_29 => (some y3_29))))))))

def f_X11_of (x0 : Nat) (x1 : Int32) (x2 : Int32) (I : mI) (R : mR) : Option (Int32 × mI) :=
  (bd1 (f_X11_isRule x0 x1 I R) (fun r1 => (bnd ((bd2 (f_X11_refuses x0 (-2 : Int32) I R) (fun r3 I3 => (some (r3, I3))))) (fun j26_2 => (if r1 = 0 then j26_2 else (bd1 (f_X11_in x2 (0 : Int32) (5 : Int32) ) (fun r5 => (if r5 = 0 then j26_2 else (bd1 (f_X11_ruleTold x0 x1 x2 I R) (fun r7 => (some (r7, I))))))))))))

def f_X11_writes (x0 : Nat) (x1 : Int32) (I : mI) (R : mR) : Option (mI) :=
  (if inb (I x0 11) (lnM (R x0 10)) = true then (bnd (u2 I (R x0 10) ((I x0 11)).toNatClampNeg x1) (fun I3 => (bnd (u2 I3 x0 11 ((I3 x0 11) + (1 : Int32))) (fun I4 => (some I4))))) else none)

def f_X11_writesTerm_L12 : Nat → Nat → Int32 → Int32 → Int32 → mI → mR → Option (mI)
  | 0, _, _, _, _, _, _ => none
  | n + 1, x0, x1, x2, x3, I, R =>
  (if (I x0 9) ≤ 0 then (some I) else (if inb ((I x0 9) - (1 : Int32)) (lnM (R x0 8)) = true then (if (I (R x0 8) (((I x0 9) - (1 : Int32))).toNatClampNeg) = (84 : Int32) then (some I) else (bnd (u2 I x0 9 ((I x0 9) - (1 : Int32))) (fun I7 => (if inb (I7 x0 9) (lnM (R x0 8)) = true then (bd1 (f_X11_writes x0 (I7 (R x0 8) ((I7 x0 9)).toNatClampNeg) I7 R) (fun I9 => (f_X11_writesTerm_L12 n x0 x1 x2 x3 I9 R))) else none)))) else none))

def f_X11_writesTerm_L7 : Nat → Nat → Int32 → Int32 → Int32 → mI → mR → Option (mI)
  | 0, _, _, _, _, _, _ => none
  | n + 1, x0, x1, x2, x3, I, R =>
  (if x2 ≤ x3 then (some I) else (bd1 (f_X11_writesTerm_L12 FU x0 x1 x2 x3 I R) (fun I_10 => (bnd (fun (w2_11 : Int32) => (bnd (u2 I_10 x0 9 ((I_10 x0 9) - w2_11)) (fun I12 => (if inb (x1 + x3) (lnM (R x0 0)) = true then (bd1 (f_X11_writes x0 (I12 (R x0 0) ((x1 + x3)).toNatClampNeg) I12 R) (fun I15 => (bd1 (f_X11_opens x0 (I15 (R x0 0) ((x1 + x3)).toNatClampNeg) I15 R) (fun I16 => (f_X11_writesTerm_L7 n x0 x1 x2 (x3 + (1 : Int32)) I16 R))))) else none)))) (fun j78_11 => (if (I_10 x0 9) ≤ 0 then (j78_11 (0 : Int32)) else (j78_11 (1 : Int32))))))))

def f_X11_writesTerm_L112 : Nat → Nat → mI → mR → Option (mI)
  | 0, _, _, _ => none
  | n + 1, x0, I, R =>
  (if (I x0 9) ≤ 0 then (some I) else (bnd (u2 I x0 9 ((I x0 9) - (1 : Int32))) (fun I20 => (if inb (I20 x0 9) (lnM (R x0 8)) = true then (bd1 (f_X11_writes x0 (I20 (R x0 8) ((I20 x0 9)).toNatClampNeg) I20 R) (fun I23 => (f_X11_writesTerm_L112 n x0 I23 R))) else none))))

def f_X11_writesTerm (x0 : Nat) (x1 : Int32) (x2 : Int32) (I : mI) (R : mR) : Option (mI) :=
  (bnd (u2 I x0 9 (0 : Int32)) (fun I1 => (bd1 (f_X11_writesTerm_L7 FU x0 x1 x2 (0 : Int32) I1 R) (fun I_18 => (bd1 (f_X11_writesTerm_L112 FU x0 I_18 R) (fun I_24 => (some I_24)))))))

def f_X11_shown (x0 : Nat) (x1 : Int32) (x2 : Int32) (I : mI) (R : mR) : Option (Int32 × mI) :=
  (bd1 (f_X11_isRule x0 x1 I R) (fun r1 => (bnd ((bd2 (f_X11_refuses x0 (-2 : Int32) I R) (fun r3 I3 => (some (r3, I3))))) (fun j13_2 => (if r1 = 0 then j13_2 else (if (-1 : Int32) ≤ x2 then (bnd (u2 I x0 11 (0 : Int32)) (fun I6 => (bd1 (f_X11_leftOf x1 ) (fun r7 => (bd1 (f_X11_leftLong (R x0 0) x1 I6) (fun r9 => (bd1 (f_X11_writesTerm x0 r7 r9 I6 R) (fun I10 => (bd1 (f_X11_writes x0 (62 : Int32) I10 R) (fun I11 => (bd1 (f_X11_rightOf x1 ) (fun r12 => (bd1 (f_X11_rightLong (R x0 0) x1 I11) (fun r13 => (bd1 (f_X11_writesTerm x0 r12 r13 I11 R) (fun I14 => (if x2 = (-1 : Int32) then (some ((I14 x0 11), I14)) else (if (I14 x0 11) ≤ x2 then (some ((-5 : Int32), I14)) else (if inb x2 (lnM (R x0 10)) = true then (some ((I14 (R x0 10) x2.toNatClampNeg), I14)) else none))))))))))))))))))) else j13_2))))))

def f_X11_laysFigures_L17 : Nat → Nat → Int32 → Int32 → Int32 → Int32 → mI → mR → Option (Int32 × Int32 × mI)
  | 0, _, _, _, _, _, _, _ => none
  | n + 1, x0, x2, x3, x4, x5, I, R =>
  (if x5 < 0 then (some (x3, x4, I)) else (if inb x5 (lnM (R x0 12)) = true then (bnd (u2 I (R x0 12) x5.toNatClampNeg (x3 - x3 / (10 : Int32) * (10 : Int32))) (fun I5 => (bnd (fun (w0_6 : Int32) => (f_X11_laysFigures_L17 n x0 x2 (x3 / (10 : Int32)) w0_6 (x5 + (-1 : Int32)) I5 R)) (fun j59_6 => (bnd ((j59_6 (0 : Int32))) (fun j58_7 => (if x4 = 0 then j58_7 else (if x2 < (I5 (R x0 12) x5.toNatClampNeg) then j58_7 else (j59_6 (1 : Int32)))))))))) else none))

def f_X11_laysFigures (x0 : Nat) (x1 : Int32) (x2 : Int32) (I : mI) (R : mR) : Option (Int32 × mI) :=
  (bnd (fun (w0_1 : Int32) => (bd3 (f_X11_laysFigures_L17 FU x0 x2 x1 w0_1 (6 : Int32) I R) (fun y3_10 y4_10 I_10 => (bnd ((some ((0 : Int32), I_10))) (fun j80_11 => (if y4_10 = 0 then j80_11 else (if y3_10 = 0 then (some ((1 : Int32), I_10)) else j80_11))))))) (fun j11_1 => (if x1 < 0 then (j11_1 (0 : Int32)) else (j11_1 (1 : Int32)))))

def f_X11_weighsTerm_L8 : Nat → Nat → Nat → Int32 → Int32 → Int32 → mI → mL → mR → Option (mL)
  | 0, _, _, _, _, _, _, _, _ => none
  | n + 1, x0, x1, x2, x4, x5, I, L, R =>
  (if x5 < 0 then (some L) else (if inb (x2 + x5) (lnM x1) = true then (bnd (fun (v4_3 : Int32) (L_3 : mL) => (f_X11_weighsTerm_L8 n x0 x1 x2 v4_3 (x5 + (-1 : Int32)) I L_3 R)) (fun j380_3 => (if (I x1 ((x2 + x5)).toNatClampNeg) = (102 : Int32) then (if inb (2 : Int32) (lnM (R x0 12)) = true then (if inb (4 : Int32) (lnM (R x0 12)) = true then (if inb (x4 - (1 : Int32)) (lnM (R x0 13)) = true then (bnd (u2 L (R x0 13) ((x4 - (1 : Int32))).toNatClampNeg (((((I (R x0 12) ((2 : Int32)).toNatClampNeg)).toInt64) + ((((I (R x0 12) ((4 : Int32)).toNatClampNeg)).toInt64) * (L (R x0 13) ((x4 - (1 : Int32))).toNatClampNeg))) - ((((I (R x0 12) ((2 : Int32)).toNatClampNeg)).toInt64) + ((((I (R x0 12) ((4 : Int32)).toNatClampNeg)).toInt64) * (L (R x0 13) ((x4 - (1 : Int32))).toNatClampNeg))) / (1000000007 : Int64) * (1000000007 : Int64))) (fun L47 => (if inb (x4 - (1 : Int32)) (lnM (R x0 14)) = true then (bnd (u2 L47 (R x0 14) ((x4 - (1 : Int32))).toNatClampNeg (((((I (R x0 12) ((4 : Int32)).toNatClampNeg)).toInt64) * (L47 (R x0 14) ((x4 - (1 : Int32))).toNatClampNeg)) - ((((I (R x0 12) ((4 : Int32)).toNatClampNeg)).toInt64) * (L47 (R x0 14) ((x4 - (1 : Int32))).toNatClampNeg)) / (1000000007 : Int64) * (1000000007 : Int64))) (fun L50 => (if inb (x4 - (1 : Int32)) (lnM (R x0 15)) = true then (bnd (u2 L50 (R x0 15) ((x4 - (1 : Int32))).toNatClampNeg (((((I (R x0 12) ((4 : Int32)).toNatClampNeg)).toInt64) * (L50 (R x0 15) ((x4 - (1 : Int32))).toNatClampNeg)) - ((((I (R x0 12) ((4 : Int32)).toNatClampNeg)).toInt64) * (L50 (R x0 15) ((x4 - (1 : Int32))).toNatClampNeg)) / (1000000007 : Int64) * (1000000007 : Int64))) (fun L53 => (j380_3 x4 L53))) else none))) else none))) else none) else none) else none) else (if (I x1 ((x2 + x5)).toNatClampNeg) = (103 : Int32) then (if inb (3 : Int32) (lnM (R x0 12)) = true then (if inb (5 : Int32) (lnM (R x0 12)) = true then (if inb (x4 - (1 : Int32)) (lnM (R x0 13)) = true then (if inb (6 : Int32) (lnM (R x0 12)) = true then (if inb (x4 - (2 : Int32)) (lnM (R x0 13)) = true then (bnd (u2 L (R x0 13) ((x4 - (2 : Int32))).toNatClampNeg ((((((I (R x0 12) ((3 : Int32)).toNatClampNeg)).toInt64) + ((((I (R x0 12) ((5 : Int32)).toNatClampNeg)).toInt64) * (L (R x0 13) ((x4 - (1 : Int32))).toNatClampNeg))) + ((((I (R x0 12) ((6 : Int32)).toNatClampNeg)).toInt64) * (L (R x0 13) ((x4 - (2 : Int32))).toNatClampNeg))) - (((((I (R x0 12) ((3 : Int32)).toNatClampNeg)).toInt64) + ((((I (R x0 12) ((5 : Int32)).toNatClampNeg)).toInt64) * (L (R x0 13) ((x4 - (1 : Int32))).toNatClampNeg))) + ((((I (R x0 12) ((6 : Int32)).toNatClampNeg)).toInt64) * (L (R x0 13) ((x4 - (2 : Int32))).toNatClampNeg))) / (1000000007 : Int64) * (1000000007 : Int64))) (fun L33 => (if inb (x4 - (1 : Int32)) (lnM (R x0 14)) = true then (if inb (x4 - (2 : Int32)) (lnM (R x0 14)) = true then (bnd (u2 L33 (R x0 14) ((x4 - (2 : Int32))).toNatClampNeg ((((((I (R x0 12) ((5 : Int32)).toNatClampNeg)).toInt64) * (L33 (R x0 14) ((x4 - (1 : Int32))).toNatClampNeg)) + ((((I (R x0 12) ((6 : Int32)).toNatClampNeg)).toInt64) * (L33 (R x0 14) ((x4 - (2 : Int32))).toNatClampNeg))) - (((((I (R x0 12) ((5 : Int32)).toNatClampNeg)).toInt64) * (L33 (R x0 14) ((x4 - (1 : Int32))).toNatClampNeg)) + ((((I (R x0 12) ((6 : Int32)).toNatClampNeg)).toInt64) * (L33 (R x0 14) ((x4 - (2 : Int32))).toNatClampNeg))) / (1000000007 : Int64) * (1000000007 : Int64))) (fun L37 => (if inb (x4 - (1 : Int32)) (lnM (R x0 15)) = true then (if inb (x4 - (2 : Int32)) (lnM (R x0 15)) = true then (bnd (u2 L37 (R x0 15) ((x4 - (2 : Int32))).toNatClampNeg ((((((I (R x0 12) ((5 : Int32)).toNatClampNeg)).toInt64) * (L37 (R x0 15) ((x4 - (1 : Int32))).toNatClampNeg)) + ((((I (R x0 12) ((6 : Int32)).toNatClampNeg)).toInt64) * (L37 (R x0 15) ((x4 - (2 : Int32))).toNatClampNeg))) - (((((I (R x0 12) ((5 : Int32)).toNatClampNeg)).toInt64) * (L37 (R x0 15) ((x4 - (1 : Int32))).toNatClampNeg)) + ((((I (R x0 12) ((6 : Int32)).toNatClampNeg)).toInt64) * (L37 (R x0 15) ((x4 - (2 : Int32))).toNatClampNeg))) / (1000000007 : Int64) * (1000000007 : Int64))) (fun L41 => (j380_3 (x4 + (-1 : Int32)) L41))) else none) else none))) else none) else none))) else none) else none) else none) else none) else none) else (bnd (fun (w2_7 : Int64) => (if inb x4 (lnM (R x0 13)) = true then (bnd (u2 L (R x0 13) x4.toNatClampNeg w2_7) (fun L9 => (bnd (fun (w2_11 : Int64) => (if inb x4 (lnM (R x0 14)) = true then (bnd (u2 L9 (R x0 14) x4.toNatClampNeg w2_11) (fun L13 => (bnd (fun (w2_15 : Int64) => (if inb x4 (lnM (R x0 15)) = true then (bnd (u2 L13 (R x0 15) x4.toNatClampNeg w2_15) (fun L17 => (j380_3 (x4 + (1 : Int32)) L17))) else none)) (fun j376_15 => (if (I x1 ((x2 + x5)).toNatClampNeg) = (121 : Int32) then (j376_15 (1 : Int64)) else (j376_15 (0 : Int64))))))) else none)) (fun j357_11 => (if (I x1 ((x2 + x5)).toNatClampNeg) = (120 : Int32) then (j357_11 (1 : Int64)) else (j357_11 (0 : Int64))))))) else none)) (fun j338_7 => (if (I x1 ((x2 + x5)).toNatClampNeg) = (97 : Int32) then (if inb (0 : Int32) (lnM (R x0 12)) = true then (j338_7 (((I (R x0 12) ((0 : Int32)).toNatClampNeg)).toInt64)) else none) else (if (I x1 ((x2 + x5)).toNatClampNeg) = (98 : Int32) then (if inb (1 : Int32) (lnM (R x0 12)) = true then (j338_7 (((I (R x0 12) ((1 : Int32)).toNatClampNeg)).toInt64)) else none) else (j338_7 (0 : Int64)))))))))) else none))

def f_X11_weighsTerm (x0 : Nat) (x1 : Nat) (x2 : Int32) (x3 : Int32) (I : mI) (L : mL) (R : mR) : Option (mL) :=
  (bd1 (f_X11_weighsTerm_L8 FU x0 x1 x2 (0 : Int32) (x3 - (1 : Int32)) I L R) (fun L_54 => (some L_54)))

def f_X11_compares (x0 : Nat) (x1 : Int32) (x2 : Int32) (x3 : Int32) (x4 : Int32) (I : mI) (L : mL) (R : mR) : Option (Int32 × mL) :=
  (bd1 (f_X11_weighsTerm x0 (R x0 0) x1 x2 I L R) (fun L2 => (if inb (0 : Int32) (lnM (R x0 13)) = true then (if inb (0 : Int32) (lnM (R x0 14)) = true then (if inb (0 : Int32) (lnM (R x0 15)) = true then (bd1 (f_X11_weighsTerm x0 (R x0 0) x3 x4 I L2 R) (fun L9 => (bnd (fun (w0_10 : Int32) => (bnd ((some ((0 : Int32), L9))) (fun j93_11 => (if w0_10 = 0 then j93_11 else (if 0 ≤ (lg_cmp (L2 (R x0 13) ((0 : Int32)).toNatClampNeg) (L9 (R x0 13) ((0 : Int32)).toNatClampNeg)) then (if (lg_cmp (L2 (R x0 13) ((0 : Int32)).toNatClampNeg) (L9 (R x0 13) ((0 : Int32)).toNatClampNeg)) ≤ 0 then (some ((1 : Int32), L9)) else (some ((2 : Int32), L9))) else j93_11))))) (fun j74_10 => (bnd ((j74_10 (0 : Int32))) (fun j73_15 => (if (lg_cmp (L2 (R x0 14) ((0 : Int32)).toNatClampNeg) (L9 (R x0 14) ((0 : Int32)).toNatClampNeg)) < 0 then j73_15 else (if (lg_cmp (L2 (R x0 15) ((0 : Int32)).toNatClampNeg) (L9 (R x0 15) ((0 : Int32)).toNatClampNeg)) < 0 then j73_15 else (j74_10 (1 : Int32)))))))))) else none) else none) else none)))

def f_X11_comparesRule (x0 : Nat) (x1 : Int32) (I : mI) (L : mL) (R : mR) : Option (Int32 × mL) :=
  (bd1 (f_X11_leftOf x1 ) (fun r1 => (bd1 (f_X11_leftLong (R x0 0) x1 I) (fun r3 => (bd1 (f_X11_rightOf x1 ) (fun r4 => (bd1 (f_X11_rightLong (R x0 0) x1 I) (fun r5 => (bd2 (f_X11_compares x0 r1 r3 r4 r5 I L R) (fun r6 L6 => (some (r6, L6))))))))))))

def f_X11_goesOn_L3 : Nat → Nat → Int32 → Int32 → Int32 → mI → mR → Option (Int32 × mI)
  | 0, _, _, _, _, _, _ => none
  | n + 1, x0, x1, x2, x3, I, R =>
  (if x3 < 0 then (some (x3, I)) else (if inb x3 (lnM (R x0 12)) = true then (if (I (R x0 12) x3.toNatClampNeg) = x2 then (bnd (fun (w2_5 : Int32) => (bnd (u2 I (R x0 12) x3.toNatClampNeg w2_5) (fun I6 => (f_X11_goesOn_L3 n x0 x1 x2 (x3 + (-1 : Int32)) I6 R)))) (fun j32_5 => (if (4 : Int32) ≤ x3 then (j32_5 x1) else (j32_5 (0 : Int32))))) else (some (x3, I))) else none))

def f_X11_goesOn (x0 : Nat) (x1 : Int32) (x2 : Int32) (I : mI) (R : mR) : Option (Int32 × mI) :=
  (bd2 (f_X11_goesOn_L3 FU x0 x1 x2 (6 : Int32) I R) (fun y3_8 I_8 => (if 0 ≤ y3_8 then (if inb y3_8 (lnM (R x0 12)) = true then (bnd (u2 I_8 (R x0 12) y3_8.toNatClampNeg ((I_8 (R x0 12) y3_8.toNatClampNeg) + (1 : Int32))) (fun I12 => (some ((1 : Int32), I12)))) else none) else (some ((0 : Int32), I_8)))))

def f_X11_numberOf_L4 : Nat → Nat → Int32 → Int32 → mI → mR → Option (Int32)
  | 0, _, _, _, _, _ => none
  | n + 1, x0, x1, x2, I, R =>
  (if (7 : Int32) ≤ x2 then (some x1) else (if inb x2 (lnM (R x0 12)) = true then (f_X11_numberOf_L4 n x0 (((10 : Int32) * x1) + (I (R x0 12) x2.toNatClampNeg)) (x2 + (1 : Int32)) I R) else none))

def f_X11_numberOf (x0 : Nat) (I : mI) (R : mR) : Option (Int32) :=
  (bd1 (f_X11_numberOf_L4 FU x0 (0 : Int32) (0 : Int32) I R) (fun y1_4 => (some y1_4)))

def f_X11_areAll_L4 : Nat → Nat → Int32 → Int32 → Int32 → mI → mL → mR → Option (Int32 × mL)
  | 0, _, _, _, _, _, _, _ => none
  | n + 1, x0, x1, x2, x3, I, L, R =>
  (if inb (0 : Int32) (lnM (R x0 0)) = true then (if (I (R x0 0) ((0 : Int32)).toNatClampNeg) ≤ x3 then (some (x2, L)) else (if x2 = 0 then (some (x2, L)) else (bd2 (f_X11_comparesRule x0 x3 I L R) (fun r5 L5 => (bnd (fun (w0_6 : Int32) => (f_X11_areAll_L4 n x0 x1 w0_6 (x3 + (1 : Int32)) I L5 R)) (fun j32_6 => (if r5 < x1 then (j32_6 (0 : Int32)) else (j32_6 (1 : Int32))))))))) else none)

def f_X11_areAll (x0 : Nat) (x1 : Int32) (I : mI) (L : mL) (R : mR) : Option (Int32 × mL) :=
  (bd2 (f_X11_areAll_L4 FU x0 x1 (1 : Int32) (0 : Int32) I L R) (fun y2_8 L_8 => (if zb y2_8 = true then (some (y2_8, L_8)) else none)))

def f_X11_fall_L9 : Nat → Nat → Int32 → mI → mL → mR → Option ((Int32 × mI × mL) ⊕ (mI × mL))
  | 0, _, _, _, _, _ => none
  | n + 1, x0, x1, I, L, R =>
  (if x1 = 0 then (some (Sum.inr (I, L))) else (bd2 (f_X11_areAll x0 (2 : Int32) I L R) (fun r3 L3 => (if r3 = 0 then (bd2 (f_X11_goesOn x0 (1 : Int32) (3 : Int32) I R) (fun r5 I5 => (f_X11_fall_L9 n x0 r5 I5 L3 R))) else (bd1 (f_X11_numberOf x0 I R) (fun r6 => (some (Sum.inl (r6, I, L3)))))))))

def f_X11_fall (x0 : Nat) (I : mI) (L : mL) (R : mR) : Option (Int32 × mI × mL) :=
  (bd2 (f_X11_laysFigures x0 (111 : Int32) (9 : Int32) I R) (fun r1 I1 => (bdS (f_X11_fall_L9 FU x0 r1 I1 L R) (un3 (fun r_7 I_7 L_7 => some (r_7, I_7, L_7))) (un2 (fun I_7 L_7 => (some ((-1 : Int32), I_7, L_7)))))))

def f_X11_weighs (x0 : Nat) (x1 : Int32) (x2 : Int32) (I : mI) (L : mL) (R : mR) : Option (Int32 × mI × mL) :=
  (bd2 (f_X11_laysFigures x0 x1 (3 : Int32) I R) (fun r1 I1 => (bnd ((bd2 (f_X11_refuses x0 (-2 : Int32) I1 R) (fun r3 I3 => (some (r3, I3, L))))) (fun j25_2 => (if r1 = 0 then j25_2 else (bd1 (f_X11_isRule x0 x2 I1 R) (fun r5 => (if r5 = 0 then j25_2 else (bd2 (f_X11_comparesRule x0 x2 I1 L R) (fun r7 L7 => (some (r7, I1, L7))))))))))))

def f_X11_weight (x0 : Nat) (x1 : Int32) (I : mI) (L : mL) (R : mR) : Option (Int32 × mI × mL) :=
  (bd2 (f_X11_laysFigures x0 x1 (3 : Int32) I R) (fun r1 I1 => (if r1 = 0 then (bd2 (f_X11_refuses x0 (-2 : Int32) I1 R) (fun r8 I8 => (some (r8, I8, L)))) else (if inb (131 : Int32) (lnM (R x0 0)) = true then (bd1 (f_X11_weighsTerm x0 (R x0 0) (132 : Int32) (I1 (R x0 0) ((131 : Int32)).toNatClampNeg) I1 L R) (fun L5 => (if inb (0 : Int32) (lnM (R x0 13)) = true then (some ((((L5 (R x0 13) ((0 : Int32)).toNatClampNeg)).toInt32), I1, L5)) else none))) else none))))

def f_X11_mayFollow_L60 : Nat → Nat → Int32 → Int32 → Int32 → mI → mR → Option ((Int32) ⊕ (Unit))
  | 0, _, _, _, _, _, _ => none
  | n + 1, x0, x3, x4, x5, I, R =>
  (if x5 ≤ x4 then (some (Sum.inr ())) else (if inb x4 (lnM (R x0 0)) = true then (bd1 (f_X11_isUnknown (I (R x0 0) x4.toNatClampNeg) ) (fun r14 => (bnd ((bd1 (f_X11_longAt (R x0 0) x3 I) (fun r16 => (bd1 (f_X11_longAt (R x0 0) x4 I) (fun r17 => (f_X11_mayFollow_L60 n x0 (x3 + r16) (x4 + r17) x5 I R)))))) (fun j105_15 => (if r14 = 0 then (if inb x3 (lnM (R x0 0)) = true then (bd1 (f_X11_isUnknown (I (R x0 0) x3.toNatClampNeg) ) (fun r20 => (if r20 = 0 then (bd1 (f_X11_isHead x0 (I (R x0 0) x3.toNatClampNeg) I R) (fun r22 => (if r22 = 0 then (if (I (R x0 0) x3.toNatClampNeg) = (I (R x0 0) x4.toNatClampNeg) then (f_X11_mayFollow_L60 n x0 (x3 + (1 : Int32)) (x4 + (1 : Int32)) x5 I R) else (some (Sum.inl (0 : Int32)))) else j105_15))) else j105_15))) else none) else j105_15))))) else none))

def f_X11_mayFollow (x0 : Nat) (x1 : Int32) (x2 : Int32) (I : mI) (R : mR) : Option (Int32) :=
  (if inb x1 (lnM (R x0 17)) = true then (if inb x2 (lnM (R x0 16)) = true then (bd1 (f_X11_leftOf (I (R x0 16) x2.toNatClampNeg) ) (fun r5 => (if inb (I (R x0 17) x1.toNatClampNeg) (lnM (R x0 0)) = true then (if inb r5 (lnM (R x0 0)) = true then (if (I (R x0 0) ((I (R x0 17) x1.toNatClampNeg)).toNatClampNeg) = (I (R x0 0) r5.toNatClampNeg) then (bd1 (f_X11_leftLong (R x0 0) (I (R x0 16) x2.toNatClampNeg) I) (fun r10 => (bdS (f_X11_mayFollow_L60 FU x0 ((I (R x0 17) x1.toNatClampNeg) + (1 : Int32)) (r5 + (1 : Int32)) (r5 + r10) I R) (un1 (fun r_25 => some r_25)) (un0 (some (1 : Int32)))))) else (some (0 : Int32))) else none) else none))) else none) else none)

def f_X11_laysRings_L7 : Nat → Nat → Int32 → mI → mR → Option (mI)
  | 0, _, _, _, _ => none
  | n + 1, x0, x1, I, R =>
  (if (I x0 18) ≤ x1 then (some I) else (if inb x1 (lnM (R x0 21)) = true then (bnd (u2 I (R x0 21) x1.toNatClampNeg (-1 : Int32)) (fun I5 => (f_X11_laysRings_L7 n x0 (x1 + (1 : Int32)) I5 R))) else none))

def f_X11_laysRings_L64 : Nat → Nat → Int32 → Int32 → mI → mR → Option (mI)
  | 0, _, _, _, _, _ => none
  | n + 1, x0, x1, x2, I, R =>
  (if (I x0 18) ≤ x2 then (some I) else (if inb (((60 : Int32) * x1) + x2) (lnM (R x0 20)) = true then (bnd (fun (w2_19 : Int32) => (if inb x2 (lnM (R x0 21)) = true then (bnd (u2 I (R x0 21) x2.toNatClampNeg w2_19) (fun I21 => (f_X11_laysRings_L64 n x0 x1 (x2 + (1 : Int32)) I21 R))) else none)) (fun j118_19 => (bnd ((if inb x2 (lnM (R x0 21)) = true then (j118_19 (I (R x0 21) x2.toNatClampNeg)) else none)) (fun j112_22 => (if (I (R x0 20) ((((60 : Int32) * x1) + x2)).toNatClampNeg) = 0 then j112_22 else (if inb (((60 : Int32) * x2) + x1) (lnM (R x0 20)) = true then (if (I (R x0 20) ((((60 : Int32) * x2) + x1)).toNatClampNeg) = 0 then j112_22 else (j118_19 (I x0 22))) else none)))))) else none))

def f_X11_laysRings_L30 : Nat → Nat → Int32 → mI → mR → Option (mI)
  | 0, _, _, _, _ => none
  | n + 1, x0, x1, I, R =>
  (if (I x0 18) ≤ x1 then (some I) else (if inb x1 (lnM (R x0 21)) = true then (bnd (fun (I_10 : mI) => (f_X11_laysRings_L30 n x0 (x1 + (1 : Int32)) I_10 R)) (fun j135_10 => (if (I (R x0 21) x1.toNatClampNeg) = (-1 : Int32) then (if inb (((60 : Int32) * x1) + x1) (lnM (R x0 20)) = true then (if (I (R x0 20) ((((60 : Int32) * x1) + x1)).toNatClampNeg) = 0 then (j135_10 I) else (bd1 (f_X11_laysRings_L64 FU x0 x1 x1 I R) (fun I_27 => (bnd (u2 I_27 x0 22 ((I_27 x0 22) + (1 : Int32))) (fun I28 => (j135_10 I28)))))) else none) else (j135_10 I)))) else none))

def f_X11_laysRings (x0 : Nat) (I : mI) (R : mR) : Option (mI) :=
  (bnd (u2 I x0 22 (0 : Int32)) (fun I1 => (bd1 (f_X11_laysRings_L7 FU x0 (0 : Int32) I1 R) (fun I_6 => (bd1 (f_X11_laysRings_L30 FU x0 (0 : Int32) I_6 R) (fun I_29 => (some I_29)))))))

def f_X11_laysCalls_L19 : Nat → Nat → Int32 → Int32 → mI → mR → Option (mI)
  | 0, _, _, _, _, _ => none
  | n + 1, x0, x1, x2, I, R =>
  (bd1 (f_X11_rightLong (R x0 0) x1 I) (fun r6 => (if r6 ≤ x2 then (some I) else (bd1 (f_X11_rightOf x1 ) (fun r8 => (if inb (r8 + x2) (lnM (R x0 0)) = true then (bd1 (f_X11_isHead x0 (I (R x0 0) ((r8 + x2)).toNatClampNeg) I R) (fun r10 => (bnd (fun (I_11 : mI) => (f_X11_laysCalls_L19 n x0 x1 (x2 + (1 : Int32)) I_11 R)) (fun j84_11 => (if r10 = 0 then (j84_11 I) else (if inb (I x0 18) (lnM (R x0 16)) = true then (bnd (u2 I (R x0 16) ((I x0 18)).toNatClampNeg x1) (fun I15 => (bd1 (f_X11_rightOf x1 ) (fun r17 => (if inb (I15 x0 18) (lnM (R x0 17)) = true then (bnd (u2 I15 (R x0 17) ((I15 x0 18)).toNatClampNeg (r17 + x2)) (fun I19 => (bnd (u2 I19 x0 18 ((I19 x0 18) + (1 : Int32))) (fun I20 => (j84_11 I20))))) else none))))) else none)))))) else none))))))

def f_X11_laysCalls_L7 : Nat → Nat → Int32 → mI → mR → Option (mI)
  | 0, _, _, _, _ => none
  | n + 1, x0, x1, I, R =>
  (if inb (0 : Int32) (lnM (R x0 0)) = true then (if (I (R x0 0) ((0 : Int32)).toNatClampNeg) ≤ x1 then (some I) else (bd1 (f_X11_laysCalls_L19 FU x0 x1 (0 : Int32) I R) (fun I_21 => (f_X11_laysCalls_L7 n x0 (x1 + (1 : Int32)) I_21 R)))) else none)

def f_X11_laysCalls_L108 : Nat → Nat → Int32 → Int32 → mI → mR → Option (mI)
  | 0, _, _, _, _, _ => none
  | n + 1, x0, x1, x2, I, R =>
  (if (I x0 18) ≤ x2 then (some I) else (bd1 (f_X11_mayFollow x0 x1 x2 I R) (fun r26 => (if inb (((60 : Int32) * x1) + x2) (lnM (R x0 19)) = true then (bnd (u2 I (R x0 19) ((((60 : Int32) * x1) + x2)).toNatClampNeg (vp_nar .boolean r26)) (fun I28 => (if inb (((60 : Int32) * x1) + x2) (lnM (R x0 20)) = true then (bnd (u2 I28 (R x0 20) ((((60 : Int32) * x1) + x2)).toNatClampNeg (vp_nar .boolean (I28 (R x0 19) ((((60 : Int32) * x1) + x2)).toNatClampNeg))) (fun I31 => (f_X11_laysCalls_L108 n x0 x1 (x2 + (1 : Int32)) I31 R))) else none))) else none))))

def f_X11_laysCalls_L98 : Nat → Nat → Int32 → mI → mR → Option (mI)
  | 0, _, _, _, _ => none
  | n + 1, x0, x1, I, R =>
  (if (I x0 18) ≤ x1 then (some I) else (bd1 (f_X11_laysCalls_L108 FU x0 x1 (0 : Int32) I R) (fun I_32 => (f_X11_laysCalls_L98 n x0 (x1 + (1 : Int32)) I_32 R))))

def f_X11_laysCalls_L189 : Nat → Nat → Int32 → Int32 → Int32 → mI → mR → Option (mI)
  | 0, _, _, _, _, _, _ => none
  | n + 1, x0, x1, x2, x3, I, R =>
  (if (I x0 18) ≤ x3 then (some I) else (if inb (((60 : Int32) * x2) + x1) (lnM (R x0 20)) = true then (if (I (R x0 20) ((((60 : Int32) * x2) + x1)).toNatClampNeg) = 0 then (some I) else (if inb (((60 : Int32) * x2) + x3) (lnM (R x0 20)) = true then (bnd (fun (w2_41 : Int32) => (bnd (u2 I (R x0 20) ((((60 : Int32) * x2) + x3)).toNatClampNeg (vp_nar .boolean w2_41)) (fun I42 => (f_X11_laysCalls_L189 n x0 x1 x2 (x3 + (1 : Int32)) I42 R)))) (fun j254_41 => (bnd ((j254_41 (1 : Int32))) (fun j249_43 => (if (I (R x0 20) ((((60 : Int32) * x2) + x3)).toNatClampNeg) = 0 then (if inb (((60 : Int32) * x1) + x3) (lnM (R x0 20)) = true then (if (I (R x0 20) ((((60 : Int32) * x1) + x3)).toNatClampNeg) = 0 then (j254_41 (0 : Int32)) else j249_43) else none) else j249_43))))) else none)) else none))

def f_X11_laysCalls_L179 : Nat → Nat → Int32 → Int32 → mI → mR → Option (mI)
  | 0, _, _, _, _, _ => none
  | n + 1, x0, x1, x2, I, R =>
  (if (I x0 18) ≤ x2 then (some I) else (bd1 (f_X11_laysCalls_L189 FU x0 x1 x2 (0 : Int32) I R) (fun I_47 => (f_X11_laysCalls_L179 n x0 x1 (x2 + (1 : Int32)) I_47 R))))

def f_X11_laysCalls_L169 : Nat → Nat → Int32 → mI → mR → Option (mI)
  | 0, _, _, _, _ => none
  | n + 1, x0, x1, I, R =>
  (if (I x0 18) ≤ x1 then (some I) else (bd1 (f_X11_laysCalls_L179 FU x0 x1 (0 : Int32) I R) (fun I_48 => (f_X11_laysCalls_L169 n x0 (x1 + (1 : Int32)) I_48 R))))

def f_X11_laysCalls (x0 : Nat) (I : mI) (R : mR) : Option (mI) :=
  (bnd (u2 I x0 18 (0 : Int32)) (fun I1 => (bd1 (f_X11_laysCalls_L7 FU x0 (0 : Int32) I1 R) (fun I_22 => (bd1 (f_X11_laysCalls_L98 FU x0 (0 : Int32) I_22 R) (fun I_33 => (bd1 (f_X11_laysCalls_L169 FU x0 (0 : Int32) I_33 R) (fun I_49 => (bd1 (f_X11_laysRings x0 I_49 R) (fun I50 => (some I50)))))))))))

def f_X11_isLighter_L8 : Nat → Nat → Int32 → Int32 → Int32 → mI → mL → mR → Option (Int32 × mL)
  | 0, _, _, _, _, _, _, _ => none
  | n + 1, x0, x1, x2, x3, I, L, R =>
  (if (I x0 18) ≤ x3 then (some (x2, L)) else (if x2 = 0 then (some (x2, L)) else (if inb x3 (lnM (R x0 16)) = true then (if inb x3 (lnM (R x0 21)) = true then (bnd (fun (w0_8 : Int32) (L_8 : mL) => (f_X11_isLighter_L8 n x0 x1 w0_8 (x3 + (1 : Int32)) I L_8 R)) (fun j84_8 => (bnd (fun (L_9 : mL) => (j84_8 (1 : Int32) L_9)) (fun j79_9 => (if (I (R x0 21) x3.toNatClampNeg) = x1 then (bd1 (f_X11_leftOf (I (R x0 16) x3.toNatClampNeg) ) (fun r11 => (bd1 (f_X11_leftLong (R x0 0) (I (R x0 16) x3.toNatClampNeg) I) (fun r13 => (if inb x3 (lnM (R x0 17)) = true then (bd1 (f_X11_longAt (R x0 0) (I (R x0 17) x3.toNatClampNeg) I) (fun r16 => (bd2 (f_X11_compares x0 r11 r13 (I (R x0 17) x3.toNatClampNeg) r16 I L R) (fun r17 L17 => (if r17 = (2 : Int32) then (j79_9 L17) else (j84_8 (0 : Int32) L17)))))) else none))))) else (j79_9 L)))))) else none) else none)))

def f_X11_isLighter (x0 : Nat) (x1 : Int32) (I : mI) (L : mL) (R : mR) : Option (Int32 × mL) :=
  (bd2 (f_X11_areAll x0 (1 : Int32) I L R) (fun r1 L1 => (bd2 (f_X11_isLighter_L8 FU x0 x1 r1 (0 : Int32) I L1 R) (fun y2_19 L_19 => (if zb y2_19 = true then (some (y2_19, L_19)) else none)))))

def f_X11_lighterOf_L8 : Nat → Nat → Int32 → Int32 → mI → mL → mR → Option ((Int32 × mI × mL) ⊕ (mI × mL))
  | 0, _, _, _, _, _, _ => none
  | n + 1, x0, x1, x2, I, L, R =>
  (if x2 = 0 then (some (Sum.inr (I, L))) else (bd2 (f_X11_isLighter x0 x1 I L R) (fun r3 L3 => (if r3 = 0 then (bd2 (f_X11_goesOn x0 (0 : Int32) (2 : Int32) I R) (fun r5 I5 => (f_X11_lighterOf_L8 n x0 x1 r5 I5 L3 R))) else (bd1 (f_X11_numberOf x0 I R) (fun r6 => (some (Sum.inl (r6, I, L3)))))))))

def f_X11_lighterOf (x0 : Nat) (x1 : Int32) (I : mI) (L : mL) (R : mR) : Option (Int32 × mI × mL) :=
  (bd2 (f_X11_laysFigures x0 (0 : Int32) (9 : Int32) I R) (fun r1 I1 => (bdS (f_X11_lighterOf_L8 FU x0 x1 r1 I1 L R) (un3 (fun r_7 I_7 L_7 => some (r_7, I_7, L_7))) (un2 (fun I_7 L_7 => (some ((-1 : Int32), I_7, L_7)))))))

def f_X11_callsTold_L25 : Nat → Nat → Int32 → Int32 → mI → mL → mR → Option (Int32 × mI × mL)
  | 0, _, _, _, _, _, _ => none
  | n + 1, x0, x2, x3, I, L, R =>
  (if (I x0 22) ≤ x3 then (some (x2, I, L)) else (if x2 = 0 then (some (x2, I, L)) else (bd3 (f_X11_lighterOf x0 x3 I L R) (fun r4 I4 L4 => (bnd (fun (w0_5 : Int32) => (f_X11_callsTold_L25 n x0 w0_5 (x3 + (1 : Int32)) I4 L4 R)) (fun j51_5 => (if r4 = (-1 : Int32) then (j51_5 (0 : Int32)) else (j51_5 (1 : Int32)))))))))

def f_X11_callsTold (x0 : Nat) (x1 : Int32) (I : mI) (L : mL) (R : mR) : Option (Int32 × mI × mL) :=
  (if (2 : Int32) ≤ x1 then (bd3 (f_X11_callsTold_L25 FU x0 (1 : Int32) (0 : Int32) I L R) (fun y2_7 I_7 L_7 => (if y2_7 = 0 then (some ((0 : Int32), I_7, L_7)) else (some ((1 : Int32), I_7, L_7))))) else (if x1 = 0 then (some ((I x0 18), I, L)) else (some ((I x0 22), I, L))))

def f_X11_calls (x0 : Nat) (x1 : Int32) (I : mI) (L : mL) (R : mR) : Option (Int32 × mI × mL) :=
  (bd1 (f_X11_in x1 (0 : Int32) (2 : Int32) ) (fun r1 => (if r1 = 0 then (bd2 (f_X11_refuses x0 (-2 : Int32) I R) (fun r5 I5 => (some (r5, I5, L)))) else (bd1 (f_X11_laysCalls x0 I R) (fun I3 => (bd3 (f_X11_callsTold x0 x1 I3 L R) (fun r4 I4 L4 => (some (r4, I4, L4)))))))))

def f_X11_callTold_L61 : Nat → Nat → Int32 → Int32 → Int32 → mI → mR → Option (Int32)
  | 0, _, _, _, _, _, _ => none
  | n + 1, x0, x1, x3, x4, I, R =>
  (if (I x0 18) ≤ x4 then (some x3) else (if inb (((60 : Int32) * x1) + x4) (lnM (R x0 19)) = true then (bnd (fun (w1_15 : Int32) => (f_X11_callTold_L61 n x0 x1 (x3 + w1_15) (x4 + (1 : Int32)) I R)) (fun j91_15 => (if (I (R x0 19) ((((60 : Int32) * x1) + x4)).toNatClampNeg) = 0 then (j91_15 (0 : Int32)) else (j91_15 (1 : Int32))))) else none))

def f_X11_callTold (x0 : Nat) (x1 : Int32) (x2 : Int32) (I : mI) (R : mR) : Option (Int32) :=
  (if x2 = (0 : Int32) then (if inb x1 (lnM (R x0 16)) = true then (some (I (R x0 16) x1.toNatClampNeg)) else none) else (if x2 = (1 : Int32) then (if inb x1 (lnM (R x0 17)) = true then (bd1 (f_X11_longAt (R x0 0) (I (R x0 17) x1.toNatClampNeg) I) (fun r8 => (some r8))) else none) else (if x2 = (2 : Int32) then (if inb x1 (lnM (R x0 21)) = true then (some (I (R x0 21) x1.toNatClampNeg)) else none) else (bd1 (f_X11_callTold_L61 FU x0 x1 (0 : Int32) (0 : Int32) I R) (fun y3_17 => (some y3_17))))))

def f_X11_call (x0 : Nat) (x1 : Int32) (x2 : Int32) (I : mI) (R : mR) : Option (Int32 × mI) :=
  (bd1 (f_X11_laysCalls x0 I R) (fun I1 => (bd1 (f_X11_in x1 (0 : Int32) ((I1 x0 18) - (1 : Int32)) ) (fun r2 => (bnd ((bd2 (f_X11_refuses x0 (-2 : Int32) I1 R) (fun r4 I4 => (some (r4, I4))))) (fun j36_3 => (if r2 = 0 then j36_3 else (bd1 (f_X11_in x2 (0 : Int32) (3 : Int32) ) (fun r6 => (if r6 = 0 then j36_3 else (bd1 (f_X11_callTold x0 x1 x2 I1 R) (fun r8 => (some (r8, I1))))))))))))))

def f_X11_follows (x0 : Nat) (x1 : Int32) (x2 : Int32) (I : mI) (R : mR) : Option (Int32 × mI) :=
  (bd1 (f_X11_laysCalls x0 I R) (fun I1 => (bd1 (f_X11_in x1 (0 : Int32) ((I1 x0 18) - (1 : Int32)) ) (fun r2 => (bnd ((bd2 (f_X11_refuses x0 (-2 : Int32) I1 R) (fun r4 I4 => (some (r4, I4))))) (fun j32_3 => (if r2 = 0 then j32_3 else (bd1 (f_X11_in x2 (0 : Int32) ((I1 x0 18) - (1 : Int32)) ) (fun r6 => (if r6 = 0 then j32_3 else (if inb (((60 : Int32) * x1) + x2) (lnM (R x0 19)) = true then (if (I1 (R x0 19) ((((60 : Int32) * x1) + x2)).toNatClampNeg) = 0 then (some ((0 : Int32), I1)) else (some ((1 : Int32), I1))) else none)))))))))))

def f_X11_lighter (x0 : Nat) (x1 : Int32) (I : mI) (L : mL) (R : mR) : Option (Int32 × mI × mL) :=
  (bd1 (f_X11_laysCalls x0 I R) (fun I1 => (bd1 (f_X11_in x1 (0 : Int32) ((I1 x0 22) - (1 : Int32)) ) (fun r2 => (if r2 = 0 then (bd2 (f_X11_refuses x0 (-2 : Int32) I1 R) (fun r4 I4 => (some (r4, I4, L)))) else (bd3 (f_X11_lighterOf x0 x1 I1 L R) (fun r5 I5 L5 => (some (r5, I5, L5)))))))))

def f_X11_laysTerm_L14 : Nat → Nat → Int32 → mI → mR → Option (mI)
  | 0, _, _, _, _ => none
  | n + 1, x0, x1, I, R =>
  (if (I x0 24) ≤ x1 then (some I) else (if inb ((132 : Int32) + x1) (lnM (R x0 0)) = true then (if inb x1 (lnM (R x0 23)) = true then (bnd (u2 I (R x0 23) x1.toNatClampNeg (I (R x0 0) (((132 : Int32) + x1)).toNatClampNeg)) (fun I9 => (f_X11_laysTerm_L14 n x0 (x1 + (1 : Int32)) I9 R))) else none) else none))

def f_X11_laysTerm (x0 : Nat) (I : mI) (R : mR) : Option (mI) :=
  (if inb (131 : Int32) (lnM (R x0 0)) = true then (bnd (u2 I x0 24 (I (R x0 0) ((131 : Int32)).toNatClampNeg)) (fun I3 => (bd1 (f_X11_laysTerm_L14 FU x0 (0 : Int32) I3 R) (fun I_10 => (some I_10))))) else none)

def f_X11_binds_L54 : Nat → Nat → Int32 → Int32 → Int32 → Int32 → Int32 → mI → mR → Option (Int32)
  | 0, _, _, _, _, _, _, _, _ => none
  | n + 1, x0, x1, x2, x3, x4, x5, I, R =>
  (if x3 ≤ x5 then (some x4) else (if x4 = 0 then (some x4) else (if inb x1 (lnM (R x0 26)) = true then (if inb ((I (R x0 26) x1.toNatClampNeg) + x5) (lnM (R x0 23)) = true then (if inb (x2 + x5) (lnM (R x0 23)) = true then (bnd (fun (w0_14 : Int32) => (f_X11_binds_L54 n x0 x1 x2 x3 w0_14 (x5 + (1 : Int32)) I R)) (fun j96_14 => (if (I (R x0 23) (((I (R x0 26) x1.toNatClampNeg) + x5)).toNatClampNeg) = (I (R x0 23) ((x2 + x5)).toNatClampNeg) then (j96_14 (1 : Int32)) else (j96_14 (0 : Int32))))) else none) else none) else none)))

def f_X11_binds (x0 : Nat) (x1 : Int32) (x2 : Int32) (I : mI) (R : mR) : Option (Int32 × mI) :=
  (bd1 (f_X11_longAt (R x0 23) x2 I) (fun r2 => (if inb x1 (lnM (R x0 27)) = true then (if (I (R x0 27) x1.toNatClampNeg) = 0 then (if inb x1 (lnM (R x0 26)) = true then (bnd (u2 I (R x0 26) x1.toNatClampNeg x2) (fun I21 => (bnd (u2 I21 (R x0 27) x1.toNatClampNeg r2) (fun I22 => (some ((1 : Int32), I22)))))) else none) else (bnd (fun (w0_6 : Int32) => (bd1 (f_X11_binds_L54 FU x0 x1 x2 r2 w0_6 (0 : Int32) I R) (fun y4_16 => (if zb y4_16 = true then (some (y4_16, I)) else none)))) (fun j49_6 => (if (I (R x0 27) x1.toNatClampNeg) = r2 then (j49_6 (1 : Int32)) else (j49_6 (0 : Int32)))))) else none)))

def f_X11_fits_L19 : Nat → Nat → Int32 → Int32 → Int32 → mI → mR → Option ((Int32 × mI) ⊕ (mI))
  | 0, _, _, _, _, _, _ => none
  | n + 1, x0, x1, x3, x4, I, R =>
  (bd1 (f_X11_leftLong (R x0 0) x1 I) (fun r7 => (if r7 ≤ x4 then (some (Sum.inr I)) else (bd1 (f_X11_leftOf x1 ) (fun r9 => (if inb (r9 + x4) (lnM (R x0 0)) = true then (bd1 (f_X11_isUnknown (I (R x0 0) ((r9 + x4)).toNatClampNeg) ) (fun r11 => (bnd (fun (v3_12 : Int32) (I_12 : mI) => (f_X11_fits_L19 n x0 x1 v3_12 (x4 + (1 : Int32)) I_12 R)) (fun j99_12 => (if r11 = 0 then (if inb x3 (lnM (R x0 23)) = true then (if (I (R x0 0) ((r9 + x4)).toNatClampNeg) = (I (R x0 23) x3.toNatClampNeg) then (j99_12 (x3 + (1 : Int32)) I) else (some (Sum.inl ((0 : Int32), I)))) else none) else (bd2 (f_X11_binds x0 ((I (R x0 0) ((r9 + x4)).toNatClampNeg) - (120 : Int32)) x3 I R) (fun r17 I17 => (if r17 = 0 then (some (Sum.inl ((0 : Int32), I17))) else (bd1 (f_X11_longAt (R x0 23) x3 I17) (fun r20 => (j99_12 (x3 + r20) I17))))))))))) else none))))))

def f_X11_fits (x0 : Nat) (x1 : Int32) (x2 : Int32) (I : mI) (R : mR) : Option (Int32 × mI) :=
  (if inb (0 : Int32) (lnM (R x0 27)) = true then (bnd (u2 I (R x0 27) ((0 : Int32)).toNatClampNeg (0 : Int32)) (fun I3 => (if inb (1 : Int32) (lnM (R x0 27)) = true then (bnd (u2 I3 (R x0 27) ((1 : Int32)).toNatClampNeg (0 : Int32)) (fun I5 => (bdS (f_X11_fits_L19 FU x0 x1 x2 (0 : Int32) I5 R) (un2 (fun r_21 I_21 => some (r_21, I_21))) (un1 (fun I_21 => (some ((1 : Int32), I_21))))))) else none))) else none)

def f_X11_ruleAt_L2 : Nat → Nat → Int32 → Int32 → mI → mR → Option ((Int32 × mI) ⊕ (mI))
  | 0, _, _, _, _, _ => none
  | n + 1, x0, x1, x2, I, R =>
  (if inb (0 : Int32) (lnM (R x0 0)) = true then (if (I (R x0 0) ((0 : Int32)).toNatClampNeg) ≤ x2 then (some (Sum.inr I)) else (bd2 (f_X11_fits x0 x2 x1 I R) (fun r4 I4 => (if r4 = 0 then (f_X11_ruleAt_L2 n x0 x1 (x2 + (1 : Int32)) I4 R) else (some (Sum.inl (x2, I4))))))) else none)

def f_X11_ruleAt (x0 : Nat) (x1 : Int32) (I : mI) (R : mR) : Option (Int32 × mI) :=
  (bdS (f_X11_ruleAt_L2 FU x0 x1 (0 : Int32) I R) (un2 (fun r_6 I_6 => some (r_6, I_6))) (un1 (fun I_6 => (some ((-1 : Int32), I_6)))))

def f_X11_findsTurn_L45 : Nat → Nat → Int32 → Int32 → Int32 → Int32 → mI → mR → Option (Int32 × mI)
  | 0, _, _, _, _, _, _, _ => none
  | n + 1, x0, x1, x2, x3, x4, I, R =>
  (if x3 ≤ x4 then (some (x2, I)) else (bnd (fun (w0_9 : Int32) (I_9 : mI) => (f_X11_findsTurn_L45 n x0 x1 w0_9 x3 (x4 + (1 : Int32)) I_9 R)) (fun j70_9 => (bnd (fun (I_10 : mI) => (j70_9 (1 : Int32) I_10)) (fun j65_10 => (if x2 = 0 then (bd2 (f_X11_ruleAt x0 x4 I R) (fun r12 I12 => (if r12 = (-1 : Int32) then (j70_9 (0 : Int32) I12) else (j65_10 I12)))) else (j65_10 I)))))))

def f_X11_findsTurn_L2 : Nat → Nat → Int32 → mI → mR → Option ((Int32 × mI) ⊕ (mI))
  | 0, _, _, _, _ => none
  | n + 1, x0, x1, I, R =>
  (if (I x0 24) ≤ x1 then (some (Sum.inr I)) else (bd2 (f_X11_ruleAt x0 x1 I R) (fun r2 I2 => (bnd (u2 I2 x0 28 r2) (fun I3 => (bnd (fun (I_4 : mI) => (f_X11_findsTurn_L2 n x0 (x1 + (1 : Int32)) I_4 R)) (fun j88_4 => (if (I3 x0 28) = (-1 : Int32) then (j88_4 I3) else (bd1 (f_X11_longAt (R x0 23) x1 I3) (fun r7 => (bd2 (f_X11_findsTurn_L45 FU x0 x1 (0 : Int32) (x1 + r7) (x1 + (1 : Int32)) I3 R) (fun y2_14 I_14 => (if y2_14 = 0 then (bnd (u2 I_14 x0 29 x1) (fun I16 => (some (Sum.inl ((1 : Int32), I16))))) else (j88_4 I_14))))))))))))))

def f_X11_findsTurn (x0 : Nat) (I : mI) (R : mR) : Option (Int32 × mI) :=
  (bdS (f_X11_findsTurn_L2 FU x0 (0 : Int32) I R) (un2 (fun r_17 I_17 => some (r_17, I_17))) (un1 (fun I_17 => (bnd (u2 I_17 x0 28 (-1 : Int32)) (fun I18 => (some ((0 : Int32), I18)))))))

def f_X11_makes_L2 : Nat → Nat → Int32 → Int32 → Int32 → mI → mR → Option (mI)
  | 0, _, _, _, _, _, _ => none
  | n + 1, x0, x1, x2, x3, I, R =>
  (if x2 ≤ x3 then (some I) else (bnd (fun (I_2 : mI) => (bnd (u2 I_2 x0 30 ((I_2 x0 30) + (1 : Int32))) (fun I3 => (f_X11_makes_L2 n x0 x1 x2 (x3 + (1 : Int32)) I3 R)))) (fun j34_2 => (if (200 : Int32) ≤ (I x0 30) then (j34_2 I) else (if inb (x1 + x3) (lnM (R x0 23)) = true then (if inb (I x0 30) (lnM (R x0 25)) = true then (bnd (u2 I (R x0 25) ((I x0 30)).toNatClampNeg (I (R x0 23) ((x1 + x3)).toNatClampNeg)) (fun I9 => (j34_2 I9))) else none) else none)))))

def f_X11_makes (x0 : Nat) (x1 : Int32) (x2 : Int32) (I : mI) (R : mR) : Option (mI) :=
  (bd1 (f_X11_makes_L2 FU x0 x1 x2 (0 : Int32) I R) (fun I_10 => (some I_10)))

def f_X11_doesTurn_L29 : Nat → Nat → Int32 → mI → mR → Option (mI)
  | 0, _, _, _, _ => none
  | n + 1, x0, x2, I, R =>
  (bd1 (f_X11_rightLong (R x0 0) (I x0 28) I) (fun r5 => (if r5 ≤ x2 then (some I) else (bd1 (f_X11_rightOf (I x0 28) ) (fun r7 => (if inb (r7 + x2) (lnM (R x0 0)) = true then (bd1 (f_X11_isUnknown (I (R x0 0) ((r7 + x2)).toNatClampNeg) ) (fun r9 => (bnd (fun (I_10 : mI) => (f_X11_doesTurn_L29 n x0 (x2 + (1 : Int32)) I_10 R)) (fun j121_10 => (if r9 = 0 then (bnd (fun (I_12 : mI) => (bnd (u2 I_12 x0 30 ((I_12 x0 30) + (1 : Int32))) (fun I13 => (j121_10 I13)))) (fun j111_12 => (if (200 : Int32) ≤ (I x0 30) then (j111_12 I) else (if inb (I x0 30) (lnM (R x0 25)) = true then (bnd (u2 I (R x0 25) ((I x0 30)).toNatClampNeg (I (R x0 0) ((r7 + x2)).toNatClampNeg)) (fun I17 => (j111_12 I17))) else none)))) else (if inb ((I (R x0 0) ((r7 + x2)).toNatClampNeg) - (120 : Int32)) (lnM (R x0 26)) = true then (if inb ((I (R x0 0) ((r7 + x2)).toNatClampNeg) - (120 : Int32)) (lnM (R x0 27)) = true then (bd1 (f_X11_makes x0 (I (R x0 26) (((I (R x0 0) ((r7 + x2)).toNatClampNeg) - (120 : Int32))).toNatClampNeg) (I (R x0 27) (((I (R x0 0) ((r7 + x2)).toNatClampNeg) - (120 : Int32))).toNatClampNeg) I R) (fun I22 => (j121_10 I22))) else none) else none)))))) else none))))))

def f_X11_doesTurn_L176 : Nat → Nat → Int32 → mI → mR → Option (mI)
  | 0, _, _, _, _ => none
  | n + 1, x0, x3, I, R =>
  (if (I x0 30) ≤ x3 then (some I) else (if inb x3 (lnM (R x0 25)) = true then (if inb x3 (lnM (R x0 23)) = true then (bnd (u2 I (R x0 23) x3.toNatClampNeg (I (R x0 25) x3.toNatClampNeg)) (fun I34 => (f_X11_doesTurn_L176 n x0 (x3 + (1 : Int32)) I34 R))) else none) else none))

def f_X11_doesTurn (x0 : Nat) (I : mI) (R : mR) : Option (Int32 × mI) :=
  (bd2 (f_X11_fits x0 (I x0 28) (I x0 29) I R) (fun r1 I1 => (bnd (u2 I1 x0 30 (0 : Int32)) (fun I2 => (bd1 (f_X11_makes x0 (0 : Int32) (I2 x0 29) I2 R) (fun I3 => (bd1 (f_X11_doesTurn_L29 FU x0 (0 : Int32) I3 R) (fun I_23 => (bd1 (f_X11_longAt (R x0 23) (I_23 x0 29) I_23) (fun r25 => (bd1 (f_X11_makes x0 ((I_23 x0 29) + r25) ((I_23 x0 24) - ((I_23 x0 29) + r25)) I_23 R) (fun I26 => (if (I26 x0 30) ≤ (60 : Int32) then (bnd (u2 I26 x0 24 (I26 x0 30)) (fun I28 => (bd1 (f_X11_doesTurn_L176 FU x0 (0 : Int32) I28 R) (fun I_35 => (some ((1 : Int32), I_35)))))) else (some ((0 : Int32), I26)))))))))))))))

def f_X11_turns_L27 : Nat → Nat → Int32 → Int32 → mI → mR → Option (Int32 × mI)
  | 0, _, _, _, _, _ => none
  | n + 1, x0, x1, x2, I, R =>
  (if x1 ≤ x2 then (some (x2, I)) else (bd2 (f_X11_findsTurn x0 I R) (fun r6 I6 => (if r6 = 0 then (some (x2, I6)) else (bd2 (f_X11_doesTurn x0 I6 R) (fun r8 I8 => (if r8 = 0 then (some (x2, I8)) else (f_X11_turns_L27 n x0 x1 (x2 + (1 : Int32)) I8 R))))))))

def f_X11_turns_L66 : Nat → Nat → Int32 → Int32 → mI → mR → Option (mI)
  | 0, _, _, _, _, _ => none
  | n + 1, x0, x2, x3, I, R =>
  (if (60 : Int32) ≤ x3 then (some I) else (bnd (fun (w2_16 : Int32) => (if inb ((132 : Int32) + x3) (lnM (R x0 0)) = true then (bnd (u2 I (R x0 0) (((132 : Int32) + x3)).toNatClampNeg w2_16) (fun I18 => (f_X11_turns_L66 n x0 x2 (x3 + (1 : Int32)) I18 R))) else none)) (fun j99_16 => (if (I x0 24) ≤ x3 then (j99_16 (0 : Int32)) else (if inb x3 (lnM (R x0 23)) = true then (j99_16 (I (R x0 23) x3.toNatClampNeg)) else none)))))

def f_X11_turns (x0 : Nat) (x1 : Int32) (I : mI) (R : mR) : Option (Int32 × mI) :=
  (bd1 (f_X11_in x1 (0 : Int32) (30 : Int32) ) (fun r1 => (if r1 = 0 then (bd2 (f_X11_refuses x0 (-2 : Int32) I R) (fun r23 I23 => (some (r23, I23)))) else (bd1 (f_X11_remembers x0 I R) (fun I3 => (bd1 (f_X11_laysTerm x0 I3 R) (fun I4 => (bd2 (f_X11_turns_L27 FU x0 x1 (0 : Int32) I4 R) (fun y2_10 I_10 => (if inb (131 : Int32) (lnM (R x0 0)) = true then (bnd (u2 I_10 (R x0 0) ((131 : Int32)).toNatClampNeg (I_10 x0 24)) (fun I13 => (bd1 (f_X11_turns_L66 FU x0 y2_10 (0 : Int32) I13 R) (fun I_22 => (some (y2_10, I_22)))))) else none))))))))))

def f_X11_settled_L6 : Nat → Nat → Int32 → mI → mR → Option ((Int32 × mI) ⊕ (mI))
  | 0, _, _, _, _ => none
  | n + 1, x0, x1, I, R =>
  (if (30 : Int32) < x1 then (some (Sum.inr I)) else (bd2 (f_X11_findsTurn x0 I R) (fun r3 I3 => (if r3 = 0 then (some (Sum.inl (x1, I3))) else (if x1 = (30 : Int32) then (some (Sum.inl ((-1 : Int32), I3))) else (bd2 (f_X11_doesTurn x0 I3 R) (fun r6 I6 => (if r6 = 0 then (some (Sum.inl ((-1 : Int32), I6))) else (f_X11_settled_L6 n x0 (x1 + (1 : Int32)) I6 R)))))))))

def f_X11_settled (x0 : Nat) (I : mI) (R : mR) : Option (Int32 × mI) :=
  (bd1 (f_X11_laysTerm x0 I R) (fun I1 => (bdS (f_X11_settled_L6 FU x0 (0 : Int32) I1 R) (un2 (fun r_8 I_8 => some (r_8, I_8))) (un1 (fun I_8 => (some ((-1 : Int32), I_8)))))))

def f_X11_settles (x0 : Nat) (I : mI) (R : mR) : Option (Int32 × mI) :=
  (bd2 (f_X11_settled x0 I R) (fun r1 I1 => (some (r1, I1))))

def f_X11_nextOf (x0 : Nat) (x1 : Int32) (I : mI) (R : mR) : Option (Int32 × mI) :=
  (bd1 (f_X11_laysTerm x0 I R) (fun I1 => (bd2 (f_X11_findsTurn x0 I1 R) (fun r2 I2 => (if r2 = 0 then (some ((-1 : Int32), I2)) else (if x1 = 0 then (some ((I2 x0 28), I2)) else (some ((I2 x0 29), I2))))))))

def f_X11_next (x0 : Nat) (x1 : Int32) (I : mI) (R : mR) : Option (Int32 × mI) :=
  (bd1 (f_X11_in x1 (0 : Int32) (1 : Int32) ) (fun r1 => (if r1 = 0 then (bd2 (f_X11_refuses x0 (-2 : Int32) I R) (fun r3 I3 => (some (r3, I3)))) else (bd2 (f_X11_nextOf x0 x1 I R) (fun r4 I4 => (some (r4, I4)))))))

def f_X11_letter (x0 : Nat) (x1 : Int32) (I : mI) (R : mR) : Option (Int32 × mI) :=
  (if (-1 : Int32) ≤ x1 then (if x1 = (-1 : Int32) then (if inb (131 : Int32) (lnM (R x0 0)) = true then (some ((I (R x0 0) ((131 : Int32)).toNatClampNeg), I)) else none) else (if inb (131 : Int32) (lnM (R x0 0)) = true then (if (I (R x0 0) ((131 : Int32)).toNatClampNeg) ≤ x1 then (some ((-5 : Int32), I)) else (if inb ((132 : Int32) + x1) (lnM (R x0 0)) = true then (some ((I (R x0 0) (((132 : Int32) + x1)).toNatClampNeg), I)) else none)) else none)) else (bd2 (f_X11_refuses x0 (-2 : Int32) I R) (fun r9 I9 => (some (r9, I9)))))

def f_X11_toldOf (x0 : Nat) (x1 : Int32) (I : mI) (R : mR) : Option (Int32) :=
  (if x1 = (3 : Int32) then (some (I x0 6)) else (if x1 = (4 : Int32) then (if inb (0 : Int32) (lnM (R x0 0)) = true then (some (I (R x0 0) ((0 : Int32)).toNatClampNeg)) else none) else (if x1 = (5 : Int32) then (if inb (131 : Int32) (lnM (R x0 0)) = true then (some (I (R x0 0) ((131 : Int32)).toNatClampNeg)) else none) else (if x1 = (6 : Int32) then (some (I x0 3)) else (if inb x1 (lnM (R x0 4)) = true then (some (I (R x0 4) x1.toNatClampNeg)) else none)))))

def f_X11_told (x0 : Nat) (x1 : Int32) (I : mI) (R : mR) : Option (Int32 × mI) :=
  (bd1 (f_X11_in x1 (0 : Int32) (6 : Int32) ) (fun r1 => (if r1 = 0 then (bd2 (f_X11_refuses x0 (-2 : Int32) I R) (fun r3 I3 => (some (r3, I3)))) else (bd1 (f_X11_toldOf x0 x1 I R) (fun r4 => (some (r4, I)))))))

def f_X11_mix (x0 : Nat) (x1 : Int64) (L : mL) : Option (mL) :=
  (bnd (u2 L x0 31 (((31 : Int64) * (L x0 31)) + x1)) (fun L1 => (some L1)))

def f_X11_digest_L9 : Nat → Nat → Int32 → mI → mL → mR → Option (mL)
  | 0, _, _, _, _, _ => none
  | n + 1, x0, x1, I, L, R =>
  (if (7 : Int32) ≤ x1 then (some L) else (bd1 (f_X11_toldOf x0 x1 I R) (fun r3 => (bd1 (f_X11_mix x0 ((r3).toInt64) L) (fun L4 => (f_X11_digest_L9 n x0 (x1 + (1 : Int32)) I L4 R))))))

def f_X11_digest_L45 : Nat → Nat → Int32 → Int32 → mI → mL → mR → Option (mL)
  | 0, _, _, _, _, _, _ => none
  | n + 1, x0, x1, x2, I, L, R =>
  (if (6 : Int32) ≤ x2 then (some L) else (bd1 (f_X11_ruleTold x0 x1 x2 I R) (fun r10 => (bd1 (f_X11_mix x0 ((r10).toInt64) L) (fun L11 => (f_X11_digest_L45 n x0 x1 (x2 + (1 : Int32)) I L11 R))))))

def f_X11_digest_L33 : Nat → Nat → Int32 → mI → mL → mR → Option (mI × mL)
  | 0, _, _, _, _, _ => none
  | n + 1, x0, x1, I, L, R =>
  (if inb (0 : Int32) (lnM (R x0 0)) = true then (if (I (R x0 0) ((0 : Int32)).toNatClampNeg) ≤ x1 then (some (I, L)) else (bd1 (f_X11_digest_L45 FU x0 x1 (0 : Int32) I L R) (fun L_12 => (bd2 (f_X11_laysFigures x0 (1111111 : Int32) (3 : Int32) I R) (fun r13 I13 => (bd2 (f_X11_comparesRule x0 x1 I13 L_12 R) (fun r14 L14 => (bd1 (f_X11_mix x0 ((r14).toInt64) L14) (fun L15 => (f_X11_digest_L33 n x0 (x1 + (1 : Int32)) I13 L15 R)))))))))) else none)

def f_X11_digest_L95 : Nat → Nat → Int32 → mI → mL → mR → Option (mL)
  | 0, _, _, _, _, _ => none
  | n + 1, x0, x1, I, L, R =>
  (if inb (131 : Int32) (lnM (R x0 0)) = true then (if (I (R x0 0) ((131 : Int32)).toNatClampNeg) ≤ x1 then (some L) else (if inb ((132 : Int32) + x1) (lnM (R x0 0)) = true then (bd1 (f_X11_mix x0 (((I (R x0 0) (((132 : Int32) + x1)).toNatClampNeg)).toInt64) L) (fun L21 => (f_X11_digest_L95 n x0 (x1 + (1 : Int32)) I L21 R))) else none)) else none)

def f_X11_digest_L143 : Nat → Nat → Int32 → mI → mL → mR → Option (mI × mL)
  | 0, _, _, _, _, _ => none
  | n + 1, x0, x1, I, L, R =>
  (if (3 : Int32) ≤ x1 then (some (I, L)) else (bd3 (f_X11_callsTold x0 x1 I L R) (fun r27 I27 L27 => (bd1 (f_X11_mix x0 ((r27).toInt64) L27) (fun L28 => (f_X11_digest_L143 n x0 (x1 + (1 : Int32)) I27 L28 R))))))

def f_X11_digest_L176 : Nat → Nat → Int32 → Int32 → mI → mL → mR → Option (mL)
  | 0, _, _, _, _, _, _ => none
  | n + 1, x0, x1, x2, I, L, R =>
  (if (4 : Int32) ≤ x2 then (some L) else (bd1 (f_X11_callTold x0 x1 x2 I R) (fun r32 => (bd1 (f_X11_mix x0 ((r32).toInt64) L) (fun L33 => (f_X11_digest_L176 n x0 x1 (x2 + (1 : Int32)) I L33 R))))))

def f_X11_digest_L166 : Nat → Nat → Int32 → mI → mL → mR → Option (mL)
  | 0, _, _, _, _, _ => none
  | n + 1, x0, x1, I, L, R =>
  (if (I x0 18) ≤ x1 then (some L) else (bd1 (f_X11_digest_L176 FU x0 x1 (0 : Int32) I L R) (fun L_34 => (f_X11_digest_L166 n x0 (x1 + (1 : Int32)) I L_34 R))))

def f_X11_digest (x0 : Nat) (I : mI) (L : mL) (R : mR) : Option (Int64 × mI × mL) :=
  (bnd (u2 L x0 31 (2609 : Int64)) (fun L1 => (bd1 (f_X11_digest_L9 FU x0 (0 : Int32) I L1 R) (fun L_5 => (bd2 (f_X11_digest_L33 FU x0 (0 : Int32) I L_5 R) (fun I_16 L_16 => (bd1 (f_X11_digest_L95 FU x0 (0 : Int32) I_16 L_16 R) (fun L_22 => (bd3 (f_X11_fall x0 I_16 L_22 R) (fun r23 I23 L23 => (bd1 (f_X11_mix x0 ((r23).toInt64) L23) (fun L24 => (bd1 (f_X11_laysCalls x0 I23 R) (fun I25 => (bd2 (f_X11_digest_L143 FU x0 (0 : Int32) I25 L24 R) (fun I_29 L_29 => (bd1 (f_X11_digest_L166 FU x0 (0 : Int32) I_29 L_29 R) (fun L_35 => (bd2 (f_X11_settled x0 I_29 R) (fun r36 I36 => (bd1 (f_X11_mix x0 ((r36).toInt64) L_35) (fun L37 => (bd2 (f_X11_nextOf x0 (0 : Int32) I36 R) (fun r38 I38 => (bd1 (f_X11_mix x0 ((r38).toInt64) L37) (fun L39 => (bd2 (f_X11_nextOf x0 (1 : Int32) I38 R) (fun r40 I40 => (bd1 (f_X11_mix x0 ((r40).toInt64) L39) (fun L41 => (some ((L41 x0 31), I40, L41))))))))))))))))))))))))))))))))

def f_X8_startAs (x0 : Nat) (x1 : Int32) (I : mI) (R : mR) : Option (mI) :=
  (bnd (u2 I x0 2 (0 : Int32)) (fun I1 => (bd1 (f_X8_addLetter x0 x1 I1 R) (fun I2 => (bd1 (f_X8_findEnds x0 I2 R) (fun I3 => (some I3)))))))

