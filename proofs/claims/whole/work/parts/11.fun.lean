def fX3_part (σ : qM) (o : Nat) (x1 : Int32) (x2 : Int32) : Option (Int32 × qM) :=
  if qin ((x1 * (σ o 1)) + x2) (lnC (o + 2)) then some ((σ (o + 2) ((x1 * (σ o 1)) + x2).toNatClampNeg), σ) else none
def bX0_sortRules_9 (k2 : qM → Int32 → Option qM) (k9 : qM → Int32 → Int32 → Option qM) (σ : qM) (x1 : Int32) (x2 : Int32) : Option qM :=
  if (9 : Int32) ≤ x2 then (k2 σ (x1 + (1 : Int32)))
  else (if qin x1 4 then if qin x2 9 then k9 (qup σ (36 + x1.toNatClampNeg) x2.toNatClampNeg (0 : Int32)) x1 (x2 + (1 : Int32)) else none else none)
def fX0_sortRules_9 (k2 : qM → Int32 → Option qM) : qM → Int32 → Int32 → Option qM := qlp (fun _ _ _ => none) (bX0_sortRules_9 k2) qFU
def fX0_sortRules_71 (k38 : qM → Int32 → Option qM) (σ : qM) (x1 : Int32) (x2 : Int32) : Option qM :=
  (fX3_part σ 4 x1 (1 : Int32)).bind fun q1 => if qin q1.1 4 then if qin x2 9 then if qin x2 9 then k38 (qup q1.2 (36 + q1.1.toNatClampNeg) x2.toNatClampNeg ((q1.2 (36 + q1.1.toNatClampNeg) x2.toNatClampNeg) ||| (jshl (1 : Int32) x1))) (x1 + (1 : Int32)) else none else none else none
def bX0_sortRules_38 (k38 : qM → Int32 → Option qM) (σ : qM) (x1 : Int32) : Option qM :=
  if (σ 4 5) ≤ x1 then (some σ)
  else ((fX3_part σ 4 x1 (0 : Int32)).bind fun q2 => (fX3_part q2.2 4 x1 (2 : Int32)).bind fun q3 => fX0_sortRules_71 k38 q3.2 x1 (((3 : Int32) * q2.1) + q3.1))
def fX0_sortRules_38  : qM → Int32 → Option qM := qlp (fun _ _ => none) (bX0_sortRules_38 ) qFU
def bX0_sortRules_2 (k2 : qM → Int32 → Option qM) (σ : qM) (x1 : Int32) : Option qM :=
  if (4 : Int32) ≤ x1 then (fX0_sortRules_38 σ (0 : Int32))
  else (fX0_sortRules_9 k2 σ x1 (0 : Int32))
def fX0_sortRules_2  : qM → Int32 → Option qM := qlp (fun _ _ => none) (bX0_sortRules_2 ) qFU
def fX0_sortRules (σ : qM)  : Option qM :=
  fX0_sortRules_2 σ (0 : Int32)
def fX0_readRules_100 (k9 : qM → Int32 → Option qM) (k59 : qM → Int32 → Int32 → Int32 → Int32 → Int32 → Option qM) (σ : qM) (x1 : Int32) (x2 : Int32) (x3 : Int32) (x4 : Int32) (x5 : Int32) (t0 : Int32) (t1 : Int32) : Option qM :=
  if qin t1 1024 then k59 (qup σ 40 t1.toNatClampNeg t0) x1 x2 x3 x4 (x5 + (1 : Int32)) else none
def fX0_readRules_74 (k9 : qM → Int32 → Option qM) (k59 : qM → Int32 → Int32 → Int32 → Int32 → Int32 → Option qM) (σ : qM) (x1 : Int32) (x2 : Int32) (x3 : Int32) (x4 : Int32) (x5 : Int32) (x6 : Int32) : Option qM :=
  if x4 = 0 then (fX0_readRules_100 k9 k59 σ x1 x2 x3 x4 x5 (x6 &&& (x3 ^^^ (-1 : Int32))) (x2 ||| x5))
  else (fX0_readRules_100 k9 k59 σ x1 x2 x3 x4 x5 (x6 ||| x3) (x2 ||| x5))
def bX0_readRules_59 (k9 : qM → Int32 → Option qM) (k59 : qM → Int32 → Int32 → Int32 → Int32 → Int32 → Option qM) (σ : qM) (x1 : Int32) (x2 : Int32) (x3 : Int32) (x4 : Int32) (x5 : Int32) : Option qM :=
  if x2 ≤ x5 then (k9 σ (x1 + (1 : Int32)))
  else (if qin x5 1024 then fX0_readRules_74 k9 k59 σ x1 x2 x3 x4 x5 (σ 40 x5.toNatClampNeg) else none)
def fX0_readRules_59 (k9 : qM → Int32 → Option qM) : qM → Int32 → Int32 → Int32 → Int32 → Int32 → Option qM := qlp (fun _ _ _ _ _ _ => none) (bX0_readRules_59 k9) qFU
def fX0_readRules_54 (k9 : qM → Int32 → Option qM) (σ : qM) (x1 : Int32) (x2 : Int32) (x3 : Int32) (t0 : Int32) : Option qM :=
  fX0_readRules_59 k9 σ x1 x2 x3 t0 (0 : Int32)
def fX0_readRules_36 (k9 : qM → Int32 → Option qM) (σ : qM) (x1 : Int32) (x2 : Int32) (x3 : Int32) : Option qM :=
  (fX3_part σ 4 x1 (3 : Int32)).bind fun q1 => if q1.1 = (1 : Int32) then (fX0_readRules_54 k9 q1.2 x1 x2 x3 (1 : Int32))
  else (fX0_readRules_54 k9 q1.2 x1 x2 x3 (0 : Int32))
def fX0_readRules_24 (k9 : qM → Int32 → Option qM) (σ : qM) (x1 : Int32) (x2 : Int32) : Option qM :=
  (fX3_part σ 4 x1 (4 : Int32)).bind fun q1 => fX0_readRules_36 k9 q1.2 x1 x2 (jshl (1 : Int32) q1.1)
def bX0_readRules_9 (k9 : qM → Int32 → Option qM) (σ : qM) (x1 : Int32) : Option qM :=
  if (σ 4 5) ≤ x1 then (some σ)
  else (fX0_readRules_24 k9 σ x1 (jshl (1 : Int32) x1))
def fX0_readRules_9  : qM → Int32 → Option qM := qlp (fun _ _ => none) (bX0_readRules_9 ) qFU
def fX0_readRules (σ : qM)  : Option qM :=
  fX0_readRules_9 (qup σ 40 (0 : Int32).toNatClampNeg (0 : Int32)) (0 : Int32)
def fX0_isCracked_41 (k2 : qM → Int32 → Int32 → Int32 → Option (Int32 × qM)) (σ : qM) (x1 : Int32) (x2 : Int32) (x3 : Int32) : Option (Int32 × qM) :=
  k2 σ x1 x2 (x3 + (1 : Int32))
def bX0_isCracked_2 (k2 : qM → Int32 → Int32 → Int32 → Option (Int32 × qM)) (σ : qM) (x1 : Int32) (x2 : Int32) (x3 : Int32) : Option (Int32 × qM) :=
  if (σ 7 2) ≤ x3 then (some ((0 : Int32), σ))
  else (if qin x3 8 then if (σ 8 x3.toNatClampNeg) = x1 then (if qin x3 8 then if (σ 9 x3.toNatClampNeg) = x2 then (some ((1 : Int32), σ))
  else (fX0_isCracked_41 k2 σ x1 x2 x3) else none)
  else (fX0_isCracked_41 k2 σ x1 x2 x3) else none)
def fX0_isCracked_2  : qM → Int32 → Int32 → Int32 → Option (Int32 × qM) := qlp (fun _ _ _ _ => none) (bX0_isCracked_2 ) qFU
def fX0_isCracked (σ : qM) (x1 : Int32) (x2 : Int32) : Option (Int32 × qM) :=
  fX0_isCracked_2 σ x1 x2 (0 : Int32)
def fX0_layLeaves_58 (k9 : qM → Int32 → Int32 → Option qM) (k44 : qM → Int32 → Int32 → Int32 → Int32 → Int32 → Option qM) (σ : qM) (x1 : Int32) (x2 : Int32) (x3 : Int32) (x5 : Int32) (x6 : Int32) : Option qM :=
  k44 σ x1 x2 x3 x6 (x5 + (1 : Int32))
def fX0_layLeaves_109 (k9 : qM → Int32 → Int32 → Option qM) (σ : qM) (x1 : Int32) (x2 : Int32) : Option qM :=
  k9 σ x1 (x2 + (1 : Int32))
def fX0_layLeaves_87 (k9 : qM → Int32 → Int32 → Option qM) (σ : qM) (x1 : Int32) (x2 : Int32) (x3 : Int32) (x4 : Int32) : Option qM :=
  (fX0_isCracked σ x3 x4).bind fun q1 => if q1.1 = 0 then (if qin x1 4 then if qin x1 4 then fX0_layLeaves_109 k9 (qup q1.2 27 x1.toNatClampNeg ((q1.2 27 x1.toNatClampNeg) ||| (jshl (1 : Int32) x2))) x1 x2 else none else none)
  else (fX0_layLeaves_109 k9 q1.2 x1 x2)
def fX0_layLeaves_77 (k9 : qM → Int32 → Int32 → Option qM) (σ : qM) (x1 : Int32) (x2 : Int32) (x3 : Int32) (x4 : Int32) : Option qM :=
  if qin x1 4 then if qin x2 12 then fX0_layLeaves_87 k9 (qup σ (23 + x1.toNatClampNeg) x2.toNatClampNeg x4) x1 x2 x3 x4 else none else none
def bX0_layLeaves_44 (k9 : qM → Int32 → Int32 → Option qM) (k44 : qM → Int32 → Int32 → Int32 → Int32 → Int32 → Option qM) (σ : qM) (x1 : Int32) (x2 : Int32) (x3 : Int32) (x4 : Int32) (x5 : Int32) : Option qM :=
  if x1 ≤ x5 then (if qin x1 4 then if qin x2 12 then fX0_layLeaves_77 k9 (qup σ (18 + x1.toNatClampNeg) x2.toNatClampNeg x3) x1 x2 x3 x4 else none else none)
  else (fX0_layLeaves_58 k9 k44 σ x1 x2 ((5 : Int32) - x4) x5 x3)
def fX0_layLeaves_44 (k9 : qM → Int32 → Int32 → Option qM) : qM → Int32 → Int32 → Int32 → Int32 → Int32 → Option qM := qlp (fun _ _ _ _ _ _ => none) (bX0_layLeaves_44 k9) qFU
def bX0_layLeaves_9 (k9 : qM → Int32 → Int32 → Option qM) (σ : qM) (x1 : Int32) (x2 : Int32) : Option qM :=
  if (σ 1 5) ≤ x2 then (some σ)
  else ((fX3_part σ 1 x2 (0 : Int32)).bind fun q2 => (fX3_part q2.2 1 x2 (1 : Int32)).bind fun q3 => fX0_layLeaves_44 k9 q3.2 x1 x2 q2.1 q3.1 (0 : Int32))
def fX0_layLeaves_9  : qM → Int32 → Int32 → Option qM := qlp (fun _ _ _ => none) (bX0_layLeaves_9 ) qFU
def fX0_layLeaves (σ : qM) (x1 : Int32) : Option qM :=
  if qin x1 4 then fX0_layLeaves_9 (qup σ 27 x1.toNatClampNeg (0 : Int32)) x1 (0 : Int32) else none
def fX0_counts (σ : qM) (x1 : Int32) (x2 : Int32) : Option (Int32 × qM) :=
  if qin x1 4 then if ((jshr (σ 27 x1.toNatClampNeg) x2) &&& (1 : Int32)) = (1 : Int32) then (some ((1 : Int32), σ))
  else (some ((0 : Int32), σ)) else none
def fJ9_abs_0f7a4 (σ : qM) (x0 : Int32) : Option (Int32 × qM) :=
  if 0 ≤ x0 then (some (x0, σ))
  else (some ((-x0), σ))
def fJ9_max_7cf53 (σ : qM) (x0 : Int32) (x1 : Int32) : Option (Int32 × qM) :=
  if x0 < x1 then (some (x1, σ))
  else (some (x0, σ))
def fX0_madeInOrder_75(σ : qM) (x6 : Int32) : Option (Int32 × qM) :=
  some (x6, σ)
def fX0_madeInOrder_56(σ : qM) (x3 : Int32) (x5 : Int32) (x6 : Int32) : Option (Int32 × qM) :=
  if x3 < (3 : Int32) then (fX0_madeInOrder_75 σ x6)
  else (if qin x5 9 then fX0_madeInOrder_75 σ (x6 ||| (σ (36 + (2 : Int32).toNatClampNeg) x5.toNatClampNeg)) else none)
def fX0_madeInOrder_37(σ : qM) (x3 : Int32) (x4 : Int32) (x5 : Int32) (x6 : Int32) : Option (Int32 × qM) :=
  if x4 = 0 then (fX0_madeInOrder_56 σ x3 x5 x6)
  else (if qin x5 9 then fX0_madeInOrder_56 σ x3 x5 (x6 ||| (σ (36 + (1 : Int32).toNatClampNeg) x5.toNatClampNeg)) else none)
def fX0_madeInOrder_18(σ : qM) (x3 : Int32) (x4 : Int32) (x5 : Int32) (x6 : Int32) : Option (Int32 × qM) :=
  if (1 : Int32) < x3 then (fX0_madeInOrder_37 σ x3 x4 x5 x6)
  else (if qin x5 9 then fX0_madeInOrder_37 σ x3 x4 x5 (x6 ||| (σ (36 + (0 : Int32).toNatClampNeg) x5.toNatClampNeg)) else none)
def fX0_madeInOrder_7(σ : qM) (x3 : Int32) (x4 : Int32) (x5 : Int32) : Option (Int32 × qM) :=
  if qin x5 9 then fX0_madeInOrder_18 σ x3 x4 x5 (σ (36 + (3 : Int32).toNatClampNeg) x5.toNatClampNeg) else none
def fX0_madeInOrder (σ : qM) (x1 : Int32) (x2 : Int32) (x3 : Int32) (x4 : Int32) : Option (Int32 × qM) :=
  fX0_madeInOrder_7 σ x3 x4 (((3 : Int32) * x1) + x2)
def fX0_madeWith_108(σ : qM) (t0 : Int32) (t1 : Int32) (t2 : Int32) (t3 : Int32) (t5 : Int32) : Option (Int32 × qM) :=
  (fX0_madeInOrder σ t3 t2 t1 t0).bind fun q1 => some ((t5 ||| q1.1), q1.2)
def fX0_madeWith_107(σ : qM) (t0 : Int32) (t1 : Int32) (t2 : Int32) (t4 : Int32) : Option (Int32 × qM) :=
  fX0_madeWith_108 σ (0 : Int32) t0 t1 t2 t4
def fX0_madeWith_84(σ : qM) (x3 : Int32) (x6 : Int32) (x7 : Int32) (x8 : Int32) (x9 : Int32) (t0 : Int32) (t1 : Int32) (t2 : Int32) (t3 : Int32) : Option (Int32 × qM) :=
  (fX0_madeInOrder σ t3 t2 t1 t0).bind fun q1 => if x7 = 0 then (if 0 ≤ x8 then (fX0_madeWith_107 q1.2 x9 x6 x3 q1.1)
  else (fX0_madeWith_108 q1.2 (1 : Int32) x9 x6 x3 q1.1))
  else (fX0_madeWith_107 q1.2 x9 x6 x3 q1.1)
def fX0_madeWith_83(σ : qM) (x3 : Int32) (x6 : Int32) (x7 : Int32) (x8 : Int32) (x9 : Int32) (t0 : Int32) (t1 : Int32) (t2 : Int32) : Option (Int32 × qM) :=
  fX0_madeWith_84 σ x3 x6 x7 x8 x9 (0 : Int32) t0 t1 t2
def fX0_madeWith_51(σ : qM) (x3 : Int32) (x6 : Int32) (x7 : Int32) (x8 : Int32) : Option (Int32 × qM) :=
  (fJ9_abs_0f7a4 σ x8).bind fun q1 => (fJ9_max_7cf53 q1.2 x7 q1.1).bind fun q2 => if x7 = 0 then (if x8 ≤ 0 then (fX0_madeWith_83 q2.2 x3 x6 x7 x8 q2.1 q2.1 x3 x6)
  else (fX0_madeWith_84 q2.2 x3 x6 x7 x8 q2.1 (1 : Int32) q2.1 x3 x6))
  else (fX0_madeWith_83 q2.2 x3 x6 x7 x8 q2.1 q2.1 x3 x6)
def fX0_madeWith (σ : qM) (x1 : Int32) (x2 : Int32) (x3 : Int32) (x4 : Int32) (x5 : Int32) : Option (Int32 × qM) :=
  (fX0_counts σ x1 x2).bind fun q1 => if q1.1 = 0 then (some ((0 : Int32), q1.2))
  else ((fX3_part q1.2 1 x2 (2 : Int32)).bind fun q3 => if qin x1 4 then if qin x2 12 then (fJ9_abs_0f7a4 q3.2 (x4 - (q3.2 (18 + x1.toNatClampNeg) x2.toNatClampNeg))).bind fun q6 => if qin x1 4 then if qin x2 12 then fX0_madeWith_51 q6.2 x3 q3.1 q6.1 (x5 - (q6.2 (23 + x1.toNatClampNeg) x2.toNatClampNeg)) else none else none else none else none)
def fX0_pairLeaves_110 (k9 : qM → Int32 → Int32 → Option qM) (k55 : qM → Int32 → Int32 → Int32 → Int32 → Int32 → Int32 → Option qM) (σ : qM) (x1 : Int32) (x2 : Int32) (x3 : Int32) (x4 : Int32) (x5 : Int32) (x6 : Int32) (x7 : Int32) : Option qM :=
  if qin x1 4 then if qin x1 4 then k55 (qup σ 28 x1.toNatClampNeg ((σ 28 x1.toNatClampNeg) ||| x7)) x1 x2 x3 x4 x5 (x6 + (1 : Int32)) else none else none
def fX0_pairLeaves_92 (k9 : qM → Int32 → Int32 → Option qM) (k55 : qM → Int32 → Int32 → Int32 → Int32 → Int32 → Int32 → Option qM) (σ : qM) (x1 : Int32) (x2 : Int32) (x3 : Int32) (x4 : Int32) (x5 : Int32) (x6 : Int32) (t0 : Int32) : Option qM :=
  if qin x1 4 then if qin ((x2 * (12 : Int32)) + x6) 144 then fX0_pairLeaves_110 k9 k55 (qup σ (31 + x1.toNatClampNeg) ((x2 * (12 : Int32)) + x6).toNatClampNeg t0) x1 x2 x3 x4 x5 x6 t0 else none else none
def bX0_pairLeaves_55 (k9 : qM → Int32 → Int32 → Option qM) (k55 : qM → Int32 → Int32 → Int32 → Int32 → Int32 → Int32 → Option qM) (σ : qM) (x1 : Int32) (x2 : Int32) (x3 : Int32) (x4 : Int32) (x5 : Int32) (x6 : Int32) : Option qM :=
  if (σ 1 5) ≤ x6 then (k9 σ x1 (x2 + (1 : Int32)))
  else ((fX0_counts σ x1 x2).bind fun q2 => if q2.1 = 0 then (fX0_pairLeaves_92 k9 k55 q2.2 x1 x2 x3 x4 x5 x6 (0 : Int32))
  else ((fX0_madeWith q2.2 x1 x6 x3 x4 x5).bind fun q4 => fX0_pairLeaves_92 k9 k55 q4.2 x1 x2 x3 x4 x5 x6 q4.1))
def fX0_pairLeaves_55 (k9 : qM → Int32 → Int32 → Option qM) : qM → Int32 → Int32 → Int32 → Int32 → Int32 → Int32 → Option qM := qlp (fun _ _ _ _ _ _ _ => none) (bX0_pairLeaves_55 k9) qFU
def bX0_pairLeaves_9 (k9 : qM → Int32 → Int32 → Option qM) (σ : qM) (x1 : Int32) (x2 : Int32) : Option qM :=
  if (σ 1 5) ≤ x2 then (some σ)
  else ((fX3_part σ 1 x2 (2 : Int32)).bind fun q2 => if qin x1 4 then if qin x2 12 then if qin x1 4 then if qin x2 12 then fX0_pairLeaves_55 k9 q2.2 x1 x2 q2.1 (q2.2 (18 + x1.toNatClampNeg) x2.toNatClampNeg) (q2.2 (23 + x1.toNatClampNeg) x2.toNatClampNeg) (x2 + (1 : Int32)) else none else none else none else none)
def fX0_pairLeaves_9  : qM → Int32 → Int32 → Option qM := qlp (fun _ _ _ => none) (bX0_pairLeaves_9 ) qFU
def fX0_pairLeaves (σ : qM) (x1 : Int32) : Option qM :=
  if qin x1 4 then fX0_pairLeaves_9 (qup σ 28 x1.toNatClampNeg (0 : Int32)) x1 (0 : Int32) else none
def bX0_settled_29 (k29 : qM → Int32 → Option qM) (σ : qM) (x1 : Int32) : Option qM :=
  if (4 : Int32) ≤ x1 then (some σ)
  else ((fX0_layLeaves σ x1).bind fun q2 => (fX0_pairLeaves q2 x1).bind fun q3 => if qin x1 4 then if qin (q3 28 x1.toNatClampNeg) 1024 then if qin x1 4 then k29 (qup q3 29 x1.toNatClampNeg (q3 40 (q3 28 x1.toNatClampNeg).toNatClampNeg)) (x1 + (1 : Int32)) else none else none else none)
def fX0_settled_29  : qM → Int32 → Option qM := qlp (fun _ _ => none) (bX0_settled_29 ) qFU
def fX0_settled_19(σ : qM)  : Option qM :=
  (fX0_sortRules σ).bind fun q1 => (fX0_readRules q1).bind fun q2 => fX0_settled_29 q2 (0 : Int32)
def fX0_settled_14(σ : qM)  : Option qM :=
  fX0_settled_19 (qup σ 16 12 (-1 : Int32))
def fX0_settled (σ : qM)  : Option qM :=
  if (σ 16 14) = 0 then (some σ)
  else (fX0_settled_14 (qup σ 16 14 (0 : Int32)))
def fX0_isInForce (σ : qM) (x1 : Int32) (x2 : Int32) : Option (Int32 × qM) :=
  if qin x1 4 then if ((jshr (σ 29 x1.toNatClampNeg) x2) &&& (1 : Int32)) = (1 : Int32) then (some ((1 : Int32), σ))
  else (some ((0 : Int32), σ)) else none
def fX0_applies (σ : qM) (x1 : Int32) (x2 : Int32) : Option (Int32 × qM) :=
  if qin x1 4 then if ((jshr (σ 28 x1.toNatClampNeg) x2) &&& (1 : Int32)) = (1 : Int32) then (some ((1 : Int32), σ))
  else (some ((0 : Int32), σ)) else none
def fX0_alike (σ : qM) (x1 : Int32) (x2 : Int32) (x3 : Int32) : Option (Int32 × qM) :=
  (fX3_part σ 4 x1 x3).bind fun q1 => (fX3_part q1.2 4 x2 x3).bind fun q2 => if q1.1 = q2.1 then (some ((1 : Int32), q2.2))
  else (some ((0 : Int32), q2.2))
def fX0_contradictsEarlier_38 (k2 : qM → Int32 → Int32 → Int32 → Option (Int32 × qM)) (σ : qM) (x1 : Int32) (x2 : Int32) (x3 : Int32) : Option (Int32 × qM) :=
  k2 σ x1 x2 (x3 + (1 : Int32))
def bX0_contradictsEarlier_2 (k2 : qM → Int32 → Int32 → Int32 → Option (Int32 × qM)) (σ : qM) (x1 : Int32) (x2 : Int32) (x3 : Int32) : Option (Int32 × qM) :=
  if x2 ≤ x3 then (some ((0 : Int32), σ))
  else ((fX0_applies σ x1 x3).bind fun q2 => if q2.1 = 0 then (fX0_contradictsEarlier_38 k2 q2.2 x1 x2 x3)
  else ((fX0_alike q2.2 x3 x2 (4 : Int32)).bind fun q4 => if q4.1 = 0 then (fX0_contradictsEarlier_38 k2 q4.2 x1 x2 x3)
  else ((fX0_alike q4.2 x3 x2 (3 : Int32)).bind fun q6 => if q6.1 = 0 then (some ((1 : Int32), q6.2))
  else (fX0_contradictsEarlier_38 k2 q6.2 x1 x2 x3))))
def fX0_contradictsEarlier_2  : qM → Int32 → Int32 → Int32 → Option (Int32 × qM) := qlp (fun _ _ _ _ => none) (bX0_contradictsEarlier_2 ) qFU
def fX0_contradictsEarlier (σ : qM) (x1 : Int32) (x2 : Int32) : Option (Int32 × qM) :=
  fX0_contradictsEarlier_2 σ x1 x2 (0 : Int32)
def fX0_firstClash_33 (k2 : qM → Int32 → Int32 → Option (Int32 × qM)) (σ : qM) (x1 : Int32) (x2 : Int32) : Option (Int32 × qM) :=
  k2 σ x1 (x2 + (1 : Int32))
def bX0_firstClash_2 (k2 : qM → Int32 → Int32 → Option (Int32 × qM)) (σ : qM) (x1 : Int32) (x2 : Int32) : Option (Int32 × qM) :=
  if (σ 4 5) ≤ x2 then (some ((-1 : Int32), σ))
  else ((fX0_applies σ x1 x2).bind fun q2 => if q2.1 = 0 then (fX0_firstClash_33 k2 q2.2 x1 x2)
  else ((fX0_contradictsEarlier q2.2 x1 x2).bind fun q4 => if q4.1 = 0 then (fX0_firstClash_33 k2 q4.2 x1 x2)
  else (some (x2, q4.2))))
def fX0_firstClash_2  : qM → Int32 → Int32 → Option (Int32 × qM) := qlp (fun _ _ _ => none) (bX0_firstClash_2 ) qFU
def fX0_firstClash (σ : qM) (x1 : Int32) : Option (Int32 × qM) :=
  fX0_firstClash_2 σ x1 (0 : Int32)
def fJ6_numberOfTrailingZeros_0f7a4_74(σ : qM) (x0 : Int32) (x1 : Int32) : Option (Int32 × qM) :=
  some ((x1 + (jushr x0 (1 : Int32))), σ)
def fJ6_numberOfTrailingZeros_0f7a4_62(σ : qM) (x0 : Int32) (x1 : Int32) : Option (Int32 × qM) :=
  if x0 ≤ (4 : Int32) then (fJ6_numberOfTrailingZeros_0f7a4_74 σ x0 x1)
  else (fJ6_numberOfTrailingZeros_0f7a4_74 σ (jushr x0 (2 : Int32)) (x1 + (2 : Int32)))
def fJ6_numberOfTrailingZeros_0f7a4_49(σ : qM) (x0 : Int32) (x1 : Int32) : Option (Int32 × qM) :=
  if x0 ≤ (16 : Int32) then (fJ6_numberOfTrailingZeros_0f7a4_62 σ x0 x1)
  else (fJ6_numberOfTrailingZeros_0f7a4_62 σ (jushr x0 (4 : Int32)) (x1 + (4 : Int32)))
def fJ6_numberOfTrailingZeros_0f7a4_34(σ : qM) (x0 : Int32) (x1 : Int32) : Option (Int32 × qM) :=
  if x0 ≤ (256 : Int32) then (fJ6_numberOfTrailingZeros_0f7a4_49 σ x0 x1)
  else (fJ6_numberOfTrailingZeros_0f7a4_49 σ (jushr x0 (8 : Int32)) (x1 + (8 : Int32)))
def fJ6_numberOfTrailingZeros_0f7a4_8(σ : qM) (x0 : Int32) : Option (Int32 × qM) :=
  if 0 < x0 then (if x0 ≤ (65536 : Int32) then (fJ6_numberOfTrailingZeros_0f7a4_34 σ x0 (1 : Int32))
  else (fJ6_numberOfTrailingZeros_0f7a4_34 σ (jushr x0 (16 : Int32)) ((1 : Int32) + (16 : Int32))))
  else (some ((x0 &&& (32 : Int32)), σ))
def fJ6_numberOfTrailingZeros_0f7a4 (σ : qM) (x0 : Int32) : Option (Int32 × qM) :=
  fJ6_numberOfTrailingZeros_0f7a4_8 σ ((x0 ^^^ (-1 : Int32)) &&& (x0 - (1 : Int32)))
def fJ6_numberOfLeadingZeros_0f7a4_73(σ : qM) (x0 : Int32) (x1 : Int32) : Option (Int32 × qM) :=
  some ((x1 - (jushr x0 (1 : Int32))), σ)
def fJ6_numberOfLeadingZeros_0f7a4_61(σ : qM) (x0 : Int32) (x1 : Int32) : Option (Int32 × qM) :=
  if x0 < (4 : Int32) then (fJ6_numberOfLeadingZeros_0f7a4_73 σ x0 x1)
  else (fJ6_numberOfLeadingZeros_0f7a4_73 σ (jushr x0 (2 : Int32)) (x1 + (-2 : Int32)))
def fJ6_numberOfLeadingZeros_0f7a4_48(σ : qM) (x0 : Int32) (x1 : Int32) : Option (Int32 × qM) :=
  if x0 < (16 : Int32) then (fJ6_numberOfLeadingZeros_0f7a4_61 σ x0 x1)
  else (fJ6_numberOfLeadingZeros_0f7a4_61 σ (jushr x0 (4 : Int32)) (x1 + (-4 : Int32)))
def fJ6_numberOfLeadingZeros_0f7a4_33(σ : qM) (x0 : Int32) (x1 : Int32) : Option (Int32 × qM) :=
  if x0 < (256 : Int32) then (fJ6_numberOfLeadingZeros_0f7a4_48 σ x0 x1)
  else (fJ6_numberOfLeadingZeros_0f7a4_48 σ (jushr x0 (8 : Int32)) (x1 + (-8 : Int32)))
def fJ6_numberOfLeadingZeros_0f7a4 (σ : qM) (x0 : Int32) : Option (Int32 × qM) :=
  if 0 < x0 then (if x0 < (65536 : Int32) then (fJ6_numberOfLeadingZeros_0f7a4_33 σ x0 (31 : Int32))
  else (fJ6_numberOfLeadingZeros_0f7a4_33 σ (jushr x0 (16 : Int32)) ((31 : Int32) + (-16 : Int32))))
  else (if x0 = 0 then (some ((32 : Int32), σ))
  else (some ((0 : Int32), σ)))
def fX0_fillRulesByLeaves_112 (k33 : qM → Int32 → Int32 → Int32 → Option qM) (σ : qM) (x1 : Int32) (x2 : Int32) (x3 : Int32) (t0 : Int32) (t1 : Int32) : Option qM :=
  if qin t1 4096 then k33 (qup σ 41 t1.toNatClampNeg t0) x1 x2 (x3 + (1 : Int32)) else none
def fX0_fillRulesByLeaves_53 (k33 : qM → Int32 → Int32 → Int32 → Option qM) (σ : qM) (x1 : Int32) (x2 : Int32) (x3 : Int32) (x4 : Int32) (x5 : Int32) : Option qM :=
  if x4 = x5 then (fX0_fillRulesByLeaves_112 k33 σ x1 x2 x3 (0 : Int32) x3)
  else (if qin (x3 &&& ((jshl (1 : Int32) x4) ^^^ (-1 : Int32))) 4096 then if qin (x3 &&& ((jshl (1 : Int32) x5) ^^^ (-1 : Int32))) 4096 then if qin x1 4 then if qin ((x4 * (12 : Int32)) + x5) 144 then fX0_fillRulesByLeaves_112 k33 σ x1 x2 x3 (((σ 41 (x3 &&& ((jshl (1 : Int32) x4) ^^^ (-1 : Int32))).toNatClampNeg) ||| (σ 41 (x3 &&& ((jshl (1 : Int32) x5) ^^^ (-1 : Int32))).toNatClampNeg)) ||| (σ (31 + x1.toNatClampNeg) ((x4 * (12 : Int32)) + x5).toNatClampNeg)) x3 else none else none else none else none)
def bX0_fillRulesByLeaves_33 (k33 : qM → Int32 → Int32 → Int32 → Option qM) (σ : qM) (x1 : Int32) (x2 : Int32) (x3 : Int32) : Option qM :=
  if x2 ≤ x3 then (some σ)
  else ((fJ6_numberOfTrailingZeros_0f7a4 σ x3).bind fun q2 => (fJ6_numberOfLeadingZeros_0f7a4 q2.2 x3).bind fun q3 => fX0_fillRulesByLeaves_53 k33 q3.2 x1 x2 x3 q2.1 ((31 : Int32) - q3.1))
def fX0_fillRulesByLeaves_33  : qM → Int32 → Int32 → Int32 → Option qM := qlp (fun _ _ _ _ => none) (bX0_fillRulesByLeaves_33 ) qFU
def fX0_fillRulesByLeaves_21(σ : qM) (x1 : Int32) : Option qM :=
  fX0_fillRulesByLeaves_33 σ x1 (jshl (1 : Int32) (σ 1 5)) (1 : Int32)
def fX0_fillRulesByLeaves_14(σ : qM) (x1 : Int32) : Option qM :=
  fX0_fillRulesByLeaves_21 (qup σ 41 (0 : Int32).toNatClampNeg (0 : Int32)) x1
def fX0_fillRulesByLeaves (σ : qM) (x1 : Int32) : Option qM :=
  if (σ 16 12) = x1 then (some σ)
  else (fX0_fillRulesByLeaves_14 (qup σ 16 12 x1) x1)
def fJ6_bitCount_0f7a4_48(σ : qM) (x0 : Int32) : Option (Int32 × qM) :=
  some ((x0 &&& (63 : Int32)), σ)
def fJ6_bitCount_0f7a4_41(σ : qM) (x0 : Int32) : Option (Int32 × qM) :=
  fJ6_bitCount_0f7a4_48 σ (x0 + (jushr x0 (16 : Int32)))
def fJ6_bitCount_0f7a4_34(σ : qM) (x0 : Int32) : Option (Int32 × qM) :=
  fJ6_bitCount_0f7a4_41 σ (x0 + (jushr x0 (8 : Int32)))
def fJ6_bitCount_0f7a4_24(σ : qM) (x0 : Int32) : Option (Int32 × qM) :=
  fJ6_bitCount_0f7a4_34 σ ((x0 + (jushr x0 (4 : Int32))) &&& (252645135 : Int32))
def fJ6_bitCount_0f7a4_10(σ : qM) (x0 : Int32) : Option (Int32 × qM) :=
  fJ6_bitCount_0f7a4_24 σ ((x0 &&& (858993459 : Int32)) + ((jushr x0 (2 : Int32)) &&& (858993459 : Int32)))
def fJ6_bitCount_0f7a4 (σ : qM) (x0 : Int32) : Option (Int32 × qM) :=
  fJ6_bitCount_0f7a4_10 σ (x0 - ((jushr x0 (1 : Int32)) &&& (1431655765 : Int32)))
def fX0_fewestLeavesOut_82 (k28 : qM → Int32 → Int32 → Int32 → Int32 → Int32 → Int32 → Option (Int32 × qM)) (σ : qM) (x2 : Int32) (x3 : Int32) (x4 : Int32) (x5 : Int32) (x6 : Int32) (x7 : Int32) : Option (Int32 × qM) :=
  k28 σ x2 x3 x4 x5 x6 (x7 + (1 : Int32))
def bX0_fewestLeavesOut_28 (k28 : qM → Int32 → Int32 → Int32 → Int32 → Int32 → Int32 → Option (Int32 × qM)) (σ : qM) (x2 : Int32) (x3 : Int32) (x4 : Int32) (x5 : Int32) (x6 : Int32) (x7 : Int32) : Option (Int32 × qM) :=
  if x4 < x7 then (some (x5, σ))
  else ((fJ6_bitCount_0f7a4 σ x7).bind fun q2 => if x6 ≤ q2.1 then (fX0_fewestLeavesOut_82 k28 q2.2 x2 x3 x4 x5 x6 x7)
  else (if qin (x4 &&& (x7 ^^^ (-1 : Int32))) 4096 then if qin (q2.2 41 (x4 &&& (x7 ^^^ (-1 : Int32))).toNatClampNeg) 1024 then if ((q2.2 40 (q2.2 41 (x4 &&& (x7 ^^^ (-1 : Int32))).toNatClampNeg).toNatClampNeg) &&& (x2 ||| x3)) = x2 then (fX0_fewestLeavesOut_82 k28 q2.2 x2 x3 x4 x7 q2.1 x7)
  else (fX0_fewestLeavesOut_82 k28 q2.2 x2 x3 x4 x5 x6 x7) else none else none))
def fX0_fewestLeavesOut_28  : qM → Int32 → Int32 → Int32 → Int32 → Int32 → Int32 → Option (Int32 × qM) := qlp (fun _ _ _ _ _ _ _ => none) (bX0_fewestLeavesOut_28 ) qFU
def fX0_fewestLeavesOut_18(σ : qM) (x2 : Int32) (x3 : Int32) (x4 : Int32) : Option (Int32 × qM) :=
  fX0_fewestLeavesOut_28 σ x2 x3 x4 (-1 : Int32) (13 : Int32) (0 : Int32)
def fX0_fewestLeavesOut (σ : qM) (x1 : Int32) (x2 : Int32) (x3 : Int32) : Option (Int32 × qM) :=
  (fX0_fillRulesByLeaves σ x1).bind fun q1 => fX0_fewestLeavesOut_18 q1 x2 x3 ((jshl (1 : Int32) (q1 1 5)) - (1 : Int32))
def fX0_fewestRulesStruck_68 (k20 : qM → Int32 → Int32 → Int32 → Int32 → Int32 → Int32 → Option (Int32 × qM)) (σ : qM) (x1 : Int32) (x2 : Int32) (x3 : Int32) (x4 : Int32) (x5 : Int32) (x6 : Int32) : Option (Int32 × qM) :=
  k20 σ x1 x2 x3 x4 x5 (x6 + (1 : Int32))
def bX0_fewestRulesStruck_20 (k20 : qM → Int32 → Int32 → Int32 → Int32 → Int32 → Int32 → Option (Int32 × qM)) (σ : qM) (x1 : Int32) (x2 : Int32) (x3 : Int32) (x4 : Int32) (x5 : Int32) (x6 : Int32) : Option (Int32 × qM) :=
  if x3 ≤ x6 then (some (x4, σ))
  else ((fJ6_bitCount_0f7a4 σ x6).bind fun q2 => if x5 ≤ q2.1 then (fX0_fewestRulesStruck_68 k20 q2.2 x1 x2 x3 x4 x5 x6)
  else (if qin x1 4 then if qin ((q2.2 28 x1.toNatClampNeg) &&& (x6 ^^^ (-1 : Int32))) 1024 then if (q2.2 40 ((q2.2 28 x1.toNatClampNeg) &&& (x6 ^^^ (-1 : Int32))).toNatClampNeg) = x2 then (fX0_fewestRulesStruck_68 k20 q2.2 x1 x2 x3 x6 q2.1 x6)
  else (fX0_fewestRulesStruck_68 k20 q2.2 x1 x2 x3 x4 x5 x6) else none else none))
def fX0_fewestRulesStruck_20  : qM → Int32 → Int32 → Int32 → Int32 → Int32 → Int32 → Option (Int32 × qM) := qlp (fun _ _ _ _ _ _ _ => none) (bX0_fewestRulesStruck_20 ) qFU
def fX0_fewestRulesStruck (σ : qM) (x1 : Int32) (x2 : Int32) : Option (Int32 × qM) :=
  fX0_fewestRulesStruck_20 σ x1 x2 (jshl (1 : Int32) (σ 4 5)) (-1 : Int32) (11 : Int32) (0 : Int32)
def fX0_changes_83 (k24 : qM → Int32 → Int32 → Int32 → Int32 → Int32 → Int32 → Int32 → Option (Int32 × qM)) (σ : qM) (x1 : Int32) (x2 : Int32) (x3 : Int32) (x4 : Int32) (x5 : Int32) (x6 : Int32) (x7 : Int32) : Option (Int32 × qM) :=
  k24 σ x1 x2 x3 x4 x5 x6 (x7 + (1 : Int32))
def fX0_changes_66 (k24 : qM → Int32 → Int32 → Int32 → Int32 → Int32 → Int32 → Int32 → Option (Int32 × qM)) (σ : qM) (x1 : Int32) (x2 : Int32) (x3 : Int32) (x4 : Int32) (x5 : Int32) (x6 : Int32) (x7 : Int32) : Option (Int32 × qM) :=
  (fX0_madeWith σ x1 x7 x3 x4 x5).bind fun q1 => fX0_changes_83 k24 q1.2 x1 x2 x3 x4 x5 (x6 ||| q1.1) x7
def bX0_changes_24 (k24 : qM → Int32 → Int32 → Int32 → Int32 → Int32 → Int32 → Int32 → Option (Int32 × qM)) (σ : qM) (x1 : Int32) (x2 : Int32) (x3 : Int32) (x4 : Int32) (x5 : Int32) (x6 : Int32) (x7 : Int32) : Option (Int32 × qM) :=
  if (σ 1 5) ≤ x7 then (if qin x6 1024 then if qin x1 4 then if ((jshr ((σ 40 x6.toNatClampNeg) ^^^ (σ 29 x1.toNatClampNeg)) x2) &&& (1 : Int32)) = (1 : Int32) then (some ((1 : Int32), σ))
  else (some ((0 : Int32), σ)) else none else none)
  else (if qin x1 4 then if qin x7 12 then if (σ (18 + x1.toNatClampNeg) x7.toNatClampNeg) = x4 then (if qin x1 4 then if qin x7 12 then if (σ (23 + x1.toNatClampNeg) x7.toNatClampNeg) = x5 then (some ((0 : Int32), σ))
  else (fX0_changes_66 k24 σ x1 x2 x3 x4 x5 x6 x7) else none else none)
  else (fX0_changes_66 k24 σ x1 x2 x3 x4 x5 x6 x7) else none else none)
def fX0_changes_24  : qM → Int32 → Int32 → Int32 → Int32 → Int32 → Int32 → Int32 → Option (Int32 × qM) := qlp (fun _ _ _ _ _ _ _ _ => none) (bX0_changes_24 ) qFU
def fX0_changes_21(σ : qM) (x1 : Int32) (x2 : Int32) (x3 : Int32) (x4 : Int32) (x5 : Int32) (x6 : Int32) : Option (Int32 × qM) :=
  fX0_changes_24 σ x1 x2 x3 x4 x5 x6 (0 : Int32)
def fX0_changes (σ : qM) (x1 : Int32) (x2 : Int32) (x3 : Int32) (x4 : Int32) (x5 : Int32) : Option (Int32 × qM) :=
  (fX0_isCracked σ x4 x5).bind fun q1 => if q1.1 = 0 then (if qin x1 4 then fX0_changes_21 q1.2 x1 x2 x3 x4 x5 (q1.2 28 x1.toNatClampNeg) else none)
  else (some ((0 : Int32), q1.2))
def bX0_leastLeafThatChanges_20 (k2 : qM → Int32 → Int32 → Int32 → Option (Int32 × qM)) (k10 : qM → Int32 → Int32 → Int32 → Int32 → Option (Int32 × qM)) (k20 : qM → Int32 → Int32 → Int32 → Int32 → Int32 → Option (Int32 × qM)) (σ : qM) (x1 : Int32) (x2 : Int32) (x3 : Int32) (x4 : Int32) (x5 : Int32) : Option (Int32 × qM) :=
  if (6 : Int32) ≤ x5 then (k10 σ x1 x2 x3 (x4 + (1 : Int32)))
  else ((fX0_changes σ x1 x2 x3 x5 x4).bind fun q2 => if q2.1 = 0 then (k20 q2.2 x1 x2 x3 x4 (x5 + (1 : Int32)))
  else (some (((((36 : Int32) * x3) + ((6 : Int32) * x4)) + x5), q2.2)))
def fX0_leastLeafThatChanges_20 (k2 : qM → Int32 → Int32 → Int32 → Option (Int32 × qM)) (k10 : qM → Int32 → Int32 → Int32 → Int32 → Option (Int32 × qM)) : qM → Int32 → Int32 → Int32 → Int32 → Int32 → Option (Int32 × qM) := qlp (fun _ _ _ _ _ _ => none) (bX0_leastLeafThatChanges_20 k2 k10) qFU
def bX0_leastLeafThatChanges_10 (k2 : qM → Int32 → Int32 → Int32 → Option (Int32 × qM)) (k10 : qM → Int32 → Int32 → Int32 → Int32 → Option (Int32 × qM)) (σ : qM) (x1 : Int32) (x2 : Int32) (x3 : Int32) (x4 : Int32) : Option (Int32 × qM) :=
  if (6 : Int32) ≤ x4 then (k2 σ x1 x2 (x3 + (1 : Int32)))
  else (fX0_leastLeafThatChanges_20 k2 k10 σ x1 x2 x3 x4 (0 : Int32))
def fX0_leastLeafThatChanges_10 (k2 : qM → Int32 → Int32 → Int32 → Option (Int32 × qM)) : qM → Int32 → Int32 → Int32 → Int32 → Option (Int32 × qM) := qlp (fun _ _ _ _ _ => none) (bX0_leastLeafThatChanges_10 k2) qFU
def bX0_leastLeafThatChanges_2 (k2 : qM → Int32 → Int32 → Int32 → Option (Int32 × qM)) (σ : qM) (x1 : Int32) (x2 : Int32) (x3 : Int32) : Option (Int32 × qM) :=
  if (3 : Int32) ≤ x3 then (some ((-1 : Int32), σ))
  else (fX0_leastLeafThatChanges_10 k2 σ x1 x2 x3 (0 : Int32))
def fX0_leastLeafThatChanges_2  : qM → Int32 → Int32 → Int32 → Option (Int32 × qM) := qlp (fun _ _ _ _ => none) (bX0_leastLeafThatChanges_2 ) qFU
def fX0_leastLeafThatChanges (σ : qM) (x1 : Int32) (x2 : Int32) : Option (Int32 × qM) :=
  fX0_leastLeafThatChanges_2 σ x1 x2 (0 : Int32)
def fX0_turnsThatHold_31 (k2 : qM → Int32 → Int32 → Option (Int32 × qM)) (σ : qM) (x1 : Int32) (x2 : Int32) : Option (Int32 × qM) :=
  k2 σ x1 (x2 + (1 : Int32))
def bX0_turnsThatHold_2 (k2 : qM → Int32 → Int32 → Option (Int32 × qM)) (σ : qM) (x1 : Int32) (x2 : Int32) : Option (Int32 × qM) :=
  if (4 : Int32) ≤ x2 then (some ((-1 : Int32), σ))
  else ((fX0_isInForce σ x2 x1).bind fun q2 => if q2.1 = 0 then (fX0_turnsThatHold_31 k2 q2.2 x1 x2)
  else ((fX0_isInForce q2.2 (jrem (x2 + (1 : Int32)) (4 : Int32)) x1).bind fun q4 => if q4.1 = 0 then (fX0_turnsThatHold_31 k2 q4.2 x1 x2)
  else (some (x2, q4.2))))
def fX0_turnsThatHold_2  : qM → Int32 → Int32 → Option (Int32 × qM) := qlp (fun _ _ _ => none) (bX0_turnsThatHold_2 ) qFU
def fX0_turnsThatHold (σ : qM) (x1 : Int32) : Option (Int32 × qM) :=
  fX0_turnsThatHold_2 σ x1 (0 : Int32)
def fX0_inForceWithoutLeaf_65 (k5 : qM → Int32 → Int32 → Int32 → Int32 → Option (Int32 × qM)) (k23 : qM → Int32 → Int32 → Int32 → Int32 → Int32 → Option (Int32 × qM)) (σ : qM) (x1 : Int32) (x2 : Int32) (x3 : Int32) (x4 : Int32) (x5 : Int32) : Option (Int32 × qM) :=
  k23 σ x1 x2 x3 x4 (x5 + (1 : Int32))
def bX0_inForceWithoutLeaf_23 (k5 : qM → Int32 → Int32 → Int32 → Int32 → Option (Int32 × qM)) (k23 : qM → Int32 → Int32 → Int32 → Int32 → Int32 → Option (Int32 × qM)) (σ : qM) (x1 : Int32) (x2 : Int32) (x3 : Int32) (x4 : Int32) (x5 : Int32) : Option (Int32 × qM) :=
  if (σ 1 5) ≤ x5 then (k5 σ x1 x2 x3 (x4 + (1 : Int32)))
  else (if x4 = x2 then (fX0_inForceWithoutLeaf_65 k5 k23 σ x1 x2 x3 x4 x5)
  else (if x5 = x2 then (fX0_inForceWithoutLeaf_65 k5 k23 σ x1 x2 x3 x4 x5)
  else (if qin x1 4 then if qin ((x4 * (12 : Int32)) + x5) 144 then fX0_inForceWithoutLeaf_65 k5 k23 σ x1 x2 (x3 ||| (σ (31 + x1.toNatClampNeg) ((x4 * (12 : Int32)) + x5).toNatClampNeg)) x4 x5 else none else none)))
def fX0_inForceWithoutLeaf_23 (k5 : qM → Int32 → Int32 → Int32 → Int32 → Option (Int32 × qM)) : qM → Int32 → Int32 → Int32 → Int32 → Int32 → Option (Int32 × qM) := qlp (fun _ _ _ _ _ _ => none) (bX0_inForceWithoutLeaf_23 k5) qFU
def bX0_inForceWithoutLeaf_5 (k5 : qM → Int32 → Int32 → Int32 → Int32 → Option (Int32 × qM)) (σ : qM) (x1 : Int32) (x2 : Int32) (x3 : Int32) (x4 : Int32) : Option (Int32 × qM) :=
  if (σ 1 5) ≤ x4 then (if qin x3 1024 then some ((σ 40 x3.toNatClampNeg), σ) else none)
  else (fX0_inForceWithoutLeaf_23 k5 σ x1 x2 x3 x4 (x4 + (1 : Int32)))
def fX0_inForceWithoutLeaf_5  : qM → Int32 → Int32 → Int32 → Int32 → Option (Int32 × qM) := qlp (fun _ _ _ _ _ => none) (bX0_inForceWithoutLeaf_5 ) qFU
def fX0_inForceWithoutLeaf (σ : qM) (x1 : Int32) (x2 : Int32) : Option (Int32 × qM) :=
  fX0_inForceWithoutLeaf_5 σ x1 x2 (0 : Int32) (0 : Int32)
def fX0_inForceWithTurnedRule_57 (k20 : qM → Int32 → Int32 → Int32 → Option (Int32 × qM)) (σ : qM) (x1 : Int32) (x2 : Int32) (x3 : Int32) : Option (Int32 × qM) :=
  k20 σ x1 x2 (x3 + (1 : Int32))
def bX0_inForceWithTurnedRule_20 (k20 : qM → Int32 → Int32 → Int32 → Option (Int32 × qM)) (σ : qM) (x1 : Int32) (x2 : Int32) (x3 : Int32) : Option (Int32 × qM) :=
  if (σ 4 5) ≤ x3 then (if qin x1 4 then (fX3_part σ 4 x2 (4 : Int32)).bind fun q3 => some (((σ 29 x1.toNatClampNeg) ^^^ (jshl (1 : Int32) q3.1)), q3.2) else none)
  else ((fX0_applies σ x1 x3).bind fun q4 => if q4.1 = 0 then (fX0_inForceWithTurnedRule_57 k20 q4.2 x1 x2 x3)
  else ((fX0_alike q4.2 x2 x3 (4 : Int32)).bind fun q6 => if q6.1 = 0 then (fX0_inForceWithTurnedRule_57 k20 q6.2 x1 x2 x3)
  else (if qin x1 4 then some ((q6.2 29 x1.toNatClampNeg), q6.2) else none)))
def fX0_inForceWithTurnedRule_20  : qM → Int32 → Int32 → Int32 → Option (Int32 × qM) := qlp (fun _ _ _ _ => none) (bX0_inForceWithTurnedRule_20 ) qFU
def fX0_inForceWithTurnedRule (σ : qM) (x1 : Int32) (x2 : Int32) : Option (Int32 × qM) :=
  (fX0_applies σ x1 x2).bind fun q1 => if q1.1 = 0 then (if qin x1 4 then some ((q1.2 29 x1.toNatClampNeg), q1.2) else none)
  else (fX0_inForceWithTurnedRule_20 q1.2 x1 x2 (x2 + (1 : Int32)))
def fX0_inForceHad (σ : qM) (x1 : Int32) (x2 : Int32) (x3 : Int32) : Option (Int32 × qM) :=
  if x1 = (0 : Int32) then (if qin x3 4 then if qin ((σ 28 x3.toNatClampNeg) &&& ((jshl (1 : Int32) x2) ^^^ (-1 : Int32))) 1024 then some ((σ 40 ((σ 28 x3.toNatClampNeg) &&& ((jshl (1 : Int32) x2) ^^^ (-1 : Int32))).toNatClampNeg), σ) else none else none)
  else (if x1 = (1 : Int32) then ((fX0_inForceWithoutLeaf σ x3 x2).bind fun q5 => some (q5.1, q5.2))
  else ((fX0_inForceWithTurnedRule σ x3 x2).bind fun q6 => some (q6.1, q6.2)))
def bX0_countChoices_39 (k39 : qM → Int32 → Int32 → Int32 → Option qM) (σ : qM) (x2 : Int32) (x3 : Int32) (x4 : Int32) : Option qM :=
  if x3 ≤ x4 then (some σ)
  else ((fJ6_bitCount_0f7a4 σ x4).bind fun q2 => if qin q2.1 13 then if qin x4 4096 then if qin (q2.2 41 x4.toNatClampNeg) 1024 then if qin q2.1 13 then k39 (qup q2.2 42 q2.1.toNatClampNeg ((q2.2 42 q2.1.toNatClampNeg) + ((jshr (q2.2 40 (q2.2 41 x4.toNatClampNeg).toNatClampNeg) x2) &&& (1 : Int32)))) x2 x3 (x4 + (1 : Int32)) else none else none else none else none)
def fX0_countChoices_39  : qM → Int32 → Int32 → Int32 → Option qM := qlp (fun _ _ _ _ => none) (bX0_countChoices_39 ) qFU
def fX0_countChoices_36(σ : qM) (x2 : Int32) (x3 : Int32) : Option qM :=
  fX0_countChoices_39 σ x2 x3 (0 : Int32)
def bX0_countChoices_7 (k7 : qM → Int32 → Int32 → Option qM) (σ : qM) (x2 : Int32) (x3 : Int32) : Option qM :=
  if (12 : Int32) < x3 then (fX0_countChoices_36 σ x2 (jshl (1 : Int32) (σ 1 5)))
  else (if qin x3 13 then k7 (qup σ 42 x3.toNatClampNeg (0 : Int32)) x2 (x3 + (1 : Int32)) else none)
def fX0_countChoices_7  : qM → Int32 → Int32 → Option qM := qlp (fun _ _ _ => none) (bX0_countChoices_7 ) qFU
def fX0_countChoices (σ : qM) (x1 : Int32) (x2 : Int32) : Option qM :=
  (fX0_fillRulesByLeaves σ x1).bind fun q1 => fX0_countChoices_7 q1 x2 (0 : Int32)
def fX0_power_15 (k5 : qM → Int64 → Int32 → Int64 → Int32 → Option (Int64 × qM)) (σ : qM) (x0 : Int64) (x2 : Int32) (x3 : Int64) (x5 : Int32) : Option (Int64 × qM) :=
  k5 σ x0 x2 x3 (x5 + (1 : Int32))
def bX0_power_5 (k5 : qM → Int64 → Int32 → Int64 → Int32 → Option (Int64 × qM)) (σ : qM) (x0 : Int64) (x2 : Int32) (x3 : Int64) (x5 : Int32) : Option (Int64 × qM) :=
  if x2 ≤ x5 then (some (x3, σ))
  else (fX0_power_15 k5 σ x0 x2 (x3 * x0) x5)
def fX0_power_5  : qM → Int64 → Int32 → Int64 → Int32 → Option (Int64 × qM) := qlp (fun _ _ _ _ _ => none) (bX0_power_5 ) qFU
def fX0_power (σ : qM) (x0 : Int64) (x2 : Int32) : Option (Int64 × qM) :=
  fX0_power_5 σ x0 x2 (1 : Int64) (0 : Int32)
def fX0_chanceAbove_64 (k12 : qM → Int32 → Int64 → Int32 → Option (Int64 × qM)) (σ : qM) (x1 : Int32) (x4 : Int64) (x6 : Int32) : Option (Int64 × qM) :=
  k12 σ x1 x4 (x6 + (1 : Int32))
def bX0_chanceAbove_12 (k12 : qM → Int32 → Int64 → Int32 → Option (Int64 × qM)) (σ : qM) (x1 : Int32) (x4 : Int64) (x6 : Int32) : Option (Int64 × qM) :=
  if (σ 1 5) < x6 then (some (x4, σ))
  else (if qin x6 13 then (fX0_power σ (((16 : Int32) - x1).toInt64) x6).bind fun q3 => (fX0_power q3.2 x1.toInt64 ((q3.2 1 5) - x6)).bind fun q4 => fX0_chanceAbove_64 k12 q4.2 x1 (x4 + (((σ 42 x6.toNatClampNeg).toInt64 * q3.1) * q4.1)) x6 else none)
def fX0_chanceAbove_12  : qM → Int32 → Int64 → Int32 → Option (Int64 × qM) := qlp (fun _ _ _ _ => none) (bX0_chanceAbove_12 ) qFU
def fX0_chanceAbove (σ : qM) (x1 : Int32) (x2 : Int32) (x3 : Int32) : Option (Int64 × qM) :=
  (fX0_countChoices σ x2 x3).bind fun q1 => fX0_chanceAbove_12 q1 x1 (0 : Int64) (0 : Int32)
def fX1_append_45(σ : qM) (x0 : Nat) : Option (Int32 × qM) :=
  some ((σ x0 2), σ)
def fX1_append_35(σ : qM) (x0 : Nat) : Option (Int32 × qM) :=
  fX1_append_45 (qup σ x0 2 ((σ x0 2) + (1 : Int32))) x0
def fX1_append_25(σ : qM) (x0 : Nat) (x2 : Int32) : Option (Int32 × qM) :=
  if qin (σ x0 2) (lnC (x0 + 2)) then fX1_append_35 (qup σ (x0 + 2) (σ x0 2).toNatClampNeg x2) x0 else none
def fX1_append (σ : qM) (o : Nat) (x1 : Int32) (x2 : Int32) : Option (Int32 × qM) :=
  if (σ o 2) < (Int32.ofNat (lnC (o + 1))) then (if qin (σ o 2) (lnC (o + 1)) then fX1_append_25 (qup σ (o + 1) (σ o 2).toNatClampNeg x1) o x2 else none)
  else (some ((-4 : Int32), σ))
def fX1_dropLast_20(σ : qM) (x0 : Nat) : Option (Int32 × qM) :=
  some ((σ x0 2), σ)
def fX1_dropLast (σ : qM) (o : Nat) : Option (Int32 × qM) :=
  if (σ o 2) = 0 then (some ((-3 : Int32), σ))
  else (fX1_dropLast_20 (qup σ o 2 ((σ o 2) - (1 : Int32))) o)
def fX1_empty (σ : qM) (o : Nat) : Option (Int32 × qM) :=
  some ((σ o 2), qup σ o 2 (0 : Int32))
def fX2_isLost (σ : qM) (o : Nat) : Option (Int32 × qM) :=
  if (σ o 1) = (-1 : Int32) then (some ((1 : Int32), σ))
  else (some ((0 : Int32), σ))
def bX2_begin_12 (k12 : qM → Nat → Int32 → Option qM) (σ : qM) (x0 : Nat) (x3 : Int32) : Option qM :=
  if (60 : Int32) ≤ x3 then (some σ)
  else (if qin x3 60 then k12 (qup σ (x0 + 1) x3.toNatClampNeg (0 : Int32)) x0 (x3 + (1 : Int32)) else none)
def fX2_begin_12  : qM → Nat → Int32 → Option qM := qlp (fun _ _ _ => none) (bX2_begin_12 ) qFU
def fX2_begin_5(σ : qM) (x0 : Nat) (x2 : Int32) : Option qM :=
  fX2_begin_12 (qup σ x0 2 x2) x0 (0 : Int32)
def fX2_begin (σ : qM) (o : Nat) (x1 : Int32) (x2 : Int32) : Option qM :=
  fX2_begin_5 (qup σ o 1 x1) o x2
def fX2_end_10(σ : qM) (x0 : Nat) (x1 : Int32) : Option (Int32 × qM) :=
  some (x1, qup σ x0 2 (0 : Int32))
def fX2_end (σ : qM) (o : Nat) : Option (Int32 × qM) :=
  fX2_end_10 (qup σ o 1 (-1 : Int32)) o (σ o 2)
def fX2_has (σ : qM) (o : Nat) (x1 : Int32) (x2 : Int32) : Option (Int32 × qM) :=
  if x1 < 0 then (some ((0 : Int32), σ))
  else (if x2 < 0 then (some ((0 : Int32), σ))
  else (if (σ o 2) < x1 then (some ((0 : Int32), σ))
  else (if ((σ o 2) - x1) < x2 then (some ((0 : Int32), σ))
  else (some ((1 : Int32), σ)))))
def fX2_put (σ : qM) (o : Nat) (x1 : Int32) (x2 : Int32) : Option qM :=
  if (σ o 1) = (0 : Int32) then (if qin x1 60 then some (qup σ (o + 1) x1.toNatClampNeg x2.toInt8.toInt32) else none)
  else (if (σ o 1) = (1 : Int32) then (if qin x1 60 then some (qup σ (o + 1) x1.toNatClampNeg x2.toInt16.toInt32) else none)
  else (if qin x1 60 then some (qup σ (o + 1) x1.toNatClampNeg x2) else none))
def fX3_signsOfLeaf (σ : qM) (x0 : Int32) : Option (Nat × qM) :=
  if x0 = (0 : Int32) then (some (0, σ))
  else (if x0 = (1 : Int32) then (some (1, σ))
  else (some (2, σ)))
def fX3_signsOfRule (σ : qM) (x0 : Int32) : Option (Nat × qM) :=
  if x0 = (1 : Int32) then (some (3, σ))
  else (if x0 = (2 : Int32) then (some (2, σ))
  else (if x0 = (3 : Int32) then (some (4, σ))
  else (if x0 = (4 : Int32) then (some (5, σ))
  else (some (2, σ)))))
def fX3_signs (σ : qM) (o : Nat) (x1 : Int32) : Option (Nat × qM) :=
  if x1 = (σ o 1) then (some (6, σ))
  else (if (σ o 0) = 0 then ((fX3_signsOfRule σ x1).bind fun q3 => if q3.1 < 7 then some (q3.1, q3.2) else none)
  else ((fX3_signsOfLeaf σ x1).bind fun q5 => if q5.1 < 7 then some (q5.1, q5.2) else none))
def bX3_placeOf_2 (k2 : qM → Int32 → Nat → Int32 → Option (Int32 × qM)) (σ : qM) (x0 : Int32) (x1 : Nat) (x2 : Int32) : Option (Int32 × qM) :=
  if (Int32.ofNat (q_tl x1)) ≤ x2 then (some ((-1 : Int32), σ))
  else (if qin x2 (q_tl x1) then if (q_tc x1 x2.toNatClampNeg) = x0 then (some (x2, σ))
  else (k2 σ x0 x1 (x2 + (1 : Int32))) else none)
def fX3_placeOf_2  : qM → Int32 → Nat → Int32 → Option (Int32 × qM) := qlp (fun _ _ _ _ => none) (bX3_placeOf_2 ) qFU
def fX3_placeOf (σ : qM) (x0 : Int32) (x1 : Nat) : Option (Int32 × qM) :=
  fX3_placeOf_2 σ x0 x1 (0 : Int32)
def fX3_parse_85 (k16 : qM → Nat → Int32 → Int32 → Int32 → Option qM) (σ : qM) (x0 : Nat) (x1 : Int32) (x2 : Int32) (x3 : Int32) : Option qM :=
  k16 σ x0 x1 x2 (x3 + (1 : Int32))
def bX3_parse_16 (k16 : qM → Nat → Int32 → Int32 → Int32 → Option qM) (σ : qM) (x0 : Nat) (x1 : Int32) (x2 : Int32) (x3 : Int32) : Option qM :=
  if (σ x0 4) ≤ x3 then (if x2 = (σ x0 1) then (some (qup σ x0 5 (x1 + (1 : Int32))))
  else (if (σ x0 4) ≤ 0 then (some σ)
  else (some (qup σ x0 6 (σ x0 4)))))
  else (if qin x3 (lnC (x0 + 1)) then (fX3_signs σ x0 x2).bind fun q5 => if q5.1 < 7 then (fX3_placeOf q5.2 (σ (x0 + 1) x3.toNatClampNeg) q5.1).bind fun q7 => if 0 ≤ q7.1 then (if x2 = (q7.2 x0 1) then (fX3_parse_85 k16 q7.2 x0 (x1 + (1 : Int32)) (0 : Int32) x3)
  else (if qin ((x1 * (q7.2 x0 1)) + x2) (lnC (x0 + 2)) then fX3_parse_85 k16 (qup q7.2 (x0 + 2) ((x1 * (q7.2 x0 1)) + x2).toNatClampNeg q7.1) x0 x1 (x2 + (1 : Int32)) x3 else none))
  else (some (qup q7.2 x0 6 x3)) else none else none)
def fX3_parse_16  : qM → Nat → Int32 → Int32 → Int32 → Option qM := qlp (fun _ _ _ _ _ => none) (bX3_parse_16 ) qFU
def fX3_parse_5(σ : qM) (x0 : Nat) : Option qM :=
  fX3_parse_16 (qup σ x0 6 (-1 : Int32)) x0 (0 : Int32) (0 : Int32) (0 : Int32)
def fX3_parse (σ : qM) (o : Nat) : Option qM :=
  fX3_parse_5 (qup σ o 5 (0 : Int32)) o
def fX3_append_35(σ : qM) (x0 : Nat) : Option (Int32 × qM) :=
  (fX3_parse σ x0).bind fun q1 => some ((q1 x0 4), q1)
def fX3_append_25(σ : qM) (x0 : Nat) : Option (Int32 × qM) :=
  fX3_append_35 (qup σ x0 4 ((σ x0 4) + (1 : Int32))) x0
def fX3_append (σ : qM) (o : Nat) (x1 : Int32) : Option (Int32 × qM) :=
  if (σ o 4) < (Int32.ofNat (lnC (o + 1))) then (if qin (σ o 4) (lnC (o + 1)) then fX3_append_25 (qup σ (o + 1) (σ o 4).toNatClampNeg x1) o else none)
  else (some ((-4 : Int32), σ))
def fX3_empty_10(σ : qM) (x0 : Nat) (x1 : Int32) : Option (Int32 × qM) :=
  (fX3_parse σ x0).bind fun q1 => some (x1, q1)
def fX3_empty (σ : qM) (o : Nat) : Option (Int32 × qM) :=
  fX3_empty_10 (qup σ o 4 (0 : Int32)) o (σ o 4)
def fX3_dropLast_20(σ : qM) (x0 : Nat) : Option (Int32 × qM) :=
  (fX3_parse σ x0).bind fun q1 => some ((q1 x0 4), q1)
def fX3_dropLast (σ : qM) (o : Nat) : Option (Int32 × qM) :=
  if (σ o 4) = 0 then (some ((-3 : Int32), σ))
  else (fX3_dropLast_20 (qup σ o 4 ((σ o 4) - (1 : Int32))) o)
def fX4_below (σ : qM) (x0 : Int32) (x1 : Int32) : Option (Int32 × qM) :=
  if x0 < 0 then (some ((0 : Int32), σ))
  else (if x1 ≤ x0 then (some ((0 : Int32), σ))
  else (some ((1 : Int32), σ)))
def fX4_textOf (σ : qM) (x1 : Int32) : Option (Nat × qM) :=
  if x1 = 0 then (some (1, σ))
  else (some (4, σ))
def fX4_type_29(σ : qM) (x1 : Int32) (x2 : Int32) : Option (Int32 × qM) :=
  (fX4_textOf σ x1).bind fun q1 => if q_kd sC q1.1 = 3 then (fX3_append q1.2 q1.1 x2).bind fun q3 => some (q3.1, q3.2) else none
def fX4_type (σ : qM) (x1 : Int32) (x2 : Int32) : Option (Int32 × qM) :=
  (fX4_below σ x1 (2 : Int32)).bind fun q1 => if q1.1 = 0 then (some ((-2 : Int32), q1.2))
  else ((fX4_below q1.2 x2 (256 : Int32)).bind fun q3 => if q3.1 = 0 then (some ((-2 : Int32), q3.2))
  else (fX4_type_29 (qup q3.2 16 14 (1 : Int32)) x1 x2))
def fX4_wipe_19(σ : qM) (x1 : Int32) : Option (Int32 × qM) :=
  (fX4_textOf σ x1).bind fun q1 => if q_kd sC q1.1 = 3 then (fX3_empty q1.2 q1.1).bind fun q3 => some (q3.1, q3.2) else none
def fX4_wipe (σ : qM) (x1 : Int32) : Option (Int32 × qM) :=
  (fX4_below σ x1 (2 : Int32)).bind fun q1 => if q1.1 = 0 then (some ((-2 : Int32), q1.2))
  else (fX4_wipe_19 (qup q1.2 16 14 (1 : Int32)) x1)
def fX4_undo_19(σ : qM) (x1 : Int32) : Option (Int32 × qM) :=
  (fX4_textOf σ x1).bind fun q1 => if q_kd sC q1.1 = 3 then (fX3_dropLast q1.2 q1.1).bind fun q3 => some (q3.1, q3.2) else none
def fX4_undo (σ : qM) (x1 : Int32) : Option (Int32 × qM) :=
  (fX4_below σ x1 (2 : Int32)).bind fun q1 => if q1.1 = 0 then (some ((-2 : Int32), q1.2))
  else (fX4_undo_19 (qup q1.2 16 14 (1 : Int32)) x1)
def fX4_fault (σ : qM) (x1 : Int32) : Option (Int32 × qM) :=
  (fX4_below σ x1 (2 : Int32)).bind fun q1 => if q1.1 = 0 then (some ((-2 : Int32), q1.2))
  else ((fX4_textOf q1.2 x1).bind fun q3 => if q_kd sC q3.1 = 3 then some ((q3.2 q3.1 6), q3.2) else none)
def fX4_leaf (σ : qM) (x1 : Int32) (x2 : Int32) : Option (Int32 × qM) :=
  (fX4_below σ x1 (σ 1 5)).bind fun q1 => if q1.1 = 0 then (some ((-2 : Int32), q1.2))
  else ((fX4_below q1.2 x2 (3 : Int32)).bind fun q3 => if q3.1 = 0 then (some ((-2 : Int32), q3.2))
  else ((fX3_part q3.2 1 x1 x2).bind fun q5 => some (q5.1, q5.2)))
def fX4_rule (σ : qM) (x1 : Int32) (x2 : Int32) : Option (Int32 × qM) :=
  (fX4_below σ x1 (σ 4 5)).bind fun q1 => if q1.1 = 0 then (some ((-2 : Int32), q1.2))
  else ((fX4_below q1.2 x2 (5 : Int32)).bind fun q3 => if q3.1 = 0 then (some ((-2 : Int32), q3.2))
  else ((fX3_part q3.2 4 x1 x2).bind fun q5 => some (q5.1, q5.2)))
def fX4_crack_29(σ : qM) (x1 : Int32) (x2 : Int32) : Option (Int32 × qM) :=
  (fX1_append σ 7 x1 x2).bind fun q1 => some (q1.1, q1.2)
def fX4_crack (σ : qM) (x1 : Int32) (x2 : Int32) : Option (Int32 × qM) :=
  (fX4_below σ x1 (6 : Int32)).bind fun q1 => if q1.1 = 0 then (some ((-2 : Int32), q1.2))
  else ((fX4_below q1.2 x2 (6 : Int32)).bind fun q3 => if q3.1 = 0 then (some ((-2 : Int32), q3.2))
  else (fX4_crack_29 (qup q3.2 16 14 (1 : Int32)) x1 x2))
def fX4_deed (σ : qM) (x1 : Int32) (x2 : Int32) : Option (Int32 × qM) :=
  (fX4_below σ x1 (28 : Int32)).bind fun q1 => if q1.1 = 0 then (some ((-2 : Int32), q1.2))
  else ((fX4_below q1.2 x2 (8 : Int32)).bind fun q3 => if q3.1 = 0 then (some ((-2 : Int32), q3.2))
  else ((fX1_append q3.2 10 x1 x2).bind fun q5 => some (q5.1, q5.2)))
def fX4_back_32(σ : qM)  : Option (Int32 × qM) :=
  (fX1_dropLast σ 7).bind fun q1 => some (q1.1, q1.2)
def fX4_back (σ : qM) (x1 : Int32) : Option (Int32 × qM) :=
  (fX4_below σ x1 (2 : Int32)).bind fun q1 => if q1.1 = 0 then (some ((-2 : Int32), q1.2))
  else (if x1 = (1 : Int32) then ((fX1_dropLast q1.2 10).bind fun q4 => some (q4.1, q4.2))
  else (fX4_back_32 (qup q1.2 16 14 (1 : Int32))))
def fX4_set_34(σ : qM) (x1 : Int32) (x2 : Int32) (t0 : Int32) : Option (Int32 × qM) :=
  if x1 = 0 then (some (t0, qup σ 0 7 x2))
  else (some (t0, qup σ 0 8 x2))
def fX4_set (σ : qM) (x1 : Int32) (x2 : Int32) : Option (Int32 × qM) :=
  (fX4_below σ x1 (2 : Int32)).bind fun q1 => if q1.1 = 0 then (some ((-2 : Int32), q1.2))
  else ((fX4_below q1.2 x2 (4 : Int32)).bind fun q3 => if q3.1 = 0 then (some ((-2 : Int32), q3.2))
  else (if x1 = 0 then (fX4_set_34 q3.2 x1 x2 (q3.2 0 7))
  else (fX4_set_34 q3.2 x1 x2 (q3.2 0 8))))
def fX4_lies (σ : qM) (x1 : Int32) (x2 : Int32) (x3 : Int32) : Option (Int32 × qM) :=
  (fX4_below σ x1 (4 : Int32)).bind fun q1 => if q1.1 = 0 then (some ((-2 : Int32), q1.2))
  else ((fX4_below q1.2 x2 (q1.2 1 5)).bind fun q3 => if q3.1 = 0 then (some ((-2 : Int32), q3.2))
  else ((fX4_below q3.2 x3 (2 : Int32)).bind fun q5 => if q5.1 = 0 then (some ((-2 : Int32), q5.2))
  else ((fX0_settled q5.2).bind fun q7 => if x3 = 0 then (if qin x1 4 then if qin x2 12 then some ((q7 (18 + x1.toNatClampNeg) x2.toNatClampNeg), q7) else none else none)
  else (if qin x1 4 then if qin x2 12 then some ((q7 (23 + x1.toNatClampNeg) x2.toNatClampNeg), q7) else none else none))))
def fX4_reading (σ : qM) (x1 : Int32) (x2 : Int32) : Option (Int32 × qM) :=
  (fX4_below σ x1 (4 : Int32)).bind fun q1 => if q1.1 = 0 then (some ((-2 : Int32), q1.2))
  else ((fX4_below q1.2 x2 (3 : Int32)).bind fun q3 => if q3.1 = 0 then (some ((-2 : Int32), q3.2))
  else ((fX0_settled q3.2).bind fun q5 => if x2 = (0 : Int32) then (if qin x1 4 then some ((q5 27 x1.toNatClampNeg), q5) else none)
  else (if x2 = (1 : Int32) then (if qin x1 4 then some ((q5 28 x1.toNatClampNeg), q5) else none)
  else (if qin x1 4 then some ((q5 29 x1.toNatClampNeg), q5) else none))))
def fX4_turnsOn (σ : qM) (x1 : Int32) : Option (Int32 × qM) :=
  some ((jrem ((σ 0 7) + (x1 * (σ 0 8))) (4 : Int32)), σ)
def fX4_day (σ : qM) (x1 : Int32) : Option (Int32 × qM) :=
  (fX4_below σ x1 (28 : Int32)).bind fun q1 => if q1.1 = 0 then (some ((-2 : Int32), q1.2))
  else ((fX0_settled q1.2).bind fun q3 => (fX4_turnsOn q3 x1).bind fun q4 => if qin q4.1 4 then some ((q4.2 29 q4.1.toNatClampNeg), q4.2) else none)
def fX4_brokenDeeds_50 (k4 : qM → Int32 → Int32 → Option (Int32 × qM)) (σ : qM) (x2 : Int32) (x3 : Int32) : Option (Int32 × qM) :=
  k4 σ x2 (x3 + (1 : Int32))
def bX4_brokenDeeds_4 (k4 : qM → Int32 → Int32 → Option (Int32 × qM)) (σ : qM) (x2 : Int32) (x3 : Int32) : Option (Int32 × qM) :=
  if (σ 10 2) ≤ x3 then (some (x2, σ))
  else (if qin x3 12 then (fX4_turnsOn σ (σ 11 x3.toNatClampNeg)).bind fun q3 => if qin x3 12 then (fX0_isInForce q3.2 q3.1 (q3.2 12 x3.toNatClampNeg)).bind fun q5 => if q5.1 = 0 then (fX4_brokenDeeds_50 k4 q5.2 x2 x3)
  else (fX4_brokenDeeds_50 k4 q5.2 (x2 ||| (jshl (1 : Int32) x3)) x3) else none else none)
def fX4_brokenDeeds_4  : qM → Int32 → Int32 → Option (Int32 × qM) := qlp (fun _ _ _ => none) (bX4_brokenDeeds_4 ) qFU
def fX4_brokenDeeds (σ : qM)  : Option (Int32 × qM) :=
  fX4_brokenDeeds_4 σ (0 : Int32) (0 : Int32)
def fX4_earliestDeed_58 (k8 : qM → Int32 → Int32 → Int32 → Int32 → Option (Int32 × qM)) (σ : qM) (x1 : Int32) (x2 : Int32) (x3 : Int32) (x4 : Int32) : Option (Int32 × qM) :=
  k8 σ x1 x2 x3 (x4 + (1 : Int32))
def bX4_earliestDeed_8 (k8 : qM → Int32 → Int32 → Int32 → Int32 → Option (Int32 × qM)) (σ : qM) (x1 : Int32) (x2 : Int32) (x3 : Int32) (x4 : Int32) : Option (Int32 × qM) :=
  if (σ 10 2) ≤ x4 then (some (x2, σ))
  else (if ((jshr x1 x4) &&& (1 : Int32)) = (1 : Int32) then (if qin x4 12 then if x3 ≤ (σ 11 x4.toNatClampNeg) then (fX4_earliestDeed_58 k8 σ x1 x2 x3 x4)
  else (if qin x4 12 then fX4_earliestDeed_58 k8 σ x1 x4 (σ 11 x4.toNatClampNeg) x4 else none) else none)
  else (fX4_earliestDeed_58 k8 σ x1 x2 x3 x4))
def fX4_earliestDeed_8  : qM → Int32 → Int32 → Int32 → Int32 → Option (Int32 × qM) := qlp (fun _ _ _ _ _ => none) (bX4_earliestDeed_8 ) qFU
def fX4_earliestDeed (σ : qM) (x1 : Int32) : Option (Int32 × qM) :=
  fX4_earliestDeed_8 σ x1 (-1 : Int32) (28 : Int32) (0 : Int32)
def fX4_broken (σ : qM) (x1 : Int32) : Option (Int32 × qM) :=
  (fX4_below σ x1 (2 : Int32)).bind fun q1 => if q1.1 = 0 then (some ((-2 : Int32), q1.2))
  else ((fX0_settled q1.2).bind fun q3 => (fX4_brokenDeeds q3).bind fun q4 => if x1 = 0 then (some (q4.1, q4.2))
  else ((fX4_earliestDeed q4.2 q4.1).bind fun q6 => some (q6.1, q6.2)))
def fX4_free_53 (k25 : qM → Int32 → Int32 → Int32 → Option (Int32 × qM)) (σ : qM) (x1 : Int32) (x3 : Int32) (x4 : Int32) : Option (Int32 × qM) :=
  k25 σ x1 x3 (x4 + (1 : Int32))
def bX4_free_25 (k25 : qM → Int32 → Int32 → Int32 → Option (Int32 × qM)) (σ : qM) (x1 : Int32) (x3 : Int32) (x4 : Int32) : Option (Int32 × qM) :=
  if (28 : Int32) ≤ x4 then (some (x3, σ))
  else ((fX4_turnsOn σ x4).bind fun q2 => (fX0_isInForce q2.2 q2.1 x1).bind fun q3 => if q3.1 = 0 then (fX4_free_53 k25 q3.2 x1 (x3 ||| (jshl (1 : Int32) x4)) x4)
  else (fX4_free_53 k25 q3.2 x1 x3 x4))
def fX4_free_25  : qM → Int32 → Int32 → Int32 → Option (Int32 × qM) := qlp (fun _ _ _ _ => none) (bX4_free_25 ) qFU
def fX4_free (σ : qM) (x1 : Int32) : Option (Int32 × qM) :=
  (fX4_below σ x1 (8 : Int32)).bind fun q1 => if q1.1 = 0 then (some ((-2 : Int32), q1.2))
  else ((fX0_settled q1.2).bind fun q3 => fX4_free_25 q3 x1 (0 : Int32) (0 : Int32))
def fX4_clash (σ : qM) (x1 : Int32) : Option (Int32 × qM) :=
  (fX4_below σ x1 (4 : Int32)).bind fun q1 => if q1.1 = 0 then (some ((-2 : Int32), q1.2))
  else ((fX0_settled q1.2).bind fun q3 => (fX0_firstClash q3 x1).bind fun q4 => some (q4.1, q4.2))
def fX4_areLaws (σ : qM) (x0 : Int32) : Option (Int32 × qM) :=
  if x0 < 0 then (some ((0 : Int32), σ))
  else (if (255 : Int32) < x0 then (some ((0 : Int32), σ))
  else (some ((1 : Int32), σ)))
def fX4_pour_75 (k27 : qM → Int32 → Int32 → Int32 → Int32 → Option (Int32 × qM)) (σ : qM) (x1 : Int32) (x3 : Int32) (x4 : Int32) (x5 : Int32) : Option (Int32 × qM) :=
  k27 σ x1 x3 x4 (x5 + (1 : Int32))
def fX4_pour_61 (k27 : qM → Int32 → Int32 → Int32 → Int32 → Option (Int32 × qM)) (σ : qM) (x1 : Int32) (x3 : Int32) (x4 : Int32) (x5 : Int32) (x7 : Int32) : Option (Int32 × qM) :=
  if x7 ≤ x4 then (fX4_pour_75 k27 σ x1 x3 x4 x5)
  else (fX4_pour_75 k27 σ x1 x5 x7 x5)
def fX4_pour_42 (k27 : qM → Int32 → Int32 → Int32 → Int32 → Option (Int32 × qM)) (σ : qM) (x1 : Int32) (x3 : Int32) (x4 : Int32) (x5 : Int32) (x6 : Int32) : Option (Int32 × qM) :=
  (fJ6_bitCount_0f7a4 σ (x6 &&& x1)).bind fun q1 => (fJ6_bitCount_0f7a4 q1.2 (x6 &&& (x1 ^^^ (-1 : Int32)))).bind fun q2 => fX4_pour_61 k27 q2.2 x1 x3 x4 x5 (q1.1 - q2.1)
def bX4_pour_27 (k27 : qM → Int32 → Int32 → Int32 → Int32 → Option (Int32 × qM)) (σ : qM) (x1 : Int32) (x3 : Int32) (x4 : Int32) (x5 : Int32) : Option (Int32 × qM) :=
  if (4 : Int32) ≤ x5 then (some (x3, σ))
  else (if qin x5 4 then fX4_pour_42 k27 σ x1 x3 x4 x5 (σ 29 x5.toNatClampNeg) else none)
def fX4_pour_27  : qM → Int32 → Int32 → Int32 → Int32 → Option (Int32 × qM) := qlp (fun _ _ _ _ _ => none) (bX4_pour_27 ) qFU
def fX4_pour (σ : qM) (x1 : Int32) : Option (Int32 × qM) :=
  (fX4_areLaws σ x1).bind fun q1 => if q1.1 = 0 then (some ((-2 : Int32), q1.2))
  else ((fX0_settled q1.2).bind fun q3 => fX4_pour_27 q3 x1 (0 : Int32) (-9 : Int32) (0 : Int32))
def fX4_howManyOrBits_10(σ : qM) (x0 : Int32) : Option (Int32 × qM) :=
  some (x0, σ)
def fX4_howManyOrBits (σ : qM) (x0 : Int32) (x1 : Int32) : Option (Int32 × qM) :=
  if x0 = (-1 : Int32) then (fX4_howManyOrBits_10 σ x0)
  else (if x1 = (1 : Int32) then (fX4_howManyOrBits_10 σ x0)
  else ((fJ6_bitCount_0f7a4 σ x0).bind fun q3 => some (q3.1, q3.2)))
def fX4_strain (σ : qM) (x1 : Int32) (x2 : Int32) (x3 : Int32) (x4 : Int32) : Option (Int32 × qM) :=
  (fX4_below σ x1 (4 : Int32)).bind fun q1 => if q1.1 = 0 then (some ((-2 : Int32), q1.2))
  else ((fX4_areLaws q1.2 x2).bind fun q3 => if q3.1 = 0 then (some ((-2 : Int32), q3.2))
  else ((fX4_areLaws q3.2 x3).bind fun q5 => if q5.1 = 0 then (some ((-2 : Int32), q5.2))
  else (if (x2 &&& x3) = 0 then ((fX4_below q5.2 x4 (2 : Int32)).bind fun q8 => if q8.1 = 0 then (some ((-2 : Int32), q8.2))
  else ((fX0_settled q8.2).bind fun q10 => (fX0_fewestLeavesOut q10 x1 x2 x3).bind fun q11 => (fX4_howManyOrBits q11.2 q11.1 x4).bind fun q12 => some (q12.1, q12.2)))
  else (some ((-2 : Int32), q5.2)))))
def fX4_strike (σ : qM) (x1 : Int32) (x2 : Int32) (x3 : Int32) : Option (Int32 × qM) :=
  (fX4_below σ x1 (4 : Int32)).bind fun q1 => if q1.1 = 0 then (some ((-2 : Int32), q1.2))
  else ((fX4_areLaws q1.2 x2).bind fun q3 => if q3.1 = 0 then (some ((-2 : Int32), q3.2))
  else ((fX4_below q3.2 x3 (2 : Int32)).bind fun q5 => if q5.1 = 0 then (some ((-2 : Int32), q5.2))
  else ((fX0_settled q5.2).bind fun q7 => (fX0_fewestRulesStruck q7 x1 x2).bind fun q8 => (fX4_howManyOrBits q8.2 q8.1 x3).bind fun q9 => some (q9.1, q9.2))))
def fX4_place (σ : qM) (x1 : Int32) (x2 : Int32) : Option (Int32 × qM) :=
  (fX4_below σ x1 (4 : Int32)).bind fun q1 => if q1.1 = 0 then (some ((-2 : Int32), q1.2))
  else ((fX4_below q1.2 x2 (8 : Int32)).bind fun q3 => if q3.1 = 0 then (some ((-2 : Int32), q3.2))
  else ((fX0_settled q3.2).bind fun q5 => (fX0_leastLeafThatChanges q5 x1 x2).bind fun q6 => some (q6.1, q6.2)))
def fX4_sides (σ : qM) (x1 : Int32) (x2 : Int32) : Option (Int32 × qM) :=
  (fX4_below σ x1 (8 : Int32)).bind fun q1 => if q1.1 = 0 then (some ((-2 : Int32), q1.2))
  else ((fX4_below q1.2 x2 (2 : Int32)).bind fun q3 => if q3.1 = 0 then (some ((-2 : Int32), q3.2))
  else ((fX0_settled q3.2).bind fun q5 => (fX0_turnsThatHold q5 x1).bind fun q6 => if x2 = (1 : Int32) then (some (q6.1, q6.2))
  else (if q6.1 = (-1 : Int32) then (some ((0 : Int32), q6.2))
  else (some ((1 : Int32), q6.2)))))
def fX4_read (σ : qM) (x1 : Int32) (x2 : Int32) : Option (Int32 × qM) :=
  (fX4_below σ x1 (4 : Int32)).bind fun q1 => if q1.1 = 0 then (some ((-2 : Int32), q1.2))
  else ((fX4_areLaws q1.2 x2).bind fun q3 => if q3.1 = 0 then (some ((-2 : Int32), q3.2))
  else ((fX1_append q3.2 13 x1 x2).bind fun q5 => some (q5.1, q5.2)))
def fX4_forget (σ : qM)  : Option (Int32 × qM) :=
  (fX1_empty σ 13).bind fun q1 => some (q1.1, q1.2)
def fX4_find (σ : qM) (x1 : Int32) : Option (Int32 × qM) :=
  some (((-10 : Int32) - x1), qup σ 0 9 x1)
def bX4_take_36 (k36 : qM → Nat → Int32 → Int32 → Option (Int32 × qM)) (σ : qM) (x2 : Nat) (x3 : Int32) (x4 : Int32) : Option (Int32 × qM) :=
  if (σ x2 2) ≤ (x4 + (1 : Int32)) then (some (x3, σ))
  else (if qin x4 60 then if qin (x4 + (1 : Int32)) 60 then (fX4_read σ (σ (x2 + 1) x4.toNatClampNeg) (σ (x2 + 1) (x4 + (1 : Int32)).toNatClampNeg)).bind fun q4 => if 0 ≤ q4.1 then (k36 q4.2 x2 (x3 + (1 : Int32)) (x4 + (2 : Int32)))
  else (some (x3, q4.2)) else none else none)
def fX4_take_36  : qM → Nat → Int32 → Int32 → Option (Int32 × qM) := qlp (fun _ _ _ _ => none) (bX4_take_36 ) qFU
def fX4_take (σ : qM) (x1 : Int32) : Option (Int32 × qM) :=
  (fX4_below σ x1 (4 : Int32)).bind fun q1 => if q1.1 = 0 then (some ((-2 : Int32), q1.2))
  else (if qin x1 4 then (fX2_isLost q1.2 (44 + 2 * x1.toNatClampNeg)).bind fun q4 => if q4.1 = 0 then (fX4_take_36 q4.2 (44 + 2 * x1.toNatClampNeg) (0 : Int32) (0 : Int32))
  else ((fX4_find q4.2 (1 : Int32)).bind fun q6 => some (q6.1, q6.2)) else none)
def bX4_wouldFit_3 (k3 : qM → Int32 → Int32 → Int32 → Option (Int32 × qM)) (σ : qM) (x2 : Int32) (x3 : Int32) (x4 : Int32) : Option (Int32 × qM) :=
  if (σ 13 2) ≤ x4 then (some ((1 : Int32), σ))
  else (if qin x4 8 then (fX0_inForceHad σ x2 x3 (σ 14 x4.toNatClampNeg)).bind fun q3 => if qin x4 8 then if q3.1 = (q3.2 15 x4.toNatClampNeg) then (k3 q3.2 x2 x3 (x4 + (1 : Int32)))
  else (some ((0 : Int32), q3.2)) else none else none)
def fX4_wouldFit_3  : qM → Int32 → Int32 → Int32 → Option (Int32 × qM) := qlp (fun _ _ _ _ => none) (bX4_wouldFit_3 ) qFU
def fX4_wouldFit (σ : qM) (x2 : Int32) (x3 : Int32) : Option (Int32 × qM) :=
  fX4_wouldFit_3 σ x2 x3 (0 : Int32)
def fX4_fits_74 (k48 : qM → Int32 → Int32 → Int32 → Int32 → Option (Int32 × qM)) (σ : qM) (x1 : Int32) (x3 : Int32) (x4 : Int32) (x5 : Int32) : Option (Int32 × qM) :=
  k48 σ x1 x3 x4 (x5 + (1 : Int32))
def bX4_fits_48 (k48 : qM → Int32 → Int32 → Int32 → Int32 → Option (Int32 × qM)) (σ : qM) (x1 : Int32) (x3 : Int32) (x4 : Int32) (x5 : Int32) : Option (Int32 × qM) :=
  if x3 ≤ x5 then (some (x4, σ))
  else ((fX4_wouldFit σ x1 x5).bind fun q2 => if q2.1 = 0 then (fX4_fits_74 k48 q2.2 x1 x3 x4 x5)
  else (fX4_fits_74 k48 q2.2 x1 x3 (x4 ||| (jshl (1 : Int32) x5)) x5))
def fX4_fits_48  : qM → Int32 → Int32 → Int32 → Int32 → Option (Int32 × qM) := qlp (fun _ _ _ _ _ => none) (bX4_fits_48 ) qFU
def fX4_fits_41(σ : qM) (x1 : Int32) (t0 : Int32) : Option (Int32 × qM) :=
  fX4_fits_48 σ x1 t0 (0 : Int32) (0 : Int32)
def fX4_fits (σ : qM) (x1 : Int32) : Option (Int32 × qM) :=
  (fX4_below σ x1 (3 : Int32)).bind fun q1 => if q1.1 = 0 then (some ((-2 : Int32), q1.2))
  else ((fX0_settled q1.2).bind fun q3 => if x1 = (1 : Int32) then (fX4_fits_41 q3 x1 (q3 1 5))
  else (fX4_fits_41 q3 x1 (q3 4 5)))
def fJ13_numberOfTrailingZeros_95d88 (σ : qM) (x0 : Int64) : Option (Int32 × qM) :=
  if x0.toInt32 = 0 then ((fJ6_numberOfTrailingZeros_0f7a4 σ ((jlushr x0 (32 : Int32)).toInt32)).bind fun q3 => some (((32 : Int32) + q3.1), q3.2))
  else ((fJ6_numberOfTrailingZeros_0f7a4 σ x0.toInt32).bind fun q2 => some (q2.1, q2.2))
def fJ9_min_7cf53 (σ : qM) (x0 : Int32) (x1 : Int32) : Option (Int32 × qM) :=
  if x1 < x0 then (some (x1, σ))
  else (some (x0, σ))
def fX4_sinks_65(σ : qM) (x4 : Int32) (x5 : Int64) (x7 : Int32) : Option (Int64 × qM) :=
  (fJ13_numberOfTrailingZeros_95d88 σ x5).bind fun q1 => (fJ9_min_7cf53 q1.2 q1.1 x7).bind fun q2 => if x4 = 0 then (some ((jlshr x5 q2.1), q2.2))
  else (some ((jlshl (1 : Int64) (x7 - q2.1)), q2.2))
def fX4_sinks (σ : qM) (x1 : Int32) (x2 : Int32) (x3 : Int32) (x4 : Int32) : Option (Int64 × qM) :=
  (fX4_below σ x1 (17 : Int32)).bind fun q1 => if q1.1 = 0 then (some ((-9223372036854775806 : Int64), q1.2))
  else ((fX4_below q1.2 x2 (4 : Int32)).bind fun q3 => if q3.1 = 0 then (some ((-9223372036854775806 : Int64), q3.2))
  else ((fX4_below q3.2 x3 (8 : Int32)).bind fun q5 => if q5.1 = 0 then (some ((-9223372036854775806 : Int64), q5.2))
  else ((fX4_below q5.2 x4 (2 : Int32)).bind fun q7 => if q7.1 = 0 then (some ((-9223372036854775806 : Int64), q7.2))
  else ((fX0_settled q7.2).bind fun q9 => (fX0_chanceAbove q9 x1 x2 x3).bind fun q10 => fX4_sinks_65 q10.2 x4 q10.1 ((4 : Int32) * (q10.2 1 5))))))
def fX4_mornings_77 (k41 : qM → Int32 → Int32 → Int32 → Int32 → Int32 → Option (Int32 × qM)) (σ : qM) (x2 : Int32) (x3 : Int32) (x5 : Int32) (x6 : Int32) (x7 : Int32) : Option (Int32 × qM) :=
  k41 σ x2 x3 x5 x6 (x7 + (1 : Int32))
def fX4_mornings_58 (k41 : qM → Int32 → Int32 → Int32 → Int32 → Int32 → Option (Int32 × qM)) (σ : qM) (x2 : Int32) (x3 : Int32) (x5 : Int32) (x6 : Int32) (x7 : Int32) : Option (Int32 × qM) :=
  (fX0_isInForce σ (jrem (jushr x5 (16 : Int32)) (4 : Int32)) x3).bind fun q1 => if q1.1 = 0 then (fX4_mornings_77 k41 q1.2 x2 x3 x5 x6 x7)
  else (fX4_mornings_77 k41 q1.2 x2 x3 x5 (x6 + (1 : Int32)) x7)
def bX4_mornings_41 (k41 : qM → Int32 → Int32 → Int32 → Int32 → Int32 → Option (Int32 × qM)) (σ : qM) (x2 : Int32) (x3 : Int32) (x5 : Int32) (x6 : Int32) (x7 : Int32) : Option (Int32 × qM) :=
  if x2 ≤ x7 then (some (x6, σ))
  else (fX4_mornings_58 k41 σ x2 x3 (((1103515245 : Int32) * x5) + (12345 : Int32)) x6 x7)
def fX4_mornings_41  : qM → Int32 → Int32 → Int32 → Int32 → Int32 → Option (Int32 × qM) := qlp (fun _ _ _ _ _ _ => none) (bX4_mornings_41 ) qFU
def fX4_mornings (σ : qM) (x1 : Int32) (x2 : Int32) (x3 : Int32) : Option (Int32 × qM) :=
  if x2 < (1 : Int32) then (some ((-2 : Int32), σ))
  else (if (99 : Int32) < x2 then (some ((-2 : Int32), σ))
  else ((fX4_below σ x3 (8 : Int32)).bind fun q3 => if q3.1 = 0 then (some ((-2 : Int32), q3.2))
  else ((fX0_settled q3.2).bind fun q5 => fX4_mornings_41 q5 x2 x3 x1 (0 : Int32) (0 : Int32))))
def fX4_sheet (σ : qM) (x1 : Int32) (x2 : Int32) (x3 : Int32) : Option (Int32 × qM) :=
  (fX4_below σ x1 (4 : Int32)).bind fun q1 => if q1.1 = 0 then (some ((-2 : Int32), q1.2))
  else ((fX4_below q1.2 x2 (3 : Int32)).bind fun q3 => if q3.1 = 0 then (some ((-2 : Int32), q3.2))
  else (if x3 ≤ (60 : Int32) then (if 0 ≤ x3 then (if qin x1 4 then (fX2_begin q3.2 (44 + 2 * x1.toNatClampNeg) x2 x3).bind fun q8 => some (x3, q8) else none)
  else ((fX4_find q3.2 (5 : Int32)).bind fun q9 => some (q9.1, q9.2)))
  else (some ((-2 : Int32), q3.2))))
def fX4_lose (σ : qM) (x1 : Int32) : Option (Int32 × qM) :=
  (fX4_below σ x1 (4 : Int32)).bind fun q1 => if q1.1 = 0 then (some ((-2 : Int32), q1.2))
  else (if qin x1 4 then (fX2_isLost q1.2 (44 + 2 * x1.toNatClampNeg)).bind fun q4 => if q4.1 = 0 then (if qin x1 4 then (fX2_end q4.2 (44 + 2 * x1.toNatClampNeg)).bind fun q7 => some (q7.1, q7.2) else none)
  else ((fX4_find q4.2 (1 : Int32)).bind fun q8 => some (q8.1, q8.2)) else none)
def fX4_itemFinding (σ : qM) (x0 : Nat) (x1 : Int32) (x2 : Int32) : Option (Int32 × qM) :=
  (fX2_isLost σ x0).bind fun q1 => if q1.1 = 0 then (if (q1.2 x0 1) = x1 then ((fX4_below q1.2 x2 (q1.2 x0 2)).bind fun q4 => if q4.1 = 0 then (some ((2 : Int32), q4.2))
  else (some ((0 : Int32), q4.2)))
  else (some ((3 : Int32), q1.2)))
  else (some ((1 : Int32), q1.2))
def fX4_lay (σ : qM) (x1 : Int32) (x2 : Int32) (x3 : Int32) (x4 : Int32) : Option (Int32 × qM) :=
  (fX4_below σ x1 (4 : Int32)).bind fun q1 => if q1.1 = 0 then (some ((-2 : Int32), q1.2))
  else ((fX4_below q1.2 x2 (3 : Int32)).bind fun q3 => if q3.1 = 0 then (some ((-2 : Int32), q3.2))
  else (if qin x1 4 then (fX4_itemFinding q3.2 (44 + 2 * x1.toNatClampNeg) x2 x3).bind fun q6 => if q6.1 = 0 then (if qin x1 4 then (fX2_put q6.2 (44 + 2 * x1.toNatClampNeg) x3 x4).bind fun q9 => some ((1 : Int32), q9) else none)
  else ((fX4_find q6.2 q6.1).bind fun q10 => some (q10.1, q10.2)) else none))
def fX4_get (σ : qM) (x1 : Int32) (x2 : Int32) (x3 : Int32) : Option (Int32 × qM) :=
  (fX4_below σ x1 (4 : Int32)).bind fun q1 => if q1.1 = 0 then (some ((-2147483648 : Int32), q1.2))
  else ((fX4_below q1.2 x2 (3 : Int32)).bind fun q3 => if q3.1 = 0 then (some ((-2147483648 : Int32), q3.2))
  else (if qin x1 4 then (fX4_itemFinding q3.2 (44 + 2 * x1.toNatClampNeg) x2 x3).bind fun q6 => if q6.1 = 0 then (if qin x1 4 then if qin x3 60 then some ((q6.2 ((44 + 2 * x1.toNatClampNeg) + 1) x3.toNatClampNeg), q6.2) else none else none)
  else ((fX4_find q6.2 q6.1).bind fun q10 => some ((-2147483648 : Int32), q10.2)) else none))
def fX4_copy_51(σ : qM)  : Option (Int32 × qM) :=
  (fX4_find σ (1 : Int32)).bind fun q1 => some (q1.1, q1.2)
def fX4_copy_99(σ : qM)  : Option (Int32 × qM) :=
  (fX4_find σ (2 : Int32)).bind fun q1 => some (q1.1, q1.2)
def fX4_copy (σ : qM) (x1 : Int32) (x2 : Int32) (x3 : Int32) (x4 : Int32) (x5 : Int32) : Option (Int32 × qM) :=
  (fX4_below σ x1 (4 : Int32)).bind fun q1 => if q1.1 = 0 then (some ((-2 : Int32), q1.2))
  else ((fX4_below q1.2 x3 (4 : Int32)).bind fun q3 => if q3.1 = 0 then (some ((-2 : Int32), q3.2))
  else (if qin x1 4 then if qin x3 4 then (fX2_isLost q3.2 (44 + 2 * x1.toNatClampNeg)).bind fun q7 => if q7.1 = 0 then ((fX2_isLost q7.2 (44 + 2 * x3.toNatClampNeg)).bind fun q9 => if q9.1 = 0 then (if (q9.2 (44 + 2 * x1.toNatClampNeg) 1) = (q9.2 (44 + 2 * x3.toNatClampNeg) 1) then ((fX2_has q9.2 (44 + 2 * x1.toNatClampNeg) x2 x5).bind fun q12 => if q12.1 = 0 then (fX4_copy_99 q12.2)
  else ((fX2_has q12.2 (44 + 2 * x3.toNatClampNeg) x4 x5).bind fun q14 => if q14.1 = 0 then (fX4_copy_99 q14.2)
  else (if ¬ x2 < 0 ∧ ¬ x4 < 0 ∧ ¬ x5 < 0 ∧ x2.toNatClampNeg + x5.toNatClampNeg ≤ 60 ∧ x4.toNatClampNeg + x5.toNatClampNeg ≤ 60 then some ((1 : Int32), qset q14.2 ((44 + 2 * x3.toNatClampNeg) + 1) (va_cpy (q14.2 ((44 + 2 * x1.toNatClampNeg) + 1)) (q14.2 ((44 + 2 * x3.toNatClampNeg) + 1)) x2.toNatClampNeg x4.toNatClampNeg x5.toNatClampNeg)) else none)))
  else ((fX4_find q9.2 (4 : Int32)).bind fun q17 => some (q17.1, q17.2)))
  else (fX4_copy_51 q9.2))
  else (fX4_copy_51 q7.2) else none else none))
def bX4_write_53 (k53 : qM → Nat → Int32 → Int32 → Option (Int32 × qM)) (σ : qM) (x2 : Nat) (x4 : Int32) (x5 : Int32) : Option (Int32 × qM) :=
  if x4 ≤ x5 then (some (x4, σ))
  else ((fX4_turnsOn σ x5).bind fun q2 => if qin q2.1 4 then (fX2_put q2.2 x2 x5 (q2.2 29 q2.1.toNatClampNeg)).bind fun q4 => k53 q4 x2 x4 (x5 + (1 : Int32)) else none)
def fX4_write_53  : qM → Nat → Int32 → Int32 → Option (Int32 × qM) := qlp (fun _ _ _ _ => none) (bX4_write_53 ) qFU
def fX4_write (σ : qM) (x1 : Int32) : Option (Int32 × qM) :=
  (fX4_below σ x1 (4 : Int32)).bind fun q1 => if q1.1 = 0 then (some ((-2 : Int32), q1.2))
  else (if qin x1 4 then (fX2_isLost q1.2 (44 + 2 * x1.toNatClampNeg)).bind fun q4 => if q4.1 = 0 then ((fX0_settled q4.2).bind fun q6 => (fJ9_min_7cf53 q6 (q6 (44 + 2 * x1.toNatClampNeg) 2) (28 : Int32)).bind fun q7 => fX4_write_53 q7.2 (44 + 2 * x1.toNatClampNeg) q7.1 (0 : Int32))
  else ((fX4_find q4.2 (1 : Int32)).bind fun q8 => some (q8.1, q8.2)) else none)
def fX4_rulesWithPlus_27 (k4 : qM → Int32 → Int32 → Option (Int32 × qM)) (σ : qM) (x1 : Int32) (x2 : Int32) : Option (Int32 × qM) :=
  k4 σ x1 (x2 + (1 : Int32))
def bX4_rulesWithPlus_4 (k4 : qM → Int32 → Int32 → Option (Int32 × qM)) (σ : qM) (x1 : Int32) (x2 : Int32) : Option (Int32 × qM) :=
  if (σ 4 5) ≤ x2 then (some (x1, σ))
  else ((fX3_part σ 4 x2 (3 : Int32)).bind fun q2 => fX4_rulesWithPlus_27 k4 q2.2 (x1 + q2.1) x2)
def fX4_rulesWithPlus_4  : qM → Int32 → Int32 → Option (Int32 × qM) := qlp (fun _ _ _ => none) (bX4_rulesWithPlus_4 ) qFU
def fX4_rulesWithPlus (σ : qM)  : Option (Int32 × qM) :=
  fX4_rulesWithPlus_4 σ (0 : Int32) (0 : Int32)
def fX4_count (σ : qM) (x1 : Int32) : Option (Int32 × qM) :=
  if x1 = (0 : Int32) then (some ((σ 1 5), σ))
  else (if x1 = (1 : Int32) then (some ((σ 4 5), σ))
  else (if x1 = (2 : Int32) then (some ((σ 1 4), σ))
  else (if x1 = (3 : Int32) then (some ((σ 4 4), σ))
  else (if x1 = (4 : Int32) then (some ((σ 7 2), σ))
  else (if x1 = (5 : Int32) then (some ((σ 10 2), σ))
  else (if x1 = (6 : Int32) then (some ((σ 13 2), σ))
  else (if x1 = (7 : Int32) then ((fX4_rulesWithPlus σ).bind fun q9 => some (q9.1, q9.2))
  else (if x1 = (8 : Int32) then (some ((σ 0 9), σ))
  else (some ((-2 : Int32), σ))))))))))
def fX4_digestOfTexts_118 (k81 : qM → Int64 → Int32 → Option (Int64 × qM)) (k96 : qM → Int64 → Int32 → Int32 → Option (Int64 × qM)) (σ : qM) (x3 : Int64) (x5 : Int32) (x6 : Int32) : Option (Int64 × qM) :=
  k96 σ x3 x5 (x6 + (1 : Int32))
def bX4_digestOfTexts_96 (k81 : qM → Int64 → Int32 → Option (Int64 × qM)) (k96 : qM → Int64 → Int32 → Int32 → Option (Int64 × qM)) (σ : qM) (x3 : Int64) (x5 : Int32) (x6 : Int32) : Option (Int64 × qM) :=
  if (5 : Int32) ≤ x6 then (k81 σ x3 (x5 + (1 : Int32)))
  else ((fX4_rule σ x5 x6).bind fun q2 => fX4_digestOfTexts_118 k81 k96 q2.2 (((31 : Int64) * x3) + q2.1.toInt64) x5 x6)
def fX4_digestOfTexts_96 (k81 : qM → Int64 → Int32 → Option (Int64 × qM)) : qM → Int64 → Int32 → Int32 → Option (Int64 × qM) := qlp (fun _ _ _ _ => none) (bX4_digestOfTexts_96 k81) qFU
def bX4_digestOfTexts_81 (k81 : qM → Int64 → Int32 → Option (Int64 × qM)) (σ : qM) (x3 : Int64) (x5 : Int32) : Option (Int64 × qM) :=
  if (σ 4 5) ≤ x5 then (some (x3, σ))
  else (fX4_digestOfTexts_96 k81 σ x3 x5 (0 : Int32))
def fX4_digestOfTexts_81  : qM → Int64 → Int32 → Option (Int64 × qM) := qlp (fun _ _ _ => none) (bX4_digestOfTexts_81 ) qFU
def fX4_digestOfTexts_66 (k29 : qM → Int64 → Int32 → Option (Int64 × qM)) (k44 : qM → Int64 → Int32 → Int32 → Option (Int64 × qM)) (σ : qM) (x3 : Int64) (x5 : Int32) (x6 : Int32) : Option (Int64 × qM) :=
  k44 σ x3 x5 (x6 + (1 : Int32))
def bX4_digestOfTexts_44 (k29 : qM → Int64 → Int32 → Option (Int64 × qM)) (k44 : qM → Int64 → Int32 → Int32 → Option (Int64 × qM)) (σ : qM) (x3 : Int64) (x5 : Int32) (x6 : Int32) : Option (Int64 × qM) :=
  if (3 : Int32) ≤ x6 then (k29 σ x3 (x5 + (1 : Int32)))
  else ((fX4_leaf σ x5 x6).bind fun q2 => fX4_digestOfTexts_66 k29 k44 q2.2 (((31 : Int64) * x3) + q2.1.toInt64) x5 x6)
def fX4_digestOfTexts_44 (k29 : qM → Int64 → Int32 → Option (Int64 × qM)) : qM → Int64 → Int32 → Int32 → Option (Int64 × qM) := qlp (fun _ _ _ _ => none) (bX4_digestOfTexts_44 k29) qFU
def bX4_digestOfTexts_29 (k29 : qM → Int64 → Int32 → Option (Int64 × qM)) (σ : qM) (x3 : Int64) (x5 : Int32) : Option (Int64 × qM) :=
  if (σ 1 5) ≤ x5 then (fX4_digestOfTexts_81 σ x3 (0 : Int32))
  else (fX4_digestOfTexts_44 k29 σ x3 x5 (0 : Int32))
def fX4_digestOfTexts_29  : qM → Int64 → Int32 → Option (Int64 × qM) := qlp (fun _ _ _ => none) (bX4_digestOfTexts_29 ) qFU
def fX4_digestOfTexts_26(σ : qM) (x3 : Int64) : Option (Int64 × qM) :=
  fX4_digestOfTexts_29 σ x3 (0 : Int32)
def fX4_digestOfTexts_13(σ : qM) (x3 : Int64) : Option (Int64 × qM) :=
  (fX4_fault σ (1 : Int32)).bind fun q1 => fX4_digestOfTexts_26 q1.2 (((31 : Int64) * x3) + q1.1.toInt64)
def fX4_digestOfTexts (σ : qM) (x1 : Int64) : Option (Int64 × qM) :=
  (fX4_fault σ (0 : Int32)).bind fun q1 => fX4_digestOfTexts_13 q1.2 (((31 : Int64) * x1) + q1.1.toInt64)
def fX4_digestOfTurns_120(σ : qM) (x3 : Int32) (x4 : Int64) : Option (Int64 × qM) :=
  (fX4_place σ x3 (0 : Int32)).bind fun q1 => some ((((31 : Int64) * x4) + q1.1.toInt64), q1.2)
def fX4_digestOfTurns_103(σ : qM) (x3 : Int32) (x4 : Int64) : Option (Int64 × qM) :=
  (fX4_strike σ x3 (3 : Int32) (1 : Int32)).bind fun q1 => fX4_digestOfTurns_120 q1.2 x3 (((31 : Int64) * x4) + q1.1.toInt64)
def fX4_digestOfTurns_86(σ : qM) (x3 : Int32) (x4 : Int64) : Option (Int64 × qM) :=
  (fX4_strike σ x3 (3 : Int32) (0 : Int32)).bind fun q1 => fX4_digestOfTurns_103 q1.2 x3 (((31 : Int64) * x4) + q1.1.toInt64)
def fX4_digestOfTurns_68(σ : qM) (x3 : Int32) (x4 : Int64) : Option (Int64 × qM) :=
  (fX4_strain σ x3 (1 : Int32) (2 : Int32) (1 : Int32)).bind fun q1 => fX4_digestOfTurns_86 q1.2 x3 (((31 : Int64) * x4) + q1.1.toInt64)
def fX4_digestOfTurns_50(σ : qM) (x3 : Int32) (x4 : Int64) : Option (Int64 × qM) :=
  (fX4_strain σ x3 (1 : Int32) (2 : Int32) (0 : Int32)).bind fun q1 => fX4_digestOfTurns_68 q1.2 x3 (((31 : Int64) * x4) + q1.1.toInt64)
def fX4_digestOfTurns_29 (k6 : qM → Int32 → Int64 → Int32 → Option (Int64 × qM)) (σ : qM) (x3 : Int32) (x4 : Int64) (x6 : Int32) : Option (Int64 × qM) :=
  k6 σ x3 x4 (x6 + (1 : Int32))
def bX4_digestOfTurns_6 (k6 : qM → Int32 → Int64 → Int32 → Option (Int64 × qM)) (σ : qM) (x3 : Int32) (x4 : Int64) (x6 : Int32) : Option (Int64 × qM) :=
  if (3 : Int32) ≤ x6 then ((fX4_clash σ x3).bind fun q2 => fX4_digestOfTurns_50 q2.2 x3 (((31 : Int64) * x4) + q2.1.toInt64))
  else ((fX4_reading σ x3 x6).bind fun q3 => fX4_digestOfTurns_29 k6 q3.2 x3 (((31 : Int64) * x4) + q3.1.toInt64) x6)
def fX4_digestOfTurns_6  : qM → Int32 → Int64 → Int32 → Option (Int64 × qM) := qlp (fun _ _ _ _ => none) (bX4_digestOfTurns_6 ) qFU
def fX4_digestOfTurns (σ : qM) (x1 : Int64) (x3 : Int32) : Option (Int64 × qM) :=
  fX4_digestOfTurns_6 σ x3 x1 (0 : Int32)
def fX4_digestOfLaw_80(σ : qM) (x3 : Int32) (x4 : Int64) : Option (Int64 × qM) :=
  (fX4_mornings σ (7 : Int32) (20 : Int32) x3).bind fun q1 => some ((((31 : Int64) * x4) + q1.1.toInt64), q1.2)
def fX4_digestOfLaw_63(σ : qM) (x3 : Int32) (x4 : Int64) : Option (Int64 × qM) :=
  (fX4_sinks σ (5 : Int32) (1 : Int32) x3 (1 : Int32)).bind fun q1 => fX4_digestOfLaw_80 q1.2 x3 (((31 : Int64) * x4) + q1.1)
def fX4_digestOfLaw_46(σ : qM) (x3 : Int32) (x4 : Int64) : Option (Int64 × qM) :=
  (fX4_sinks σ (5 : Int32) (1 : Int32) x3 (0 : Int32)).bind fun q1 => fX4_digestOfLaw_63 q1.2 x3 (((31 : Int64) * x4) + q1.1)
def fX4_digestOfLaw_30(σ : qM) (x3 : Int32) (x4 : Int64) : Option (Int64 × qM) :=
  (fX4_sides σ x3 (1 : Int32)).bind fun q1 => fX4_digestOfLaw_46 q1.2 x3 (((31 : Int64) * x4) + q1.1.toInt64)
def fX4_digestOfLaw_14(σ : qM) (x3 : Int32) (x4 : Int64) : Option (Int64 × qM) :=
  (fX4_sides σ x3 (0 : Int32)).bind fun q1 => fX4_digestOfLaw_30 q1.2 x3 (((31 : Int64) * x4) + q1.1.toInt64)
def fX4_digestOfLaw (σ : qM) (x1 : Int64) (x3 : Int32) : Option (Int64 × qM) :=
  (fX4_free σ x3).bind fun q1 => fX4_digestOfLaw_14 q1.2 x3 (((31 : Int64) * x1) + q1.1.toInt64)
def fX4_digest_25 (k6 : qM → Int64 → Int32 → Option (Int64 × qM)) (σ : qM) (x1 : Int64) (x3 : Int32) : Option (Int64 × qM) :=
  k6 σ x1 (x3 + (1 : Int32))
def fX4_digest_137 (k119 : qM → Int64 → Int32 → Option (Int64 × qM)) (σ : qM) (x1 : Int64) (x3 : Int32) : Option (Int64 × qM) :=
  k119 σ x1 (x3 + (1 : Int32))
def bX4_digest_119 (k119 : qM → Int64 → Int32 → Option (Int64 × qM)) (σ : qM) (x1 : Int64) (x3 : Int32) : Option (Int64 × qM) :=
  if (3 : Int32) ≤ x3 then (some (x1, σ))
  else ((fX4_fits σ x3).bind fun q2 => fX4_digest_137 k119 q2.2 (((31 : Int64) * x1) + q2.1.toInt64) x3)
def fX4_digest_119  : qM → Int64 → Int32 → Option (Int64 × qM) := qlp (fun _ _ _ => none) (bX4_digest_119 ) qFU
def fX4_digest_117(σ : qM) (x1 : Int64) : Option (Int64 × qM) :=
  fX4_digest_119 σ x1 (0 : Int32)
def fX4_digest_104(σ : qM) (x1 : Int64) : Option (Int64 × qM) :=
  (fX4_pour σ (5 : Int32)).bind fun q1 => fX4_digest_117 q1.2 (((31 : Int64) * x1) + q1.1.toInt64)
def fX4_digest_91(σ : qM) (x1 : Int64) : Option (Int64 × qM) :=
  (fX4_broken σ (1 : Int32)).bind fun q1 => fX4_digest_104 q1.2 (((31 : Int64) * x1) + q1.1.toInt64)
def bX4_digest_59 (k59 : qM → Int64 → Int32 → Option (Int64 × qM)) (σ : qM) (x1 : Int64) (x3 : Int32) : Option (Int64 × qM) :=
  if (8 : Int32) ≤ x3 then ((fX4_broken σ (0 : Int32)).bind fun q2 => fX4_digest_91 q2.2 (((31 : Int64) * x1) + q2.1.toInt64))
  else ((fX4_digestOfLaw σ x1 x3).bind fun q3 => k59 q3.2 q3.1 (x3 + (1 : Int32)))
def fX4_digest_59  : qM → Int64 → Int32 → Option (Int64 × qM) := qlp (fun _ _ _ => none) (bX4_digest_59 ) qFU
def bX4_digest_39 (k39 : qM → Int64 → Int32 → Option (Int64 × qM)) (σ : qM) (x1 : Int64) (x3 : Int32) : Option (Int64 × qM) :=
  if (4 : Int32) ≤ x3 then (fX4_digest_59 σ x1 (0 : Int32))
  else ((fX4_digestOfTurns σ x1 x3).bind fun q2 => k39 q2.2 q2.1 (x3 + (1 : Int32)))
def fX4_digest_39  : qM → Int64 → Int32 → Option (Int64 × qM) := qlp (fun _ _ _ => none) (bX4_digest_39 ) qFU
def bX4_digest_6 (k6 : qM → Int64 → Int32 → Option (Int64 × qM)) (σ : qM) (x1 : Int64) (x3 : Int32) : Option (Int64 × qM) :=
  if (7 : Int32) < x3 then ((fX4_digestOfTexts σ x1).bind fun q2 => fX4_digest_39 q2.2 q2.1 (0 : Int32))
  else ((fX4_count σ x3).bind fun q3 => fX4_digest_25 k6 q3.2 (((31 : Int64) * x1) + q3.1.toInt64) x3)
def fX4_digest_6  : qM → Int64 → Int32 → Option (Int64 × qM) := qlp (fun _ _ _ => none) (bX4_digest_6 ) qFU
def fX4_digest (σ : qM)  : Option (Int64 × qM) :=
  fX4_digest_6 σ (17 : Int64) (0 : Int32)
def fX5_in (σ : qM) (x0 : Int64) (x2 : Int64) (x4 : Int64) : Option (Int32 × qM) :=
  if (lg_cmp x0 x2) < 0 then (some ((0 : Int32), σ))
  else (if 0 < (lg_cmp x0 x4) then (some ((0 : Int32), σ))
  else (some ((1 : Int32), σ)))
def fX5_no (σ : qM) (x0 : Int32) : Option (Int64 × qM) :=
  some (((-9223372036854775808 : Int64) - x0.toInt64), σ)
def fX5_isTwo (σ : qM) (x0 : Int32) : Option (Int32 × qM) :=
  (fX5_in σ x0.toInt64 (0 : Int64) (1 : Int64)).bind fun q1 => if q1.1 = 0 ∨ q1.1 = 1 then some (q1.1, q1.2) else none
def fX5_isIn (σ : qM) (x0 : Int32) (x1 : Int32) : Option (Int32 × qM) :=
  if ((jshr x0 x1) &&& (1 : Int32)) = (1 : Int32) then (some ((1 : Int32), σ))
  else (some ((0 : Int32), σ))
def fX5_ones_17 (k4 : qM → Int32 → Int32 → Option (Int32 × qM)) (σ : qM) (x1 : Int32) (x2 : Int32) : Option (Int32 × qM) :=
  k4 σ x1 x2
def bX5_ones_4 (k4 : qM → Int32 → Int32 → Option (Int32 × qM)) (σ : qM) (x1 : Int32) (x2 : Int32) : Option (Int32 × qM) :=
  if x2 = 0 then (some (x1, σ))
  else (fX5_ones_17 k4 σ (x1 + (1 : Int32)) (x2 &&& (x2 - (1 : Int32))))
def fX5_ones_4  : qM → Int32 → Int32 → Option (Int32 × qM) := qlp (fun _ _ _ => none) (bX5_ones_4 ) qFU
def fX5_ones (σ : qM) (x0 : Int32) : Option (Int32 × qM) :=
  fX5_ones_4 σ (0 : Int32) x0
def fX5_amount (σ : qM) (x0 : Int32) : Option (Int32 × qM) :=
  if 0 ≤ x0 then (some (x0, σ))
  else (some ((-x0), σ))
def fX5_part_28 (k6 : qM → Int64 → Int64 → Int32 → Int64 → Int64 → Option (Int64 × qM)) (σ : qM) (x0 : Int64) (x2 : Int64) (x4 : Int32) (x5 : Int64) (x7 : Int64) : Option (Int64 × qM) :=
  k6 σ x0 x2 x4 x5 x7
def bX5_part_6 (k6 : qM → Int64 → Int64 → Int32 → Int64 → Int64 → Option (Int64 × qM)) (σ : qM) (x0 : Int64) (x2 : Int64) (x4 : Int32) (x5 : Int64) (x7 : Int64) : Option (Int64 × qM) :=
  if (lg_cmp x7 (0 : Int64)) = 0 then (if x4 = 0 then (if ¬ x5 = 0 then some ((x0 / x5), σ) else none)
  else (if ¬ x5 = 0 then some ((x2 / x5), σ) else none))
  else (if ¬ x7 = 0 then fX5_part_28 k6 σ x0 x2 x4 x7 (jlrem x5 x7) else none)
def fX5_part_6  : qM → Int64 → Int64 → Int32 → Int64 → Int64 → Option (Int64 × qM) := qlp (fun _ _ _ _ _ _ => none) (bX5_part_6 ) qFU
def fX5_part (σ : qM) (x0 : Int64) (x2 : Int64) (x4 : Int32) : Option (Int64 × qM) :=
  fX5_part_6 σ x0 x2 x4 x0 x2
def fX5_finds (σ : qM) (x1 : Int32) : Option (Int32 × qM) :=
  some (((-10 : Int32) - x1), qup σ 0 4 x1)
def fX5_isSheet (σ : qM) (x0 : Int32) : Option (Int32 × qM) :=
  (fX5_in σ x0.toInt64 (0 : Int64) (3 : Int64)).bind fun q1 => if q1.1 = 0 ∨ q1.1 = 1 then some (q1.1, q1.2) else none
def bX5_sheet_55 (k55 : qM → Int32 → Int32 → Int32 → Option (Int32 × qM)) (σ : qM) (x1 : Int32) (x3 : Int32) (x4 : Int32) : Option (Int32 × qM) :=
  if x3 ≤ x4 then (some (x3, σ))
  else (if qin (((60 : Int32) * x1) + x4) 240 then k55 (qup σ 3 (((60 : Int32) * x1) + x4).toNatClampNeg (0 : Int32)) x1 x3 (x4 + (1 : Int32)) else none)
def fX5_sheet_55  : qM → Int32 → Int32 → Int32 → Option (Int32 × qM) := qlp (fun _ _ _ _ => none) (bX5_sheet_55 ) qFU
def fX5_sheet_45(σ : qM) (x1 : Int32) (x3 : Int32) : Option (Int32 × qM) :=
  if qin x1 4 then fX5_sheet_55 (qup σ 2 x1.toNatClampNeg x3) x1 x3 (0 : Int32) else none
def fX5_sheet (σ : qM) (x1 : Int32) (x2 : Int32) (x3 : Int32) : Option (Int32 × qM) :=
  (fX5_isSheet σ x1).bind fun q1 => if q1.1 = 0 then (some ((-2 : Int32), q1.2))
  else ((fX5_in q1.2 x2.toInt64 (0 : Int64) (2 : Int64)).bind fun q3 => if q3.1 = 0 then (some ((-2 : Int32), q3.2))
  else (if x3 ≤ (60 : Int32) then (if 0 ≤ x3 then (if qin x1 4 then fX5_sheet_45 (qup q3.2 1 x1.toNatClampNeg x2) x1 x3 else none)
  else ((fX5_finds q3.2 (5 : Int32)).bind fun q8 => some (q8.1, q8.2)))
  else (some ((-2 : Int32), q3.2))))
def fX5_lose_32(σ : qM) (x1 : Int32) : Option (Int32 × qM) :=
  if qin x1 4 then some ((σ 2 x1.toNatClampNeg), σ) else none
def fX5_lose (σ : qM) (x1 : Int32) : Option (Int32 × qM) :=
  (fX5_isSheet σ x1).bind fun q1 => if q1.1 = 0 then (some ((-2 : Int32), q1.2))
  else (if qin x1 4 then if 0 ≤ (q1.2 1 x1.toNatClampNeg) then (if qin x1 4 then fX5_lose_32 (qup q1.2 1 x1.toNatClampNeg (-1 : Int32)) x1 else none)
  else ((fX5_finds q1.2 (1 : Int32)).bind fun q6 => some (q6.1, q6.2)) else none)
def fX5_lacks (σ : qM) (x1 : Int32) (x2 : Int32) (x3 : Int32) : Option (Int32 × qM) :=
  if qin x1 4 then if 0 ≤ (σ 1 x1.toNatClampNeg) then (if qin x1 4 then if (σ 1 x1.toNatClampNeg) = x2 then (if qin x1 4 then (fX5_in σ x3.toInt64 (0 : Int64) (((σ 2 x1.toNatClampNeg) - (1 : Int32)).toInt64)).bind fun q6 => if q6.1 = 0 then ((fX5_finds q6.2 (2 : Int32)).bind fun q8 => some (q8.1, q8.2))
  else (some ((0 : Int32), q6.2)) else none)
  else ((fX5_finds σ (3 : Int32)).bind fun q9 => some (q9.1, q9.2)) else none)
  else ((fX5_finds σ (1 : Int32)).bind fun q10 => some (q10.1, q10.2)) else none
def fX5_cut (σ : qM) (x0 : Int32) (x1 : Int32) : Option (Int32 × qM) :=
  if x0 = 0 then (some (x1.toInt8.toInt32, σ))
  else (if x0 = (1 : Int32) then (some (x1.toInt16.toInt32, σ))
  else (some (x1, σ)))
def fX5_lay (σ : qM) (x1 : Int32) (x2 : Int32) (x3 : Int32) (x4 : Int32) : Option (Int32 × qM) :=
  (fX5_isSheet σ x1).bind fun q1 => if q1.1 = 0 then (some ((-2 : Int32), q1.2))
  else ((fX5_in q1.2 x2.toInt64 (0 : Int64) (2 : Int64)).bind fun q3 => if q3.1 = 0 then (some ((-2 : Int32), q3.2))
  else ((fX5_lacks q3.2 x1 x2 x3).bind fun q5 => if q5.1 = 0 then ((fX5_cut q5.2 x2 x4).bind fun q7 => if qin (((60 : Int32) * x1) + x3) 240 then some ((1 : Int32), qup q7.2 3 (((60 : Int32) * x1) + x3).toNatClampNeg q7.1) else none)
  else (some (q5.1, q5.2))))
def fX5_get (σ : qM) (x1 : Int32) (x2 : Int32) (x3 : Int32) : Option (Int32 × qM) :=
  (fX5_isSheet σ x1).bind fun q1 => if q1.1 = 0 then (some ((-2147483648 : Int32), q1.2))
  else ((fX5_in q1.2 x2.toInt64 (0 : Int64) (2 : Int64)).bind fun q3 => if q3.1 = 0 then (some ((-2147483648 : Int32), q3.2))
  else ((fX5_lacks q3.2 x1 x2 x3).bind fun q5 => if q5.1 = 0 then (if qin (((60 : Int32) * x1) + x3) 240 then some ((q5.2 3 (((60 : Int32) * x1) + x3).toNatClampNeg), q5.2) else none)
  else (some ((-2147483648 : Int32), q5.2))))
def fX5_copy_35(σ : qM)  : Option (Int32 × qM) :=
  (fX5_finds σ (1 : Int32)).bind fun q1 => some (q1.1, q1.2)
def fX5_copy_111(σ : qM)  : Option (Int32 × qM) :=
  (fX5_finds σ (2 : Int32)).bind fun q1 => some (q1.1, q1.2)
def bX5_copy_157 (k157 : qM → Int32 → Int32 → Int32 → Int32 → Option (Int32 × qM)) (σ : qM) (x3 : Int32) (x4 : Int32) (x5 : Int32) (x6 : Int32) : Option (Int32 × qM) :=
  if x5 ≤ x6 then (some ((1 : Int32), σ))
  else (if qin x6 60 then if qin ((((60 : Int32) * x3) + x4) + x6) 240 then k157 (qup σ 3 ((((60 : Int32) * x3) + x4) + x6).toNatClampNeg (σ 4 x6.toNatClampNeg)) x3 x4 x5 (x6 + (1 : Int32)) else none else none)
def fX5_copy_157  : qM → Int32 → Int32 → Int32 → Int32 → Option (Int32 × qM) := qlp (fun _ _ _ _ _ => none) (bX5_copy_157 ) qFU
def bX5_copy_120 (k120 : qM → Int32 → Int32 → Int32 → Int32 → Int32 → Int32 → Option (Int32 × qM)) (σ : qM) (x1 : Int32) (x2 : Int32) (x3 : Int32) (x4 : Int32) (x5 : Int32) (x6 : Int32) : Option (Int32 × qM) :=
  if x5 ≤ x6 then (fX5_copy_157 σ x3 x4 x5 (0 : Int32))
  else (if qin ((((60 : Int32) * x1) + x2) + x6) 240 then if qin x6 60 then k120 (qup σ 4 x6.toNatClampNeg (σ 3 ((((60 : Int32) * x1) + x2) + x6).toNatClampNeg)) x1 x2 x3 x4 x5 (x6 + (1 : Int32)) else none else none)
def fX5_copy_120  : qM → Int32 → Int32 → Int32 → Int32 → Int32 → Int32 → Option (Int32 × qM) := qlp (fun _ _ _ _ _ _ _ => none) (bX5_copy_120 ) qFU
def fX5_copy (σ : qM) (x1 : Int32) (x2 : Int32) (x3 : Int32) (x4 : Int32) (x5 : Int32) : Option (Int32 × qM) :=
  (fX5_isSheet σ x1).bind fun q1 => if q1.1 = 0 then (some ((-2 : Int32), q1.2))
  else ((fX5_isSheet q1.2 x3).bind fun q3 => if q3.1 = 0 then (some ((-2 : Int32), q3.2))
  else (if qin x1 4 then if (q3.2 1 x1.toNatClampNeg) < 0 then (fX5_copy_35 q3.2)
  else (if qin x3 4 then if 0 ≤ (q3.2 1 x3.toNatClampNeg) then (if qin x1 4 then if qin x3 4 then if (q3.2 1 x1.toNatClampNeg) = (q3.2 1 x3.toNatClampNeg) then (if x2 < 0 then (fX5_copy_111 q3.2)
  else (if x4 < 0 then (fX5_copy_111 q3.2)
  else (if x5 < 0 then (fX5_copy_111 q3.2)
  else (if qin x1 4 then if 0 < (lg_cmp (x2.toInt64 + x5.toInt64) ((q3.2 2 x1.toNatClampNeg).toInt64)) then (fX5_copy_111 q3.2)
  else (if qin x3 4 then if (lg_cmp (x4.toInt64 + x5.toInt64) ((q3.2 2 x3.toNatClampNeg).toInt64)) ≤ 0 then (fX5_copy_120 q3.2 x1 x2 x3 x4 x5 (0 : Int32))
  else (fX5_copy_111 q3.2) else none) else none))))
  else ((fX5_finds q3.2 (4 : Int32)).bind fun q19 => some (q19.1, q19.2)) else none else none)
  else (fX5_copy_35 q3.2) else none) else none))
def fX5_type_72(σ : qM) (x1 : Int32) : Option (Int32 × qM) :=
  if qin x1 2 then some ((σ 6 x1.toNatClampNeg), σ) else none
def fX5_type_62(σ : qM) (x1 : Int32) : Option (Int32 × qM) :=
  if qin x1 2 then if qin x1 2 then fX5_type_72 (qup σ 6 x1.toNatClampNeg ((σ 6 x1.toNatClampNeg) + (1 : Int32))) x1 else none else none
def fX5_type_39(σ : qM) (x1 : Int32) (x2 : Int32) (t0 : Int32) (t1 : Int32) : Option (Int32 × qM) :=
  if t1 = t0 then (some ((-4 : Int32), σ))
  else (if qin x1 2 then if qin (((60 : Int32) * x1) + (σ 6 x1.toNatClampNeg)) 120 then fX5_type_62 (qup σ 5 (((60 : Int32) * x1) + (σ 6 x1.toNatClampNeg)).toNatClampNeg x2) x1 else none else none)
def fX5_type (σ : qM) (x1 : Int32) (x2 : Int32) : Option (Int32 × qM) :=
  (fX5_isTwo σ x1).bind fun q1 => if q1.1 = 0 then (some ((-2 : Int32), q1.2))
  else ((fX5_in q1.2 x2.toInt64 (0 : Int64) (255 : Int64)).bind fun q3 => if q3.1 = 0 then (some ((-2 : Int32), q3.2))
  else (if qin x1 2 then if x1 = 0 then (fX5_type_39 q3.2 x1 x2 (47 : Int32) (q3.2 6 x1.toNatClampNeg))
  else (fX5_type_39 q3.2 x1 x2 (59 : Int32) (q3.2 6 x1.toNatClampNeg)) else none))
def fX5_wipe (σ : qM) (x1 : Int32) : Option (Int32 × qM) :=
  (fX5_isTwo σ x1).bind fun q1 => if q1.1 = 0 then (some ((-2 : Int32), q1.2))
  else (if qin x1 2 then if qin x1 2 then some ((q1.2 6 x1.toNatClampNeg), qup q1.2 6 x1.toNatClampNeg (0 : Int32)) else none else none)
def fX5_undo_32(σ : qM) (x1 : Int32) : Option (Int32 × qM) :=
  if qin x1 2 then some ((σ 6 x1.toNatClampNeg), σ) else none
def fX5_undo (σ : qM) (x1 : Int32) : Option (Int32 × qM) :=
  (fX5_isTwo σ x1).bind fun q1 => if q1.1 = 0 then (some ((-2 : Int32), q1.2))
  else (if qin x1 2 then if (q1.2 6 x1.toNatClampNeg) = 0 then (some ((-3 : Int32), q1.2))
  else (if qin x1 2 then if qin x1 2 then fX5_undo_32 (qup q1.2 6 x1.toNatClampNeg ((q1.2 6 x1.toNatClampNeg) - (1 : Int32))) x1 else none else none) else none)
def fX5_shapeOf (σ : qM) (x0 : Int32) : Option (Int32 × qM) :=
  if x0 = (115 : Int32) then (some ((0 : Int32), σ))
  else (if x0 = (100 : Int32) then (some ((1 : Int32), σ))
  else (if x0 = (114 : Int32) then (some ((2 : Int32), σ))
  else (some ((-1 : Int32), σ))))
def fX5_lieOf (σ : qM) (x0 : Int32) : Option (Int32 × qM) :=
  if x0 = (110 : Int32) then (some ((0 : Int32), σ))
  else (if x0 = (111 : Int32) then (some ((1 : Int32), σ))
  else (if x0 = (102 : Int32) then (some ((2 : Int32), σ))
  else (if x0 = (98 : Int32) then (some ((3 : Int32), σ))
  else (some ((-1 : Int32), σ)))))
def fX5_within (σ : qM) (x0 : Int32) (x1 : Int32) (x2 : Int32) : Option (Int32 × qM) :=
  (fX5_in σ x0.toInt64 x1.toInt64 x2.toInt64).bind fun q1 => if q1.1 = 0 then (some ((-1 : Int32), q1.2))
  else (some ((x0 - x1), q1.2))
def fX5_tellsOf_72(σ : qM) (x2 : Int32) : Option (Int32 × qM) :=
  (fX5_shapeOf σ x2).bind fun q1 => some (q1.1, q1.2)
def fX5_tellsOf (σ : qM) (x0 : Int32) (x1 : Int32) (x2 : Int32) : Option (Int32 × qM) :=
  if x0 = 0 then (if x1 = 0 then ((fX5_within σ x2 (97 : Int32) (102 : Int32)).bind fun q14 => some (q14.1, q14.2))
  else (if x1 = (1 : Int32) then ((fX5_within σ x2 (49 : Int32) (54 : Int32)).bind fun q13 => some (q13.1, q13.2))
  else ((fX5_shapeOf σ x2).bind fun q12 => some (q12.1, q12.2))))
  else (if x1 = (0 : Int32) then (fX5_tellsOf_72 σ x2)
  else (if x1 = (1 : Int32) then ((fX5_lieOf σ x2).bind fun q4 => some (q4.1, q4.2))
  else (if x1 = (2 : Int32) then (fX5_tellsOf_72 σ x2)
  else (if x1 = (3 : Int32) then (if x2 = (43 : Int32) then (some ((1 : Int32), σ))
  else (if x2 = (45 : Int32) then (some ((0 : Int32), σ))
  else (some ((-1 : Int32), σ))))
  else ((fX5_within σ x2 (65 : Int32) (72 : Int32)).bind fun q9 => some (q9.1, q9.2))))))
def fX5_readsThing_127 (k39 : qM → Int32 → Int32 → Int32 → Option (Int32 × qM)) (σ : qM) (x1 : Int32) (x2 : Int32) (x3 : Int32) : Option (Int32 × qM) :=
  k39 (qup σ 0 7 ((σ 0 7) + (1 : Int32))) x1 x2 (x3 + (1 : Int32))
def fX5_readsThing_80 (k39 : qM → Int32 → Int32 → Int32 → Option (Int32 × qM)) (σ : qM) (x1 : Int32) (x2 : Int32) (x3 : Int32) (t0 : Int32) : Option (Int32 × qM) :=
  if t0 = (-1 : Int32) then (some ((0 : Int32), σ))
  else (if x1 = 0 then (if qin (((3 : Int32) * (σ 0 8)) + x3) 39 then fX5_readsThing_127 k39 (qup σ 7 (((3 : Int32) * (σ 0 8)) + x3).toNatClampNeg t0) x1 x2 x3 else none)
  else (if qin (((5 : Int32) * (σ 0 10)) + x3) 50 then fX5_readsThing_127 k39 (qup σ 8 (((5 : Int32) * (σ 0 10)) + x3).toNatClampNeg t0) x1 x2 x3 else none))
def fX5_readsThing_161(σ : qM) (x1 : Int32) : Option (Int32 × qM) :=
  some ((1 : Int32), qup σ 0 10 ((σ 0 10) + x1))
def fX5_readsThing_157(σ : qM) (x1 : Int32) (t0 : Int32) (t1 : Int32) : Option (Int32 × qM) :=
  fX5_readsThing_161 (qup σ 0 8 (t1 + t0)) x1
def bX5_readsThing_39 (k39 : qM → Int32 → Int32 → Int32 → Option (Int32 × qM)) (σ : qM) (x1 : Int32) (x2 : Int32) (x3 : Int32) : Option (Int32 × qM) :=
  if x2 ≤ x3 then (if x1 = 0 then (fX5_readsThing_157 σ x1 (1 : Int32) (σ 0 8))
  else (fX5_readsThing_157 σ x1 (0 : Int32) (σ 0 8)))
  else (if qin x1 2 then if (σ 6 x1.toNatClampNeg) ≤ (σ 0 7) then (fX5_readsThing_80 k39 σ x1 x2 x3 (-1 : Int32))
  else (if qin (((60 : Int32) * x1) + (σ 0 7)) 120 then (fX5_tellsOf σ x1 x3 (σ 5 (((60 : Int32) * x1) + (σ 0 7)).toNatClampNeg)).bind fun q6 => fX5_readsThing_80 k39 q6.2 x1 x2 x3 q6.1 else none) else none)
def fX5_readsThing_39  : qM → Int32 → Int32 → Int32 → Option (Int32 × qM) := qlp (fun _ _ _ _ => none) (bX5_readsThing_39 ) qFU
def fX5_readsThing_37(σ : qM) (x1 : Int32) (x2 : Int32) : Option (Int32 × qM) :=
  fX5_readsThing_39 σ x1 x2 (0 : Int32)
def fX5_readsThing_9(σ : qM) (x1 : Int32) (t0 : Int32) : Option (Int32 × qM) :=
  if x1 = 0 then (if (σ 0 8) = (12 : Int32) then (some ((0 : Int32), σ))
  else (fX5_readsThing_37 σ x1 t0))
  else (if (σ 0 10) = (10 : Int32) then (some ((0 : Int32), σ))
  else (fX5_readsThing_37 σ x1 t0))
def fX5_readsThing (σ : qM) (x1 : Int32) : Option (Int32 × qM) :=
  if x1 = 0 then (fX5_readsThing_9 σ x1 (3 : Int32))
  else (fX5_readsThing_9 σ x1 (5 : Int32))
def fX5_empty_30(σ : qM) (t0 : Int32) : Option qM :=
  some (qup σ 0 10 t0)
def fX5_empty_13(σ : qM) (x1 : Int32) (t0 : Int32) : Option qM :=
  if x1 = (1 : Int32) then (fX5_empty_30 (qup σ 0 8 t0) (0 : Int32))
  else (fX5_empty_30 (qup σ 0 8 t0) ((qup σ 0 8 t0) 0 10))
def fX5_empty (σ : qM) (x1 : Int32) : Option qM :=
  if x1 = 0 then (fX5_empty_13 σ x1 (0 : Int32))
  else (fX5_empty_13 σ x1 (σ 0 8))
def fX5_readsText_85(σ : qM) (x1 : Int32) : Option (Int32 × qM) :=
  (fX5_empty σ x1).bind fun q1 => some ((q1 0 7), q1)
def fX5_readsText_109 (k25 : qM → Int32 → Int32 → Option (Int32 × qM)) (σ : qM) (x1 : Int32) (x2 : Int32) (t0 : Int32) (t1 : Int32) : Option (Int32 × qM) :=
  k25 (qup σ 0 7 (t1 + t0)) x1 x2
def fX5_readsText_95 (k25 : qM → Int32 → Int32 → Option (Int32 × qM)) (σ : qM) (x1 : Int32) (x2 : Int32) : Option (Int32 × qM) :=
  if x2 = 0 then (fX5_readsText_109 k25 σ x1 x2 (0 : Int32) (σ 0 7))
  else (fX5_readsText_109 k25 σ x1 x2 (1 : Int32) (σ 0 7))
def fX5_readsText_57 (k25 : qM → Int32 → Int32 → Option (Int32 × qM)) (σ : qM) (x1 : Int32) (x3 : Int32) (t0 : Int32) : Option (Int32 × qM) :=
  if x3 = 0 then (fX5_readsText_85 σ x1)
  else (if t0 = 0 then (fX5_readsText_95 k25 σ x1 t0)
  else (if qin (((60 : Int32) * x1) + (σ 0 7)) 120 then if (σ 5 (((60 : Int32) * x1) + (σ 0 7)).toNatClampNeg) = (59 : Int32) then (fX5_readsText_95 k25 σ x1 t0)
  else (fX5_readsText_85 σ x1) else none))
def fX5_readsText_56 (k25 : qM → Int32 → Int32 → Option (Int32 × qM)) (σ : qM) (x1 : Int32) (x3 : Int32) : Option (Int32 × qM) :=
  fX5_readsText_57 k25 σ x1 x3 (0 : Int32)
def bX5_readsText_25 (k25 : qM → Int32 → Int32 → Option (Int32 × qM)) (σ : qM) (x1 : Int32) (x2 : Int32) : Option (Int32 × qM) :=
  if x2 = 0 then (some ((-1 : Int32), σ))
  else ((fX5_readsThing σ x1).bind fun q2 => if q2.1 = 0 then (fX5_readsText_56 k25 q2.2 x1 q2.1)
  else (if qin x1 2 then if (q2.2 6 x1.toNatClampNeg) ≤ (q2.2 0 7) then (fX5_readsText_56 k25 q2.2 x1 q2.1)
  else (fX5_readsText_57 k25 q2.2 x1 q2.1 (1 : Int32)) else none))
def fX5_readsText_25  : qM → Int32 → Int32 → Option (Int32 × qM) := qlp (fun _ _ _ => none) (bX5_readsText_25 ) qFU
def fX5_readsText_24(σ : qM) (x1 : Int32) (t0 : Int32) : Option (Int32 × qM) :=
  fX5_readsText_25 σ x1 t0
def fX5_readsText_5(σ : qM) (x1 : Int32) : Option (Int32 × qM) :=
  (fX5_empty σ x1).bind fun q1 => if qin x1 2 then if (q1 6 x1.toNatClampNeg) ≤ 0 then (fX5_readsText_24 q1 x1 (0 : Int32))
  else (fX5_readsText_24 q1 x1 (1 : Int32)) else none
def fX5_readsText (σ : qM) (x1 : Int32) : Option (Int32 × qM) :=
  fX5_readsText_5 (qup σ 0 7 (0 : Int32)) x1
def fX5_reads (σ : qM)  : Option qM :=
  (fX5_readsText σ (0 : Int32)).bind fun q1 => (fX5_readsText q1.2 (1 : Int32)).bind fun q2 => some q2.2
def fX5_fault (σ : qM) (x1 : Int32) : Option (Int32 × qM) :=
  (fX5_isTwo σ x1).bind fun q1 => if q1.1 = 0 then (some ((-2 : Int32), q1.2))
  else ((fX5_readsText q1.2 x1).bind fun q3 => some (q3.1, q3.2))
def fX5_isLeaf (σ : qM) (x1 : Int32) : Option (Int32 × qM) :=
  (fX5_in σ x1.toInt64 (0 : Int64) (((σ 0 8) - (1 : Int32)).toInt64)).bind fun q1 => if q1.1 = 0 ∨ q1.1 = 1 then some (q1.1, q1.2) else none
def fX5_isLaw (σ : qM) (x0 : Int32) : Option (Int32 × qM) :=
  (fX5_in σ x0.toInt64 (0 : Int64) (7 : Int64)).bind fun q1 => if q1.1 = 0 ∨ q1.1 = 1 then some (q1.1, q1.2) else none
def fX5_areLaws (σ : qM) (x0 : Int32) : Option (Int32 × qM) :=
  (fX5_in σ x0.toInt64 (0 : Int64) (255 : Int64)).bind fun q1 => if q1.1 = 0 ∨ q1.1 = 1 then some (q1.1, q1.2) else none
def fX5_areTurns (σ : qM) (x0 : Int32) : Option (Int32 × qM) :=
  (fX5_in σ x0.toInt64 (0 : Int64) (3 : Int64)).bind fun q1 => if q1.1 = 0 ∨ q1.1 = 1 then some (q1.1, q1.2) else none
def fX5_isDay (σ : qM) (x0 : Int32) : Option (Int32 × qM) :=
  (fX5_in σ x0.toInt64 (0 : Int64) (27 : Int64)).bind fun q1 => if q1.1 = 0 ∨ q1.1 = 1 then some (q1.1, q1.2) else none
def fX5_leaf (σ : qM) (x1 : Int32) (x2 : Int32) : Option (Int32 × qM) :=
  (fX5_reads σ).bind fun q1 => (fX5_isLeaf q1 x1).bind fun q2 => if q2.1 = 0 then (some ((-2 : Int32), q2.2))
  else ((fX5_in q2.2 x2.toInt64 (0 : Int64) (2 : Int64)).bind fun q4 => if q4.1 = 0 then (some ((-2 : Int32), q4.2))
  else (if qin (((3 : Int32) * x1) + x2) 39 then some ((q4.2 7 (((3 : Int32) * x1) + x2).toNatClampNeg), q4.2) else none))
def fX5_rule (σ : qM) (x1 : Int32) (x2 : Int32) : Option (Int32 × qM) :=
  (fX5_reads σ).bind fun q1 => (fX5_in q1 x1.toInt64 (0 : Int64) (((q1 0 10) - (1 : Int32)).toInt64)).bind fun q2 => if q2.1 = 0 then (some ((-2 : Int32), q2.2))
  else ((fX5_in q2.2 x2.toInt64 (0 : Int64) (4 : Int64)).bind fun q4 => if q4.1 = 0 then (some ((-2 : Int32), q4.2))
  else (if qin (((5 : Int32) * x1) + x2) 50 then some ((q4.2 8 (((5 : Int32) * x1) + x2).toNatClampNeg), q4.2) else none))
def fX5_crack_75(σ : qM)  : Option (Int32 × qM) :=
  some ((σ 0 12), σ)
def fX5_crack_65(σ : qM)  : Option (Int32 × qM) :=
  fX5_crack_75 (qup σ 0 12 ((σ 0 12) + (1 : Int32)))
def fX5_crack_51(σ : qM) (x2 : Int32) : Option (Int32 × qM) :=
  if qin (((2 : Int32) * (σ 0 12)) + (1 : Int32)) 16 then fX5_crack_65 (qup σ 9 (((2 : Int32) * (σ 0 12)) + (1 : Int32)).toNatClampNeg x2) else none
def fX5_crack (σ : qM) (x1 : Int32) (x2 : Int32) : Option (Int32 × qM) :=
  (fX5_in σ x1.toInt64 (0 : Int64) (5 : Int64)).bind fun q1 => if q1.1 = 0 then (some ((-2 : Int32), q1.2))
  else ((fX5_in q1.2 x2.toInt64 (0 : Int64) (5 : Int64)).bind fun q3 => if q3.1 = 0 then (some ((-2 : Int32), q3.2))
  else (if (q3.2 0 12) = (8 : Int32) then (some ((-4 : Int32), q3.2))
  else (if qin ((2 : Int32) * (q3.2 0 12)) 16 then fX5_crack_51 (qup q3.2 9 ((2 : Int32) * (q3.2 0 12)).toNatClampNeg x1) x2 else none)))
def fX5_deed_65(σ : qM)  : Option (Int32 × qM) :=
  some ((σ 0 14), σ)
def fX5_deed_55(σ : qM)  : Option (Int32 × qM) :=
  fX5_deed_65 (qup σ 0 14 ((σ 0 14) + (1 : Int32)))
def fX5_deed_41(σ : qM) (x2 : Int32) : Option (Int32 × qM) :=
  if qin (((2 : Int32) * (σ 0 14)) + (1 : Int32)) 24 then fX5_deed_55 (qup σ 10 (((2 : Int32) * (σ 0 14)) + (1 : Int32)).toNatClampNeg x2) else none
def fX5_deed (σ : qM) (x1 : Int32) (x2 : Int32) : Option (Int32 × qM) :=
  (fX5_isDay σ x1).bind fun q1 => if q1.1 = 0 then (some ((-2 : Int32), q1.2))
  else ((fX5_isLaw q1.2 x2).bind fun q3 => if q3.1 = 0 then (some ((-2 : Int32), q3.2))
  else (if (q3.2 0 14) = (12 : Int32) then (some ((-4 : Int32), q3.2))
  else (if qin ((2 : Int32) * (q3.2 0 14)) 24 then fX5_deed_41 (qup q3.2 10 ((2 : Int32) * (q3.2 0 14)).toNatClampNeg x1) x2 else none)))
def fX5_back_51(σ : qM) (x1 : Int32) (x2 : Int32) : Option (Int32 × qM) :=
  some ((x2 - (1 : Int32)), qup σ 0 14 ((σ 0 14) - x1))
def fX5_back_47(σ : qM) (x1 : Int32) (x2 : Int32) (t0 : Int32) (t1 : Int32) : Option (Int32 × qM) :=
  fX5_back_51 (qup σ 0 12 (t1 - t0)) x1 x2
def fX5_back_25(σ : qM) (x1 : Int32) (t0 : Int32) : Option (Int32 × qM) :=
  if t0 = 0 then (some ((-3 : Int32), σ))
  else (if x1 = 0 then (fX5_back_47 σ x1 t0 (1 : Int32) (σ 0 12))
  else (fX5_back_47 σ x1 t0 (0 : Int32) (σ 0 12)))
def fX5_back (σ : qM) (x1 : Int32) : Option (Int32 × qM) :=
  (fX5_isTwo σ x1).bind fun q1 => if q1.1 = 0 then (some ((-2 : Int32), q1.2))
  else (if x1 = 0 then (fX5_back_25 q1.2 x1 (q1.2 0 12))
  else (fX5_back_25 q1.2 x1 (q1.2 0 14)))
def fX5_set (σ : qM) (x1 : Int32) (x2 : Int32) : Option (Int32 × qM) :=
  (fX5_isTwo σ x1).bind fun q1 => if q1.1 = 0 then (some ((-2 : Int32), q1.2))
  else ((fX5_in q1.2 x2.toInt64 (0 : Int64) (3 : Int64)).bind fun q3 => if q3.1 = 0 then (some ((-2 : Int32), q3.2))
  else (if qin x1 2 then if qin x1 2 then some ((q3.2 11 x1.toNatClampNeg), qup q3.2 11 x1.toNatClampNeg x2) else none else none))
def fX5_turnsOne_38 (k24 : qM → Int32 → Int32 → Int32 → Int32 → Int32 → Option qM) (σ : qM) (x1 : Int32) (x2 : Int32) (x3 : Int32) (x5 : Int32) (x6 : Int32) : Option qM :=
  k24 σ x1 x2 x3 x6 (x5 + (1 : Int32))
def fX5_turnsOne_55(σ : qM) (x1 : Int32) (x4 : Int32) : Option qM :=
  if qin x1 13 then some (qup σ 13 x1.toNatClampNeg x4) else none
def bX5_turnsOne_24 (k24 : qM → Int32 → Int32 → Int32 → Int32 → Int32 → Option qM) (σ : qM) (x1 : Int32) (x2 : Int32) (x3 : Int32) (x4 : Int32) (x5 : Int32) : Option qM :=
  if x2 ≤ x5 then (if qin x1 13 then fX5_turnsOne_55 (qup σ 12 x1.toNatClampNeg x3) x1 x4 else none)
  else (fX5_turnsOne_38 k24 σ x1 x2 ((5 : Int32) - x4) x5 x3)
def fX5_turnsOne_24  : qM → Int32 → Int32 → Int32 → Int32 → Int32 → Option qM := qlp (fun _ _ _ _ _ _ => none) (bX5_turnsOne_24 ) qFU
def fX5_turnsOne_21(σ : qM) (x1 : Int32) (x2 : Int32) (x3 : Int32) (x4 : Int32) : Option qM :=
  fX5_turnsOne_24 σ x1 x2 x3 x4 (0 : Int32)
def fX5_turnsOne_9(σ : qM) (x1 : Int32) (x2 : Int32) (x3 : Int32) : Option qM :=
  if qin (((3 : Int32) * x1) + (1 : Int32)) 39 then fX5_turnsOne_21 σ x1 x2 x3 (σ 7 (((3 : Int32) * x1) + (1 : Int32)).toNatClampNeg) else none
def fX5_turnsOne (σ : qM) (x1 : Int32) (x2 : Int32) : Option qM :=
  if qin ((3 : Int32) * x1) 39 then fX5_turnsOne_9 σ x1 x2 (σ 7 ((3 : Int32) * x1).toNatClampNeg) else none
def fX5_isCracked_51 (k5 : qM → Int32 → Int32 → Int32 → Int32 → Option (Int32 × qM)) (σ : qM) (x1 : Int32) (x2 : Int32) (x4 : Int32) (t0 : Int32) : Option (Int32 × qM) :=
  k5 σ x1 x2 t0 (x4 + (1 : Int32))
def fX5_isCracked_50 (k5 : qM → Int32 → Int32 → Int32 → Int32 → Option (Int32 × qM)) (σ : qM) (x1 : Int32) (x2 : Int32) (x4 : Int32) : Option (Int32 × qM) :=
  fX5_isCracked_51 k5 σ x1 x2 x4 (0 : Int32)
def fX5_isCracked_46 (k5 : qM → Int32 → Int32 → Int32 → Int32 → Option (Int32 × qM)) (σ : qM) (x1 : Int32) (x2 : Int32) (x4 : Int32) : Option (Int32 × qM) :=
  fX5_isCracked_51 k5 σ x1 x2 x4 (1 : Int32)
def bX5_isCracked_5 (k5 : qM → Int32 → Int32 → Int32 → Int32 → Option (Int32 × qM)) (σ : qM) (x1 : Int32) (x2 : Int32) (x3 : Int32) (x4 : Int32) : Option (Int32 × qM) :=
  if (σ 0 12) ≤ x4 then (if x3 = 0 ∨ x3 = 1 then some (x3, σ) else none)
  else (if x3 = 0 then (if qin ((2 : Int32) * x4) 16 then if (σ 9 ((2 : Int32) * x4).toNatClampNeg) = x1 then (if qin (((2 : Int32) * x4) + (1 : Int32)) 16 then if (σ 9 (((2 : Int32) * x4) + (1 : Int32)).toNatClampNeg) = x2 then (fX5_isCracked_46 k5 σ x1 x2 x4)
  else (fX5_isCracked_50 k5 σ x1 x2 x4) else none)
  else (fX5_isCracked_50 k5 σ x1 x2 x4) else none)
  else (fX5_isCracked_46 k5 σ x1 x2 x4))
def fX5_isCracked_5  : qM → Int32 → Int32 → Int32 → Int32 → Option (Int32 × qM) := qlp (fun _ _ _ _ _ => none) (bX5_isCracked_5 ) qFU
def fX5_isCracked (σ : qM) (x1 : Int32) (x2 : Int32) : Option (Int32 × qM) :=
  fX5_isCracked_5 σ x1 x2 (0 : Int32) (0 : Int32)
def fX5_lieSo_120(σ : qM)  : Option (Int32 × qM) :=
  some ((1 : Int32), σ)
def fX5_lieSo (σ : qM) (x1 : Int32) (x2 : Int32) (x3 : Int32) : Option (Int32 × qM) :=
  if qin x2 13 then if qin x3 13 then (fX5_amount σ ((σ 12 x2.toNatClampNeg) - (σ 12 x3.toNatClampNeg))).bind fun q3 => if qin x2 13 then if qin x3 13 then (fX5_amount q3.2 ((q3.2 13 x2.toNatClampNeg) - (q3.2 13 x3.toNatClampNeg))).bind fun q6 => if x1 = (0 : Int32) then (if (1 : Int32) < q3.1 then (some ((0 : Int32), q6.2))
  else (if (1 : Int32) < q6.1 then (some ((0 : Int32), q6.2))
  else (some ((1 : Int32), q6.2))))
  else (if x1 = (1 : Int32) then (if q3.1 = 0 then (if qin x2 13 then if qin x3 13 then if (q6.2 13 x3.toNatClampNeg) ≤ (q6.2 13 x2.toNatClampNeg) then (some ((0 : Int32), q6.2))
  else (some ((1 : Int32), q6.2)) else none else none)
  else (some ((0 : Int32), q6.2)))
  else (if x1 = (2 : Int32) then (if (3 : Int32) ≤ q3.1 then (fX5_lieSo_120 q6.2)
  else (if q6.1 < (3 : Int32) then (some ((0 : Int32), q6.2))
  else (fX5_lieSo_120 q6.2)))
  else (some ((1 : Int32), q6.2)))) else none else none else none else none
def fX5_pairs_118 (k2 : qM → Int32 → Int32 → Option qM) (k15 : qM → Int32 → Int32 → Int32 → Int32 → Option qM) (σ : qM) (x1 : Int32) (x2 : Int32) (x3 : Int32) (x4 : Int32) : Option qM :=
  k15 σ x1 x2 x3 (x4 + (1 : Int32))
def fX5_pairs_116 (k2 : qM → Int32 → Int32 → Option qM) (k15 : qM → Int32 → Int32 → Int32 → Int32 → Option qM) (σ : qM) (x1 : Int32) (x2 : Int32) (x4 : Int32) (t0 : Int32) (t1 : Int32) : Option qM :=
  fX5_pairs_118 k2 k15 σ x1 x2 (t1 ||| t0) x4
def fX5_pairs_115 (k2 : qM → Int32 → Int32 → Option qM) (k15 : qM → Int32 → Int32 → Int32 → Int32 → Option qM) (σ : qM) (x1 : Int32) (x2 : Int32) (x4 : Int32) (t0 : Int32) : Option qM :=
  fX5_pairs_116 k2 k15 σ x1 x2 x4 (0 : Int32) t0
def fX5_pairs_80 (k2 : qM → Int32 → Int32 → Option qM) (k15 : qM → Int32 → Int32 → Int32 → Int32 → Option qM) (σ : qM) (x1 : Int32) (x2 : Int32) (x3 : Int32) (x4 : Int32) (t0 : Int32) : Option qM :=
  if t0 = 0 then (fX5_pairs_115 k2 k15 σ x1 x2 x4 x3)
  else (if qin (((5 : Int32) * x1) + (1 : Int32)) 50 then (fX5_lieSo σ (σ 8 (((5 : Int32) * x1) + (1 : Int32)).toNatClampNeg) x2 x4).bind fun q3 => if q3.1 = 0 then (fX5_pairs_115 k2 k15 q3.2 x1 x2 x4 x3)
  else (fX5_pairs_116 k2 k15 q3.2 x1 x2 x4 (jshl (1 : Int32) x4) x3) else none)
def fX5_pairs_79 (k2 : qM → Int32 → Int32 → Option qM) (k15 : qM → Int32 → Int32 → Int32 → Int32 → Option qM) (σ : qM) (x1 : Int32) (x2 : Int32) (x3 : Int32) (x4 : Int32) : Option qM :=
  fX5_pairs_80 k2 k15 σ x1 x2 x3 x4 (0 : Int32)
def bX5_pairs_15 (k2 : qM → Int32 → Int32 → Option qM) (k15 : qM → Int32 → Int32 → Int32 → Int32 → Option qM) (σ : qM) (x1 : Int32) (x2 : Int32) (x3 : Int32) (x4 : Int32) : Option qM :=
  if (σ 0 20) ≤ x4 then (if qin (((13 : Int32) * x1) + x2) 130 then k2 (qup σ 14 (((13 : Int32) * x1) + x2).toNatClampNeg x3) x1 (x2 + (1 : Int32)) else none)
  else (if x2 = x4 then (fX5_pairs_79 k2 k15 σ x1 x2 x3 x4)
  else (if qin (((3 : Int32) * x2) + (2 : Int32)) 39 then if qin ((5 : Int32) * x1) 50 then if (σ 7 (((3 : Int32) * x2) + (2 : Int32)).toNatClampNeg) = (σ 8 ((5 : Int32) * x1).toNatClampNeg) then (if qin (((3 : Int32) * x4) + (2 : Int32)) 39 then if qin (((5 : Int32) * x1) + (2 : Int32)) 50 then if (σ 7 (((3 : Int32) * x4) + (2 : Int32)).toNatClampNeg) = (σ 8 (((5 : Int32) * x1) + (2 : Int32)).toNatClampNeg) then (fX5_pairs_80 k2 k15 σ x1 x2 x3 x4 (1 : Int32))
  else (fX5_pairs_79 k2 k15 σ x1 x2 x3 x4) else none else none)
  else (fX5_pairs_79 k2 k15 σ x1 x2 x3 x4) else none else none))
def fX5_pairs_15 (k2 : qM → Int32 → Int32 → Option qM) : qM → Int32 → Int32 → Int32 → Int32 → Option qM := qlp (fun _ _ _ _ _ => none) (bX5_pairs_15 k2) qFU
def bX5_pairs_2 (k2 : qM → Int32 → Int32 → Option qM) (σ : qM) (x1 : Int32) (x2 : Int32) : Option qM :=
  if (σ 0 20) ≤ x2 then (some σ)
  else (fX5_pairs_15 k2 σ x1 x2 (0 : Int32) (0 : Int32))
def fX5_pairs_2  : qM → Int32 → Int32 → Option qM := qlp (fun _ _ _ => none) (bX5_pairs_2 ) qFU
def fX5_pairs (σ : qM) (x1 : Int32) : Option qM :=
  fX5_pairs_2 σ x1 (0 : Int32)
def bX5_laysOut_58 (k58 : qM → Int32 → Option qM) (σ : qM) (x1 : Int32) : Option qM :=
  if (σ 0 10) ≤ x1 then (some σ)
  else ((fX5_pairs σ x1).bind fun q2 => k58 q2 (x1 + (1 : Int32)))
def fX5_laysOut_58  : qM → Int32 → Option qM := qlp (fun _ _ => none) (bX5_laysOut_58 ) qFU
def fX5_laysOut_46 (k7 : qM → Int32 → Option qM) (σ : qM) (x1 : Int32) (t0 : Int32) (t1 : Int32) : Option qM :=
  k7 (qup σ 0 21 (t1 ||| t0)) (x1 + (1 : Int32))
def bX5_laysOut_7 (k7 : qM → Int32 → Option qM) (σ : qM) (x1 : Int32) : Option qM :=
  if (σ 0 20) ≤ x1 then (fX5_laysOut_58 σ (0 : Int32))
  else (if qin x1 13 then if qin x1 13 then (fX5_isCracked σ (σ 12 x1.toNatClampNeg) (σ 13 x1.toNatClampNeg)).bind fun q4 => if q4.1 = 0 then (fX5_laysOut_46 k7 q4.2 x1 (jshl (1 : Int32) x1) (σ 0 21))
  else (fX5_laysOut_46 k7 q4.2 x1 (0 : Int32) (σ 0 21)) else none else none)
def fX5_laysOut_7  : qM → Int32 → Option qM := qlp (fun _ _ => none) (bX5_laysOut_7 ) qFU
def fX5_laysOut (σ : qM)  : Option qM :=
  fX5_laysOut_7 (qup σ 0 21 (0 : Int32)) (0 : Int32)
def bX5_turnsCup_10 (k10 : qM → Int32 → Int32 → Option qM) (σ : qM) (x1 : Int32) (x2 : Int32) : Option qM :=
  if (σ 0 8) ≤ x2 then ((fX5_laysOut σ).bind fun q2 => some q2)
  else ((fX5_turnsOne σ x2 x1).bind fun q3 => k10 q3 x1 (x2 + (1 : Int32)))
def fX5_turnsCup_10  : qM → Int32 → Int32 → Option qM := qlp (fun _ _ _ => none) (bX5_turnsCup_10 ) qFU
def fX5_turnsCup (σ : qM) (x1 : Int32) : Option qM :=
  fX5_turnsCup_10 (qup σ 0 20 (σ 0 8)) x1 (0 : Int32)
def fX5_applies_49 (k5 : qM → Int32 → Int32 → Int32 → Int32 → Option (Int32 × qM)) (σ : qM) (x1 : Int32) (x2 : Int32) (x4 : Int32) (t0 : Int32) : Option (Int32 × qM) :=
  k5 σ x1 x2 t0 (x4 + (1 : Int32))
def fX5_applies_48 (k5 : qM → Int32 → Int32 → Int32 → Int32 → Option (Int32 × qM)) (σ : qM) (x1 : Int32) (x2 : Int32) (x4 : Int32) : Option (Int32 × qM) :=
  fX5_applies_49 k5 σ x1 x2 x4 (0 : Int32)
def bX5_applies_5 (k5 : qM → Int32 → Int32 → Int32 → Int32 → Option (Int32 × qM)) (σ : qM) (x1 : Int32) (x2 : Int32) (x3 : Int32) (x4 : Int32) : Option (Int32 × qM) :=
  if (σ 0 20) ≤ x4 then (if x3 = 0 ∨ x3 = 1 then some (x3, σ) else none)
  else (if x3 = 0 then ((fX5_isIn σ x2 x4).bind fun q5 => if q5.1 = 0 then (fX5_applies_48 k5 q5.2 x1 x2 x4)
  else (if qin (((13 : Int32) * x1) + x4) 130 then if ((q5.2 14 (((13 : Int32) * x1) + x4).toNatClampNeg) &&& x2) = 0 then (fX5_applies_48 k5 q5.2 x1 x2 x4)
  else (fX5_applies_49 k5 q5.2 x1 x2 x4 (1 : Int32)) else none))
  else (if x3 = 0 ∨ x3 = 1 then some (x3, σ) else none))
def fX5_applies_5  : qM → Int32 → Int32 → Int32 → Int32 → Option (Int32 × qM) := qlp (fun _ _ _ _ _ => none) (bX5_applies_5 ) qFU
def fX5_applies (σ : qM) (x1 : Int32) (x2 : Int32) : Option (Int32 × qM) :=
  fX5_applies_5 σ x1 x2 (0 : Int32) (0 : Int32)
def fX5_readBy_107 (k4 : qM → Int32 → Int32 → Int32 → Option (Int32 × qM)) (σ : qM) (x1 : Int32) (x2 : Int32) (x3 : Int32) : Option (Int32 × qM) :=
  k4 σ x1 x2 (x3 + (1 : Int32))
def fX5_readBy_106 (k4 : qM → Int32 → Int32 → Int32 → Option (Int32 × qM)) (σ : qM) (x1 : Int32) (x3 : Int32) (t0 : Int32) : Option (Int32 × qM) :=
  fX5_readBy_107 k4 σ x1 t0 x3
def fX5_readBy_86 (k4 : qM → Int32 → Int32 → Int32 → Option (Int32 × qM)) (σ : qM) (x1 : Int32) (x2 : Int32) (x3 : Int32) (x4 : Int32) (t0 : Int32) : Option (Int32 × qM) :=
  if t0 = 0 then (fX5_readBy_106 k4 σ x1 x3 (x2 &&& (x4 ^^^ (-1 : Int32))))
  else (fX5_readBy_106 k4 σ x1 x3 (x2 ||| x4))
def fX5_readBy_78 (k4 : qM → Int32 → Int32 → Int32 → Option (Int32 × qM)) (σ : qM) (x1 : Int32) (x2 : Int32) (x3 : Int32) (x4 : Int32) (t0 : Int32) (t1 : Int32) : Option (Int32 × qM) :=
  if t1 = t0 then (fX5_readBy_86 k4 σ x1 x2 x3 x4 (0 : Int32))
  else (fX5_readBy_86 k4 σ x1 x2 x3 x4 (1 : Int32))
def fX5_readBy_65 (k4 : qM → Int32 → Int32 → Int32 → Option (Int32 × qM)) (σ : qM) (x1 : Int32) (x2 : Int32) (x3 : Int32) (x4 : Int32) (t0 : Int32) : Option (Int32 × qM) :=
  if x3 = (σ 0 23) then (fX5_readBy_78 k4 σ x1 x2 x3 x4 (1 : Int32) t0)
  else (fX5_readBy_78 k4 σ x1 x2 x3 x4 (0 : Int32) t0)
def fX5_readBy_46 (k4 : qM → Int32 → Int32 → Int32 → Option (Int32 × qM)) (σ : qM) (x1 : Int32) (x2 : Int32) (x3 : Int32) (x4 : Int32) : Option (Int32 × qM) :=
  if qin (((5 : Int32) * x3) + (3 : Int32)) 50 then if (σ 8 (((5 : Int32) * x3) + (3 : Int32)).toNatClampNeg) = (1 : Int32) then (fX5_readBy_65 k4 σ x1 x2 x3 x4 (1 : Int32))
  else (fX5_readBy_65 k4 σ x1 x2 x3 x4 (0 : Int32)) else none
def bX5_readBy_4 (k4 : qM → Int32 → Int32 → Int32 → Option (Int32 × qM)) (σ : qM) (x1 : Int32) (x2 : Int32) (x3 : Int32) : Option (Int32 × qM) :=
  if (σ 0 10) ≤ x3 then (some (x2, σ))
  else ((fX5_isIn σ (σ 0 22) x3).bind fun q2 => if q2.1 = 0 then ((fX5_applies q2.2 x3 x1).bind fun q4 => if q4.1 = 0 then (fX5_readBy_107 k4 q4.2 x1 x2 x3)
  else (if qin (((5 : Int32) * x3) + (4 : Int32)) 50 then fX5_readBy_46 k4 q4.2 x1 x2 x3 (jshl (1 : Int32) (q4.2 8 (((5 : Int32) * x3) + (4 : Int32)).toNatClampNeg)) else none))
  else (fX5_readBy_107 k4 q2.2 x1 x2 x3))
def fX5_readBy_4  : qM → Int32 → Int32 → Int32 → Option (Int32 × qM) := qlp (fun _ _ _ _ => none) (bX5_readBy_4 ) qFU
def fX5_readBy (σ : qM) (x1 : Int32) : Option (Int32 × qM) :=
  fX5_readBy_4 σ x1 (0 : Int32) (0 : Int32)
def fX5_readNow (σ : qM) (x1 : Int32) : Option (Int32 × qM) :=
  (fX5_turnsCup σ x1).bind fun q1 => (fX5_readBy q1 (q1 0 21)).bind fun q2 => some (q2.1, q2.2)
def fX5_lies (σ : qM) (x1 : Int32) (x2 : Int32) (x3 : Int32) : Option (Int32 × qM) :=
  (fX5_reads σ).bind fun q1 => (fX5_areTurns q1 x1).bind fun q2 => if q2.1 = 0 then (some ((-2 : Int32), q2.2))
  else ((fX5_isLeaf q2.2 x2).bind fun q4 => if q4.1 = 0 then (some ((-2 : Int32), q4.2))
  else ((fX5_isTwo q4.2 x3).bind fun q6 => if q6.1 = 0 then (some ((-2 : Int32), q6.2))
  else ((fX5_turnsOne q6.2 x2 x1).bind fun q8 => if x3 = 0 then (if qin x2 13 then some ((q8 12 x2.toNatClampNeg), q8) else none)
  else (if qin x2 13 then some ((q8 13 x2.toNatClampNeg), q8) else none))))
def fX5_appliesNow_34 (k4 : qM → Int32 → Int32 → Option (Int32 × qM)) (σ : qM) (x1 : Int32) (x2 : Int32) : Option (Int32 × qM) :=
  k4 σ x1 (x2 + (1 : Int32))
def fX5_appliesNow_32 (k4 : qM → Int32 → Int32 → Option (Int32 × qM)) (σ : qM) (x2 : Int32) (t0 : Int32) (t1 : Int32) : Option (Int32 × qM) :=
  fX5_appliesNow_34 k4 σ (t1 ||| t0) x2
def bX5_appliesNow_4 (k4 : qM → Int32 → Int32 → Option (Int32 × qM)) (σ : qM) (x1 : Int32) (x2 : Int32) : Option (Int32 × qM) :=
  if (σ 0 10) ≤ x2 then (some (x1, σ))
  else ((fX5_applies σ x2 (σ 0 21)).bind fun q2 => if q2.1 = 0 then (fX5_appliesNow_32 k4 q2.2 x2 (0 : Int32) x1)
  else (fX5_appliesNow_32 k4 q2.2 x2 (jshl (1 : Int32) x2) x1))
def fX5_appliesNow_4  : qM → Int32 → Int32 → Option (Int32 × qM) := qlp (fun _ _ _ => none) (bX5_appliesNow_4 ) qFU
def fX5_appliesNow (σ : qM)  : Option (Int32 × qM) :=
  fX5_appliesNow_4 σ (0 : Int32) (0 : Int32)
def fX5_readingOf (σ : qM) (x1 : Int32) (x2 : Int32) : Option (Int32 × qM) :=
  (fX5_turnsCup σ x1).bind fun q1 => if x2 = 0 then (some ((q1 0 21), q1))
  else (if x2 = (1 : Int32) then ((fX5_appliesNow q1).bind fun q5 => some (q5.1, q5.2))
  else ((fX5_readBy q1 (q1 0 21)).bind fun q4 => some (q4.1, q4.2)))
def fX5_reading (σ : qM) (x1 : Int32) (x2 : Int32) : Option (Int32 × qM) :=
  (fX5_reads σ).bind fun q1 => (fX5_areTurns q1 x1).bind fun q2 => if q2.1 = 0 then (some ((-2 : Int32), q2.2))
  else ((fX5_in q2.2 x2.toInt64 (0 : Int64) (2 : Int64)).bind fun q4 => if q4.1 = 0 then (some ((-2 : Int32), q4.2))
  else ((fX5_readingOf q4.2 x1 x2).bind fun q6 => some (q6.1, q6.2)))
def fX5_dayOf (σ : qM) (x1 : Int32) : Option (Int32 × qM) :=
  (fX5_readNow σ (jrem ((σ 11 (0 : Int32).toNatClampNeg) + (x1 * (σ 11 (1 : Int32).toNatClampNeg))) (4 : Int32))).bind fun q1 => some (q1.1, q1.2)
def fX5_day (σ : qM) (x1 : Int32) : Option (Int32 × qM) :=
  (fX5_reads σ).bind fun q1 => (fX5_isDay q1 x1).bind fun q2 => if q2.1 = 0 then (some ((-2 : Int32), q2.2))
  else ((fX5_dayOf q2.2 x1).bind fun q4 => some (q4.1, q4.2))
def fX5_brokenNow_50 (k4 : qM → Int32 → Int32 → Option (Int32 × qM)) (σ : qM) (x1 : Int32) (x2 : Int32) : Option (Int32 × qM) :=
  k4 σ x1 (x2 + (1 : Int32))
def fX5_brokenNow_48 (k4 : qM → Int32 → Int32 → Option (Int32 × qM)) (σ : qM) (x2 : Int32) (t0 : Int32) (t1 : Int32) : Option (Int32 × qM) :=
  fX5_brokenNow_50 k4 σ (t1 ||| t0) x2
def bX5_brokenNow_4 (k4 : qM → Int32 → Int32 → Option (Int32 × qM)) (σ : qM) (x1 : Int32) (x2 : Int32) : Option (Int32 × qM) :=
  if (σ 0 14) ≤ x2 then (some (x1, σ))
  else (if qin ((2 : Int32) * x2) 24 then (fX5_dayOf σ (σ 10 ((2 : Int32) * x2).toNatClampNeg)).bind fun q3 => if qin (((2 : Int32) * x2) + (1 : Int32)) 24 then (fX5_isIn q3.2 q3.1 (q3.2 10 (((2 : Int32) * x2) + (1 : Int32)).toNatClampNeg)).bind fun q5 => if q5.1 = 0 then (fX5_brokenNow_48 k4 q5.2 x2 (0 : Int32) x1)
  else (fX5_brokenNow_48 k4 q5.2 x2 (jshl (1 : Int32) x2) x1) else none else none)
def fX5_brokenNow_4  : qM → Int32 → Int32 → Option (Int32 × qM) := qlp (fun _ _ _ => none) (bX5_brokenNow_4 ) qFU
def fX5_brokenNow (σ : qM)  : Option (Int32 × qM) :=
  fX5_brokenNow_4 σ (0 : Int32) (0 : Int32)
def fX5_firstBroken_54 (k9 : qM → Int32 → Int32 → Int32 → Option (Int32 × qM)) (σ : qM) (x1 : Int32) (x3 : Int32) (t0 : Int32) : Option (Int32 × qM) :=
  k9 σ x1 t0 (x3 + (1 : Int32))
def fX5_firstBroken_49 (k9 : qM → Int32 → Int32 → Int32 → Option (Int32 × qM)) (σ : qM) (x1 : Int32) (x3 : Int32) : Option (Int32 × qM) :=
  fX5_firstBroken_54 k9 σ x1 x3 x3
def fX5_firstBroken_53 (k9 : qM → Int32 → Int32 → Int32 → Option (Int32 × qM)) (σ : qM) (x1 : Int32) (x2 : Int32) (x3 : Int32) : Option (Int32 × qM) :=
  fX5_firstBroken_54 k9 σ x1 x3 x2
def bX5_firstBroken_9 (k9 : qM → Int32 → Int32 → Int32 → Option (Int32 × qM)) (σ : qM) (x1 : Int32) (x2 : Int32) (x3 : Int32) : Option (Int32 × qM) :=
  if (σ 0 14) ≤ x3 then (some (x2, σ))
  else ((fX5_isIn σ x1 x3).bind fun q2 => if q2.1 = 0 then (fX5_firstBroken_53 k9 q2.2 x1 x2 x3)
  else (if x2 = (-1 : Int32) then (fX5_firstBroken_49 k9 q2.2 x1 x3)
  else (if qin ((2 : Int32) * x3) 24 then if qin ((2 : Int32) * x2) 24 then if (q2.2 10 ((2 : Int32) * x2).toNatClampNeg) ≤ (q2.2 10 ((2 : Int32) * x3).toNatClampNeg) then (fX5_firstBroken_53 k9 q2.2 x1 x2 x3)
  else (fX5_firstBroken_49 k9 q2.2 x1 x3) else none else none)))
def fX5_firstBroken_9  : qM → Int32 → Int32 → Int32 → Option (Int32 × qM) := qlp (fun _ _ _ _ => none) (bX5_firstBroken_9 ) qFU
def fX5_firstBroken (σ : qM)  : Option (Int32 × qM) :=
  (fX5_brokenNow σ).bind fun q1 => fX5_firstBroken_9 q1.2 q1.1 (-1 : Int32) (0 : Int32)
def fX5_broken (σ : qM) (x1 : Int32) : Option (Int32 × qM) :=
  (fX5_reads σ).bind fun q1 => (fX5_isTwo q1 x1).bind fun q2 => if q2.1 = 0 then (some ((-2 : Int32), q2.2))
  else (if x1 = 0 then ((fX5_brokenNow q2.2).bind fun q6 => some (q6.1, q6.2))
  else ((fX5_firstBroken q2.2).bind fun q5 => some (q5.1, q5.2)))
def fX5_freeOf_32 (k4 : qM → Int32 → Int32 → Int32 → Option (Int32 × qM)) (σ : qM) (x1 : Int32) (x2 : Int32) (x3 : Int32) : Option (Int32 × qM) :=
  k4 σ x1 x2 (x3 + (1 : Int32))
def fX5_freeOf_30 (k4 : qM → Int32 → Int32 → Int32 → Option (Int32 × qM)) (σ : qM) (x1 : Int32) (x3 : Int32) (t0 : Int32) (t1 : Int32) : Option (Int32 × qM) :=
  fX5_freeOf_32 k4 σ x1 (t1 ||| t0) x3
def bX5_freeOf_4 (k4 : qM → Int32 → Int32 → Int32 → Option (Int32 × qM)) (σ : qM) (x1 : Int32) (x2 : Int32) (x3 : Int32) : Option (Int32 × qM) :=
  if (28 : Int32) ≤ x3 then (some (x2, σ))
  else ((fX5_dayOf σ x3).bind fun q2 => (fX5_isIn q2.2 q2.1 x1).bind fun q3 => if q3.1 = 0 then (fX5_freeOf_30 k4 q3.2 x1 x3 (jshl (1 : Int32) x3) x2)
  else (fX5_freeOf_30 k4 q3.2 x1 x3 (0 : Int32) x2))
def fX5_freeOf_4  : qM → Int32 → Int32 → Int32 → Option (Int32 × qM) := qlp (fun _ _ _ _ => none) (bX5_freeOf_4 ) qFU
def fX5_freeOf (σ : qM) (x1 : Int32) : Option (Int32 × qM) :=
  fX5_freeOf_4 σ x1 (0 : Int32) (0 : Int32)
def fX5_free (σ : qM) (x1 : Int32) : Option (Int32 × qM) :=
  (fX5_reads σ).bind fun q1 => (fX5_isLaw q1 x1).bind fun q2 => if q2.1 = 0 then (some ((-2 : Int32), q2.2))
  else ((fX5_freeOf q2.2 x1).bind fun q4 => some (q4.1, q4.2))
def fX5_clashOf_108 (k12 : qM → Int32 → Int32 → Option (Int32 × qM)) (k23 : qM → Int32 → Int32 → Int32 → Option (Int32 × qM)) (σ : qM) (x2 : Int32) (x3 : Int32) (x4 : Int32) : Option (Int32 × qM) :=
  k23 σ x2 x3 (x4 + (1 : Int32))
def fX5_clashOf_75 (k12 : qM → Int32 → Int32 → Option (Int32 × qM)) (k23 : qM → Int32 → Int32 → Int32 → Option (Int32 × qM)) (σ : qM) (x2 : Int32) (x3 : Int32) (x4 : Int32) (t0 : Int32) : Option (Int32 × qM) :=
  if t0 = 0 then (fX5_clashOf_108 k12 k23 σ x2 x3 x4)
  else (if qin (((5 : Int32) * x3) + (3 : Int32)) 50 then if qin (((5 : Int32) * x4) + (3 : Int32)) 50 then if (σ 8 (((5 : Int32) * x3) + (3 : Int32)).toNatClampNeg) = (σ 8 (((5 : Int32) * x4) + (3 : Int32)).toNatClampNeg) then (fX5_clashOf_108 k12 k23 σ x2 x3 x4)
  else (some (x3, σ)) else none else none)
def fX5_clashOf_74 (k12 : qM → Int32 → Int32 → Option (Int32 × qM)) (k23 : qM → Int32 → Int32 → Int32 → Option (Int32 × qM)) (σ : qM) (x2 : Int32) (x3 : Int32) (x4 : Int32) : Option (Int32 × qM) :=
  fX5_clashOf_75 k12 k23 σ x2 x3 x4 (0 : Int32)
def bX5_clashOf_23 (k12 : qM → Int32 → Int32 → Option (Int32 × qM)) (k23 : qM → Int32 → Int32 → Int32 → Option (Int32 × qM)) (σ : qM) (x2 : Int32) (x3 : Int32) (x4 : Int32) : Option (Int32 × qM) :=
  if x3 ≤ x4 then (k12 σ x2 (x3 + (1 : Int32)))
  else ((fX5_isIn σ x2 x3).bind fun q2 => if q2.1 = 0 then (fX5_clashOf_74 k12 k23 q2.2 x2 x3 x4)
  else ((fX5_isIn q2.2 x2 x4).bind fun q4 => if q4.1 = 0 then (fX5_clashOf_74 k12 k23 q4.2 x2 x3 x4)
  else (if qin (((5 : Int32) * x3) + (4 : Int32)) 50 then if qin (((5 : Int32) * x4) + (4 : Int32)) 50 then if (q4.2 8 (((5 : Int32) * x3) + (4 : Int32)).toNatClampNeg) = (q4.2 8 (((5 : Int32) * x4) + (4 : Int32)).toNatClampNeg) then (fX5_clashOf_75 k12 k23 q4.2 x2 x3 x4 (1 : Int32))
  else (fX5_clashOf_74 k12 k23 q4.2 x2 x3 x4) else none else none)))
def fX5_clashOf_23 (k12 : qM → Int32 → Int32 → Option (Int32 × qM)) : qM → Int32 → Int32 → Int32 → Option (Int32 × qM) := qlp (fun _ _ _ _ => none) (bX5_clashOf_23 k12) qFU
def bX5_clashOf_12 (k12 : qM → Int32 → Int32 → Option (Int32 × qM)) (σ : qM) (x2 : Int32) (x3 : Int32) : Option (Int32 × qM) :=
  if (σ 0 10) ≤ x3 then (some ((-1 : Int32), σ))
  else (fX5_clashOf_23 k12 σ x2 x3 (0 : Int32))
def fX5_clashOf_12  : qM → Int32 → Int32 → Option (Int32 × qM) := qlp (fun _ _ _ => none) (bX5_clashOf_12 ) qFU
def fX5_clashOf (σ : qM) (x1 : Int32) : Option (Int32 × qM) :=
  (fX5_turnsCup σ x1).bind fun q1 => (fX5_appliesNow q1).bind fun q2 => fX5_clashOf_12 q2.2 q2.1 (0 : Int32)
def fX5_clash (σ : qM) (x1 : Int32) : Option (Int32 × qM) :=
  (fX5_reads σ).bind fun q1 => (fX5_areTurns q1 x1).bind fun q2 => if q2.1 = 0 then (some ((-2 : Int32), q2.2))
  else ((fX5_clashOf q2.2 x1).bind fun q4 => some (q4.1, q4.2))
def fX5_pourOf_66 (k8 : qM → Int32 → Int32 → Int32 → Int32 → Option (Int32 × qM)) (σ : qM) (x1 : Int32) (x2 : Int32) (x4 : Int32) (t0 : Int32) : Option (Int32 × qM) :=
  k8 σ x1 x2 t0 (x4 + (1 : Int32))
def fX5_pourOf_53 (k8 : qM → Int32 → Int32 → Int32 → Int32 → Option (Int32 × qM)) (σ : qM) (x1 : Int32) (x3 : Int32) (x4 : Int32) (x6 : Int32) (t0 : Int32) : Option (Int32 × qM) :=
  if x6 ≤ x3 then (fX5_pourOf_66 k8 σ x1 t0 x4 x3)
  else (fX5_pourOf_66 k8 σ x1 t0 x4 x6)
def fX5_pourOf_41 (k8 : qM → Int32 → Int32 → Int32 → Int32 → Option (Int32 × qM)) (σ : qM) (x1 : Int32) (x2 : Int32) (x3 : Int32) (x4 : Int32) (x6 : Int32) : Option (Int32 × qM) :=
  if x6 ≤ x3 then (fX5_pourOf_53 k8 σ x1 x3 x4 x6 x2)
  else (fX5_pourOf_53 k8 σ x1 x3 x4 x6 x4)
def bX5_pourOf_8 (k8 : qM → Int32 → Int32 → Int32 → Int32 → Option (Int32 × qM)) (σ : qM) (x1 : Int32) (x2 : Int32) (x3 : Int32) (x4 : Int32) : Option (Int32 × qM) :=
  if (4 : Int32) ≤ x4 then (some (x2, σ))
  else ((fX5_readNow σ x4).bind fun q2 => (fX5_ones q2.2 (q2.1 &&& x1)).bind fun q3 => (fX5_ones q3.2 (q2.1 &&& (x1 ^^^ (-1 : Int32)))).bind fun q4 => fX5_pourOf_41 k8 q4.2 x1 x2 x3 x4 (q3.1 - q4.1))
def fX5_pourOf_8  : qM → Int32 → Int32 → Int32 → Int32 → Option (Int32 × qM) := qlp (fun _ _ _ _ _ => none) (bX5_pourOf_8 ) qFU
def fX5_pourOf (σ : qM) (x1 : Int32) : Option (Int32 × qM) :=
  fX5_pourOf_8 σ x1 (0 : Int32) (-9 : Int32) (0 : Int32)
def fX5_pour (σ : qM) (x1 : Int32) : Option (Int32 × qM) :=
  (fX5_reads σ).bind fun q1 => (fX5_areLaws q1 x1).bind fun q2 => if q2.1 = 0 then (some ((-2 : Int32), q2.2))
  else ((fX5_pourOf q2.2 x1).bind fun q4 => some (q4.1, q4.2))
def fX5_tells_10(σ : qM) (x0 : Int32) : Option (Int32 × qM) :=
  some (x0, σ)
def fX5_tells (σ : qM) (x0 : Int32) (x1 : Int32) : Option (Int32 × qM) :=
  if x0 = (-1 : Int32) then (fX5_tells_10 σ x0)
  else (if x1 = (1 : Int32) then (fX5_tells_10 σ x0)
  else ((fX5_ones σ x0).bind fun q3 => some (q3.1, q3.2)))
def fX5_strainOf_80 (k11 : qM → Int32 → Int32 → Int32 → Int32 → Option (Int32 × qM)) (σ : qM) (x2 : Int32) (x3 : Int32) (x4 : Int32) (x5 : Int32) : Option (Int32 × qM) :=
  k11 σ x2 x3 x4 (x5 + (1 : Int32))
def fX5_strainOf_78 (k11 : qM → Int32 → Int32 → Int32 → Int32 → Option (Int32 × qM)) (σ : qM) (x2 : Int32) (x3 : Int32) (x5 : Int32) (t0 : Int32) : Option (Int32 × qM) :=
  fX5_strainOf_80 k11 σ x2 x3 t0 x5
def fX5_strainOf_76 (k11 : qM → Int32 → Int32 → Int32 → Int32 → Option (Int32 × qM)) (σ : qM) (x2 : Int32) (x3 : Int32) (x4 : Int32) (x5 : Int32) : Option (Int32 × qM) :=
  fX5_strainOf_78 k11 σ x2 x3 x5 x4
def fX5_strainOf_41 (k11 : qM → Int32 → Int32 → Int32 → Int32 → Option (Int32 × qM)) (σ : qM) (x2 : Int32) (x3 : Int32) (x4 : Int32) (x5 : Int32) : Option (Int32 × qM) :=
  (fX5_readBy σ ((σ 0 21) &&& (x5 ^^^ (-1 : Int32)))).bind fun q1 => if (q1.1 &&& x2) = x2 then (if (q1.1 &&& x3) = 0 then (fX5_strainOf_78 k11 q1.2 x2 x3 x5 x5)
  else (fX5_strainOf_76 k11 q1.2 x2 x3 x4 x5))
  else (fX5_strainOf_76 k11 q1.2 x2 x3 x4 x5)
def bX5_strainOf_11 (k11 : qM → Int32 → Int32 → Int32 → Int32 → Option (Int32 × qM)) (σ : qM) (x2 : Int32) (x3 : Int32) (x4 : Int32) (x5 : Int32) : Option (Int32 × qM) :=
  if (jshl (1 : Int32) (σ 0 8)) ≤ x5 then (some (x4, σ))
  else (if x4 = (-1 : Int32) then (fX5_strainOf_41 k11 σ x2 x3 x4 x5)
  else ((fX5_ones σ x5).bind fun q3 => (fX5_ones q3.2 x4).bind fun q4 => if q4.1 ≤ q3.1 then (fX5_strainOf_80 k11 q4.2 x2 x3 x4 x5)
  else (fX5_strainOf_41 k11 q4.2 x2 x3 x4 x5)))
def fX5_strainOf_11  : qM → Int32 → Int32 → Int32 → Int32 → Option (Int32 × qM) := qlp (fun _ _ _ _ _ => none) (bX5_strainOf_11 ) qFU
def fX5_strainOf (σ : qM) (x1 : Int32) (x2 : Int32) (x3 : Int32) : Option (Int32 × qM) :=
  (fX5_turnsCup σ x1).bind fun q1 => fX5_strainOf_11 q1 x2 x3 (-1 : Int32) (0 : Int32)
def fX5_strain_44(σ : qM) (x1 : Int32) (x2 : Int32) (x3 : Int32) (x4 : Int32) (t0 : Int32) : Option (Int32 × qM) :=
  if t0 = 0 then (some ((-2 : Int32), σ))
  else ((fX5_strainOf σ x1 x2 x3).bind fun q2 => (fX5_tells q2.2 q2.1 x4).bind fun q3 => some (q3.1, q3.2))
def fX5_strain_43(σ : qM) (x1 : Int32) (x2 : Int32) (x3 : Int32) (x4 : Int32) : Option (Int32 × qM) :=
  fX5_strain_44 σ x1 x2 x3 x4 (0 : Int32)
def fX5_strain (σ : qM) (x1 : Int32) (x2 : Int32) (x3 : Int32) (x4 : Int32) : Option (Int32 × qM) :=
  (fX5_reads σ).bind fun q1 => (fX5_areTurns q1 x1).bind fun q2 => if q2.1 = 0 then (fX5_strain_43 q2.2 x1 x2 x3 x4)
  else ((fX5_areLaws q2.2 x2).bind fun q4 => if q4.1 = 0 then (fX5_strain_43 q4.2 x1 x2 x3 x4)
  else ((fX5_areLaws q4.2 x3).bind fun q6 => if q6.1 = 0 then (fX5_strain_43 q6.2 x1 x2 x3 x4)
  else (if (x2 &&& x3) = 0 then ((fX5_isTwo q6.2 x4).bind fun q9 => if q9.1 = 0 then (fX5_strain_43 q9.2 x1 x2 x3 x4)
  else (fX5_strain_44 q9.2 x1 x2 x3 x4 (1 : Int32)))
  else (fX5_strain_43 q6.2 x1 x2 x3 x4))))
def fX5_strikeOf_63 (k10 : qM → Int32 → Int32 → Int32 → Option (Int32 × qM)) (σ : qM) (x2 : Int32) (x3 : Int32) (x4 : Int32) : Option (Int32 × qM) :=
  k10 σ x2 x3 (x4 + (1 : Int32))
def fX5_strikeOf_62 (k10 : qM → Int32 → Int32 → Int32 → Option (Int32 × qM)) (σ : qM) (x2 : Int32) (x4 : Int32) (t0 : Int32) : Option (Int32 × qM) :=
  fX5_strikeOf_63 k10 σ x2 t0 x4
def fX5_strikeOf_44 (k10 : qM → Int32 → Int32 → Int32 → Option (Int32 × qM)) (σ : qM) (x2 : Int32) (x3 : Int32) (x4 : Int32) : Option (Int32 × qM) :=
  (fX5_readBy σ (σ 0 21)).bind fun q1 => if q1.1 = x2 then (fX5_strikeOf_62 k10 q1.2 x2 x4 x4)
  else (fX5_strikeOf_62 k10 q1.2 x2 x4 x3)
def fX5_strikeOf_38 (k10 : qM → Int32 → Int32 → Int32 → Option (Int32 × qM)) (σ : qM) (x2 : Int32) (x3 : Int32) (x4 : Int32) : Option (Int32 × qM) :=
  fX5_strikeOf_44 k10 (qup σ 0 22 x4) x2 x3 x4
def bX5_strikeOf_10 (k10 : qM → Int32 → Int32 → Int32 → Option (Int32 × qM)) (σ : qM) (x2 : Int32) (x3 : Int32) (x4 : Int32) : Option (Int32 × qM) :=
  if (jshl (1 : Int32) (σ 0 10)) ≤ x4 then (some (x3, qup σ 0 22 (0 : Int32)))
  else (if x3 = (-1 : Int32) then (fX5_strikeOf_38 k10 σ x2 x3 x4)
  else ((fX5_ones σ x4).bind fun q3 => (fX5_ones q3.2 x3).bind fun q4 => if q4.1 ≤ q3.1 then (fX5_strikeOf_63 k10 q4.2 x2 x3 x4)
  else (fX5_strikeOf_38 k10 q4.2 x2 x3 x4)))
def fX5_strikeOf_10  : qM → Int32 → Int32 → Int32 → Option (Int32 × qM) := qlp (fun _ _ _ _ => none) (bX5_strikeOf_10 ) qFU
def fX5_strikeOf (σ : qM) (x1 : Int32) (x2 : Int32) : Option (Int32 × qM) :=
  (fX5_turnsCup σ x1).bind fun q1 => fX5_strikeOf_10 q1 x2 (-1 : Int32) (0 : Int32)
def fX5_strike (σ : qM) (x1 : Int32) (x2 : Int32) (x3 : Int32) : Option (Int32 × qM) :=
  (fX5_reads σ).bind fun q1 => (fX5_areTurns q1 x1).bind fun q2 => if q2.1 = 0 then (some ((-2 : Int32), q2.2))
  else ((fX5_areLaws q2.2 x2).bind fun q4 => if q4.1 = 0 then (some ((-2 : Int32), q4.2))
  else ((fX5_isTwo q4.2 x3).bind fun q6 => if q6.1 = 0 then (some ((-2 : Int32), q6.2))
  else ((fX5_strikeOf q6.2 x1 x2).bind fun q8 => (fX5_tells q8.2 q8.1 x3).bind fun q9 => some (q9.1, q9.2))))
def fX5_isFree_45 (k5 : qM → Int32 → Int32 → Int32 → Int32 → Option (Int32 × qM)) (σ : qM) (x1 : Int32) (x2 : Int32) (x4 : Int32) (t0 : Int32) : Option (Int32 × qM) :=
  k5 σ x1 x2 t0 (x4 + (1 : Int32))
def fX5_isFree_40 (k5 : qM → Int32 → Int32 → Int32 → Int32 → Option (Int32 × qM)) (σ : qM) (x1 : Int32) (x2 : Int32) (x4 : Int32) : Option (Int32 × qM) :=
  fX5_isFree_45 k5 σ x1 x2 x4 (1 : Int32)
def fX5_isFree_44 (k5 : qM → Int32 → Int32 → Int32 → Int32 → Option (Int32 × qM)) (σ : qM) (x1 : Int32) (x2 : Int32) (x4 : Int32) : Option (Int32 × qM) :=
  fX5_isFree_45 k5 σ x1 x2 x4 (0 : Int32)
def bX5_isFree_5 (k5 : qM → Int32 → Int32 → Int32 → Int32 → Option (Int32 × qM)) (σ : qM) (x1 : Int32) (x2 : Int32) (x3 : Int32) (x4 : Int32) : Option (Int32 × qM) :=
  if (σ 0 8) ≤ x4 then (if x3 = 0 ∨ x3 = 1 then some (x3, σ) else none)
  else (if x3 = 0 then (fX5_isFree_44 k5 σ x1 x2 x4)
  else (if qin x4 13 then if (σ 12 x4.toNatClampNeg) = x1 then (if qin x4 13 then if (σ 13 x4.toNatClampNeg) = x2 then (fX5_isFree_44 k5 σ x1 x2 x4)
  else (fX5_isFree_40 k5 σ x1 x2 x4) else none)
  else (fX5_isFree_40 k5 σ x1 x2 x4) else none))
def fX5_isFree_5  : qM → Int32 → Int32 → Int32 → Int32 → Option (Int32 × qM) := qlp (fun _ _ _ _ _ => none) (bX5_isFree_5 ) qFU
def fX5_isFree (σ : qM) (x1 : Int32) (x2 : Int32) : Option (Int32 × qM) :=
  fX5_isFree_5 σ x1 x2 (1 : Int32) (0 : Int32)
def fX5_placeOf_121 (k13 : qM → Int32 → Int32 → Int32 → Option (Int32 × qM)) (σ : qM) (x2 : Int32) (x3 : Int32) (x4 : Int32) : Option (Int32 × qM) :=
  k13 σ x2 x3 (x4 + (1 : Int32))
def fX5_placeOf_98 (k13 : qM → Int32 → Int32 → Int32 → Option (Int32 × qM)) (σ : qM) (x2 : Int32) (x3 : Int32) (x4 : Int32) : Option (Int32 × qM) :=
  (fX5_laysOut σ).bind fun q1 => (fX5_readBy q1 (q1 0 21)).bind fun q2 => (fX5_isIn q2.2 q2.1 x2).bind fun q3 => if q3.1 = x3 then (fX5_placeOf_121 k13 q3.2 x2 x3 x4)
  else (some (x4, q3.2))
def fX5_placeOf_88 (k13 : qM → Int32 → Int32 → Int32 → Option (Int32 × qM)) (σ : qM) (x2 : Int32) (x3 : Int32) (x4 : Int32) : Option (Int32 × qM) :=
  fX5_placeOf_98 k13 (qup σ 0 20 ((σ 0 8) + (1 : Int32))) x2 x3 x4
def fX5_placeOf_77 (k13 : qM → Int32 → Int32 → Int32 → Option (Int32 × qM)) (σ : qM) (x2 : Int32) (x3 : Int32) (x4 : Int32) (x6 : Int32) : Option (Int32 × qM) :=
  if qin (σ 0 8) 13 then fX5_placeOf_88 k13 (qup σ 13 (σ 0 8).toNatClampNeg x6) x2 x3 x4 else none
def fX5_placeOf_66 (k13 : qM → Int32 → Int32 → Int32 → Option (Int32 × qM)) (σ : qM) (x2 : Int32) (x3 : Int32) (x4 : Int32) (x5 : Int32) (x6 : Int32) : Option (Int32 × qM) :=
  if qin (σ 0 8) 13 then fX5_placeOf_77 k13 (qup σ 12 (σ 0 8).toNatClampNeg x5) x2 x3 x4 x6 else none
def fX5_placeOf_37 (k13 : qM → Int32 → Int32 → Int32 → Option (Int32 × qM)) (σ : qM) (x2 : Int32) (x3 : Int32) (x4 : Int32) (x5 : Int32) (x6 : Int32) : Option (Int32 × qM) :=
  (fX5_isFree σ x5 x6).bind fun q1 => if q1.1 = 0 then (fX5_placeOf_121 k13 q1.2 x2 x3 x4)
  else (if qin (((3 : Int32) * (q1.2 0 8)) + (2 : Int32)) 39 then fX5_placeOf_66 k13 (qup q1.2 7 (((3 : Int32) * (q1.2 0 8)) + (2 : Int32)).toNatClampNeg (x4 / (36 : Int32))) x2 x3 x4 x5 x6 else none)
def fX5_placeOf_27 (k13 : qM → Int32 → Int32 → Int32 → Option (Int32 × qM)) (σ : qM) (x2 : Int32) (x3 : Int32) (x4 : Int32) (x5 : Int32) : Option (Int32 × qM) :=
  fX5_placeOf_37 k13 σ x2 x3 x4 x5 (jrem (x4 / (6 : Int32)) (6 : Int32))
def bX5_placeOf_13 (k13 : qM → Int32 → Int32 → Int32 → Option (Int32 × qM)) (σ : qM) (x2 : Int32) (x3 : Int32) (x4 : Int32) : Option (Int32 × qM) :=
  if (108 : Int32) ≤ x4 then (some ((-1 : Int32), σ))
  else (fX5_placeOf_27 k13 σ x2 x3 x4 (jrem x4 (6 : Int32)))
def fX5_placeOf_13  : qM → Int32 → Int32 → Int32 → Option (Int32 × qM) := qlp (fun _ _ _ _ => none) (bX5_placeOf_13 ) qFU
def fX5_placeOf (σ : qM) (x1 : Int32) (x2 : Int32) : Option (Int32 × qM) :=
  (fX5_readNow σ x1).bind fun q1 => (fX5_isIn q1.2 q1.1 x2).bind fun q2 => fX5_placeOf_13 q2.2 x2 q2.1 (0 : Int32)
def fX5_place (σ : qM) (x1 : Int32) (x2 : Int32) : Option (Int32 × qM) :=
  (fX5_reads σ).bind fun q1 => (fX5_areTurns q1 x1).bind fun q2 => if q2.1 = 0 then (some ((-2 : Int32), q2.2))
  else ((fX5_isLaw q2.2 x2).bind fun q4 => if q4.1 = 0 then (some ((-2 : Int32), q4.2))
  else ((fX5_placeOf q4.2 x1 x2).bind fun q6 => some (q6.1, q6.2)))
def fX5_sidesOf_45 (k2 : qM → Int32 → Int32 → Int32 → Option (Int32 × qM)) (σ : qM) (x1 : Int32) (x2 : Int32) (x3 : Int32) : Option (Int32 × qM) :=
  k2 σ x1 x2 (x3 + (1 : Int32))
def bX5_sidesOf_2 (k2 : qM → Int32 → Int32 → Int32 → Option (Int32 × qM)) (σ : qM) (x1 : Int32) (x2 : Int32) (x3 : Int32) : Option (Int32 × qM) :=
  if (4 : Int32) ≤ x3 then (if x2 = 0 then (some ((0 : Int32), σ))
  else (some ((-1 : Int32), σ)))
  else ((fX5_readNow σ x3).bind fun q3 => (fX5_isIn q3.2 q3.1 x1).bind fun q4 => if q4.1 = 0 then (fX5_sidesOf_45 k2 q4.2 x1 x2 x3)
  else ((fX5_readNow q4.2 (jrem (x3 + (1 : Int32)) (4 : Int32))).bind fun q6 => (fX5_isIn q6.2 q6.1 x1).bind fun q7 => if q7.1 = 0 then (fX5_sidesOf_45 k2 q7.2 x1 x2 x3)
  else (if x2 = 0 then (some ((1 : Int32), q7.2))
  else (some (x3, q7.2)))))
def fX5_sidesOf_2  : qM → Int32 → Int32 → Int32 → Option (Int32 × qM) := qlp (fun _ _ _ _ => none) (bX5_sidesOf_2 ) qFU
def fX5_sidesOf (σ : qM) (x1 : Int32) (x2 : Int32) : Option (Int32 × qM) :=
  fX5_sidesOf_2 σ x1 x2 (0 : Int32)
def fX5_sides (σ : qM) (x1 : Int32) (x2 : Int32) : Option (Int32 × qM) :=
  (fX5_reads σ).bind fun q1 => (fX5_isLaw q1 x1).bind fun q2 => if q2.1 = 0 then (some ((-2 : Int32), q2.2))
  else ((fX5_isTwo q2.2 x2).bind fun q4 => if q4.1 = 0 then (some ((-2 : Int32), q4.2))
  else ((fX5_sidesOf q4.2 x1 x2).bind fun q6 => some (q6.1, q6.2)))
def fX5_read_65(σ : qM)  : Option (Int32 × qM) :=
  some ((σ 0 24), σ)
def fX5_read_55(σ : qM)  : Option (Int32 × qM) :=
  fX5_read_65 (qup σ 0 24 ((σ 0 24) + (1 : Int32)))
def fX5_read_41(σ : qM) (x2 : Int32) : Option (Int32 × qM) :=
  if qin (((2 : Int32) * (σ 0 24)) + (1 : Int32)) 16 then fX5_read_55 (qup σ 15 (((2 : Int32) * (σ 0 24)) + (1 : Int32)).toNatClampNeg x2) else none
def fX5_read (σ : qM) (x1 : Int32) (x2 : Int32) : Option (Int32 × qM) :=
  (fX5_areTurns σ x1).bind fun q1 => if q1.1 = 0 then (some ((-2 : Int32), q1.2))
  else ((fX5_areLaws q1.2 x2).bind fun q3 => if q3.1 = 0 then (some ((-2 : Int32), q3.2))
  else (if (q3.2 0 24) = (8 : Int32) then (some ((-4 : Int32), q3.2))
  else (if qin ((2 : Int32) * (q3.2 0 24)) 16 then fX5_read_41 (qup q3.2 15 ((2 : Int32) * (q3.2 0 24)).toNatClampNeg x1) x2 else none)))
def fX5_forget (σ : qM)  : Option (Int32 × qM) :=
  some ((σ 0 24), qup σ 0 24 (0 : Int32))
def fX5_take_100 (k29 : qM → Int32 → Int32 → Int32 → Option (Int32 × qM)) (σ : qM) (x1 : Int32) (x2 : Int32) (x3 : Int32) : Option (Int32 × qM) :=
  k29 σ x1 x2 x3
def fX5_take_98 (k29 : qM → Int32 → Int32 → Int32 → Option (Int32 × qM)) (σ : qM) (x1 : Int32) (x3 : Int32) (t0 : Int32) (t1 : Int32) : Option (Int32 × qM) :=
  fX5_take_100 k29 σ x1 (t1 + t0) x3
def fX5_take_87 (k29 : qM → Int32 → Int32 → Int32 → Option (Int32 × qM)) (σ : qM) (x1 : Int32) (x2 : Int32) (t0 : Int32) : Option (Int32 × qM) :=
  if t0 = 0 then (fX5_take_98 k29 σ x1 t0 (0 : Int32) x2)
  else (fX5_take_98 k29 σ x1 t0 (1 : Int32) x2)
def bX5_take_29 (k29 : qM → Int32 → Int32 → Int32 → Option (Int32 × qM)) (σ : qM) (x1 : Int32) (x2 : Int32) (x3 : Int32) : Option (Int32 × qM) :=
  if x3 = 0 then (some (x2, σ))
  else (if qin x1 4 then if (σ 2 x1.toNatClampNeg) < (((2 : Int32) * x2) + (2 : Int32)) then (some (x2, σ))
  else (if qin (((60 : Int32) * x1) + ((2 : Int32) * x2)) 240 then if qin ((((60 : Int32) * x1) + ((2 : Int32) * x2)) + (1 : Int32)) 240 then (fX5_read σ (σ 3 (((60 : Int32) * x1) + ((2 : Int32) * x2)).toNatClampNeg) (σ 3 ((((60 : Int32) * x1) + ((2 : Int32) * x2)) + (1 : Int32)).toNatClampNeg)).bind fun q6 => if q6.1 < 0 then (fX5_take_87 k29 q6.2 x1 x2 (0 : Int32))
  else (fX5_take_87 k29 q6.2 x1 x2 (1 : Int32)) else none else none) else none)
def fX5_take_29  : qM → Int32 → Int32 → Int32 → Option (Int32 × qM) := qlp (fun _ _ _ _ => none) (bX5_take_29 ) qFU
def fX5_take (σ : qM) (x1 : Int32) : Option (Int32 × qM) :=
  (fX5_isSheet σ x1).bind fun q1 => if q1.1 = 0 then (some ((-2 : Int32), q1.2))
  else (if qin x1 4 then if 0 ≤ (q1.2 1 x1.toNatClampNeg) then (fX5_take_29 q1.2 x1 (0 : Int32) (1 : Int32))
  else ((fX5_finds q1.2 (1 : Int32)).bind fun q5 => some (q5.1, q5.2)) else none)
def fX5_isRead_58 (k4 : qM → Int32 → Int32 → Int32 → Option (Int32 × qM)) (σ : qM) (x1 : Int32) (x3 : Int32) (t0 : Int32) : Option (Int32 × qM) :=
  k4 σ x1 t0 (x3 + (1 : Int32))
def bX5_isRead_4 (k4 : qM → Int32 → Int32 → Int32 → Option (Int32 × qM)) (σ : qM) (x1 : Int32) (x2 : Int32) (x3 : Int32) : Option (Int32 × qM) :=
  if (σ 0 24) ≤ x3 then (if x2 = 0 ∨ x2 = 1 then some (x2, σ) else none)
  else (if x2 = 0 then (if x2 = 0 ∨ x2 = 1 then some (x2, σ) else none)
  else (if qin ((2 : Int32) * x3) 16 then (fX5_turnsCup σ (σ 15 ((2 : Int32) * x3).toNatClampNeg)).bind fun q6 => (fX5_readBy q6 ((q6 0 21) &&& (x1 ^^^ (-1 : Int32)))).bind fun q7 => if qin (((2 : Int32) * x3) + (1 : Int32)) 16 then if q7.1 = (q7.2 15 (((2 : Int32) * x3) + (1 : Int32)).toNatClampNeg) then (fX5_isRead_58 k4 q7.2 x1 x3 (1 : Int32))
  else (fX5_isRead_58 k4 q7.2 x1 x3 (0 : Int32)) else none else none))
def fX5_isRead_4  : qM → Int32 → Int32 → Int32 → Option (Int32 × qM) := qlp (fun _ _ _ _ => none) (bX5_isRead_4 ) qFU
def fX5_isRead (σ : qM) (x1 : Int32) : Option (Int32 × qM) :=
  fX5_isRead_4 σ x1 (1 : Int32) (0 : Int32)
def fX5_fitsOf_82 (k4 : qM → Int32 → Int32 → Int32 → Option (Int32 × qM)) (σ : qM) (x1 : Int32) (x2 : Int32) (x3 : Int32) : Option (Int32 × qM) :=
  k4 σ x1 x2 (x3 + (1 : Int32))
def fX5_fitsOf_80 (k4 : qM → Int32 → Int32 → Int32 → Option (Int32 × qM)) (σ : qM) (x1 : Int32) (x3 : Int32) (t0 : Int32) (t1 : Int32) : Option (Int32 × qM) :=
  fX5_fitsOf_82 k4 σ x1 (t1 ||| t0) x3
def fX5_fitsOf_67 (k4 : qM → Int32 → Int32 → Int32 → Option (Int32 × qM)) (σ : qM) (x1 : Int32) (x3 : Int32) (t0 : Int32) (t2 : Int32) : Option (Int32 × qM) :=
  (fX5_isRead σ t0).bind fun q1 => if q1.1 = 0 then (fX5_fitsOf_80 k4 q1.2 x1 x3 (0 : Int32) t2)
  else (fX5_fitsOf_80 k4 q1.2 x1 x3 (jshl (1 : Int32) x3) t2)
def fX5_fitsOf_50 (k4 : qM → Int32 → Int32 → Int32 → Option (Int32 × qM)) (σ : qM) (x1 : Int32) (x2 : Int32) (x3 : Int32) (t0 : Int32) : Option (Int32 × qM) :=
  if x1 = (1 : Int32) then (fX5_fitsOf_67 k4 (qup σ 0 23 t0) x1 x3 (jshl (1 : Int32) x3) x2)
  else (fX5_fitsOf_67 k4 (qup σ 0 23 t0) x1 x3 (0 : Int32) x2)
def fX5_fitsOf_36 (k4 : qM → Int32 → Int32 → Int32 → Option (Int32 × qM)) (σ : qM) (x1 : Int32) (x2 : Int32) (x3 : Int32) (t0 : Int32) : Option (Int32 × qM) :=
  if x1 = (2 : Int32) then (fX5_fitsOf_50 k4 (qup σ 0 22 t0) x1 x2 x3 x3)
  else (fX5_fitsOf_50 k4 (qup σ 0 22 t0) x1 x2 x3 (-1 : Int32))
def fX5_fitsOf_93(σ : qM) (x2 : Int32) : Option (Int32 × qM) :=
  some (x2, qup σ 0 23 (-1 : Int32))
def fX5_fitsOf_21 (k4 : qM → Int32 → Int32 → Int32 → Option (Int32 × qM)) (σ : qM) (x1 : Int32) (x2 : Int32) (x3 : Int32) (t0 : Int32) (t1 : Int32) : Option (Int32 × qM) :=
  if t0 ≤ t1 then (fX5_fitsOf_93 (qup σ 0 22 (0 : Int32)) x2)
  else (if x1 = 0 then (fX5_fitsOf_36 k4 σ x1 x2 x3 (jshl (1 : Int32) x3))
  else (fX5_fitsOf_36 k4 σ x1 x2 x3 (0 : Int32)))
def bX5_fitsOf_4 (k4 : qM → Int32 → Int32 → Int32 → Option (Int32 × qM)) (σ : qM) (x1 : Int32) (x2 : Int32) (x3 : Int32) : Option (Int32 × qM) :=
  if x1 = (1 : Int32) then (fX5_fitsOf_21 k4 σ x1 x2 x3 (σ 0 8) x3)
  else (fX5_fitsOf_21 k4 σ x1 x2 x3 (σ 0 10) x3)
def fX5_fitsOf_4  : qM → Int32 → Int32 → Int32 → Option (Int32 × qM) := qlp (fun _ _ _ _ => none) (bX5_fitsOf_4 ) qFU
def fX5_fitsOf (σ : qM) (x1 : Int32) : Option (Int32 × qM) :=
  fX5_fitsOf_4 σ x1 (0 : Int32) (0 : Int32)
def fX5_fits (σ : qM) (x1 : Int32) : Option (Int32 × qM) :=
  (fX5_reads σ).bind fun q1 => (fX5_in q1 x1.toInt64 (0 : Int64) (2 : Int64)).bind fun q2 => if q2.1 = 0 then (some ((-2 : Int32), q2.2))
  else ((fX5_fitsOf q2.2 x1).bind fun q4 => some (q4.1, q4.2))
def fX5_sinksOf_124 (k40 : qM → Int32 → Int32 → Int32 → Int64 → Int64 → Int32 → Option (Int64 × qM)) (σ : qM) (x1 : Int32) (x3 : Int32) (x4 : Int32) (x5 : Int64) (x7 : Int64) (x9 : Int32) : Option (Int64 × qM) :=
  k40 σ x1 x3 x4 x5 x7 (x9 + (1 : Int32))
def fX5_sinksOf_111 (k40 : qM → Int32 → Int32 → Int32 → Int64 → Int64 → Int32 → Option (Int64 × qM)) (k77 : qM → Int32 → Int32 → Int32 → Int64 → Int64 → Int32 → Int64 → Int32 → Option (Int64 × qM)) (σ : qM) (x1 : Int32) (x3 : Int32) (x4 : Int32) (x5 : Int64) (x7 : Int64) (x9 : Int32) (x10 : Int64) (x12 : Int32) : Option (Int64 × qM) :=
  k77 σ x1 x3 x4 x5 x7 x9 x10 (x12 + (1 : Int32))
def fX5_sinksOf_108 (k40 : qM → Int32 → Int32 → Int32 → Int64 → Int64 → Int32 → Option (Int64 × qM)) (k77 : qM → Int32 → Int32 → Int32 → Int64 → Int64 → Int32 → Int64 → Int32 → Option (Int64 × qM)) (σ : qM) (x1 : Int32) (x3 : Int32) (x4 : Int32) (x5 : Int64) (x7 : Int64) (x9 : Int32) (x12 : Int32) (t0 : Int64) (t1 : Int64) : Option (Int64 × qM) :=
  fX5_sinksOf_111 k40 k77 σ x1 x3 x4 x5 x7 x9 (t1 * t0) x12
def bX5_sinksOf_77 (k40 : qM → Int32 → Int32 → Int32 → Int64 → Int64 → Int32 → Option (Int64 × qM)) (k77 : qM → Int32 → Int32 → Int32 → Int64 → Int64 → Int32 → Int64 → Int32 → Option (Int64 × qM)) (σ : qM) (x1 : Int32) (x3 : Int32) (x4 : Int32) (x5 : Int64) (x7 : Int64) (x9 : Int32) (x10 : Int64) (x12 : Int32) : Option (Int64 × qM) :=
  if (σ 0 8) ≤ x12 then (fX5_sinksOf_124 k40 σ x1 x3 x4 (x5 + x10) x7 x9)
  else ((fX5_isIn σ x9 x12).bind fun q2 => if q2.1 = 0 then (fX5_sinksOf_108 k40 k77 q2.2 x1 x3 x4 x5 x7 x9 x12 (((16 : Int32) - x1).toInt64) x10)
  else (fX5_sinksOf_108 k40 k77 q2.2 x1 x3 x4 x5 x7 x9 x12 x1.toInt64 x10))
def fX5_sinksOf_77 (k40 : qM → Int32 → Int32 → Int32 → Int64 → Int64 → Int32 → Option (Int64 × qM)) : qM → Int32 → Int32 → Int32 → Int64 → Int64 → Int32 → Int64 → Int32 → Option (Int64 × qM) := qlp (fun _ _ _ _ _ _ _ _ _ => none) (bX5_sinksOf_77 k40) qFU
def bX5_sinksOf_40 (k40 : qM → Int32 → Int32 → Int32 → Int64 → Int64 → Int32 → Option (Int64 × qM)) (σ : qM) (x1 : Int32) (x3 : Int32) (x4 : Int32) (x5 : Int64) (x7 : Int64) (x9 : Int32) : Option (Int64 × qM) :=
  if (jshl (1 : Int32) (σ 0 8)) ≤ x9 then ((fX5_part σ x5 x7 x4).bind fun q2 => some (q2.1, q2.2))
  else ((fX5_readBy σ ((σ 0 21) &&& (x9 ^^^ (-1 : Int32)))).bind fun q3 => (fX5_isIn q3.2 q3.1 x3).bind fun q4 => if q4.1 = 0 then (fX5_sinksOf_124 k40 q4.2 x1 x3 x4 x5 x7 x9)
  else (fX5_sinksOf_77 k40 q4.2 x1 x3 x4 x5 x7 x9 (1 : Int64) (0 : Int32)))
def fX5_sinksOf_40  : qM → Int32 → Int32 → Int32 → Int64 → Int64 → Int32 → Option (Int64 × qM) := qlp (fun _ _ _ _ _ _ _ => none) (bX5_sinksOf_40 ) qFU
def fX5_sinksOf_31 (k14 : qM → Int32 → Int32 → Int32 → Int64 → Int64 → Int32 → Option (Int64 × qM)) (σ : qM) (x1 : Int32) (x3 : Int32) (x4 : Int32) (x5 : Int64) (x7 : Int64) (x9 : Int32) : Option (Int64 × qM) :=
  k14 σ x1 x3 x4 x5 x7 (x9 + (1 : Int32))
def bX5_sinksOf_14 (k14 : qM → Int32 → Int32 → Int32 → Int64 → Int64 → Int32 → Option (Int64 × qM)) (σ : qM) (x1 : Int32) (x3 : Int32) (x4 : Int32) (x5 : Int64) (x7 : Int64) (x9 : Int32) : Option (Int64 × qM) :=
  if (σ 0 8) ≤ x9 then (fX5_sinksOf_40 σ x1 x3 x4 x5 x7 (0 : Int32))
  else (fX5_sinksOf_31 k14 σ x1 x3 x4 x5 (x7 * (16 : Int64)) x9)
def fX5_sinksOf_14  : qM → Int32 → Int32 → Int32 → Int64 → Int64 → Int32 → Option (Int64 × qM) := qlp (fun _ _ _ _ _ _ _ => none) (bX5_sinksOf_14 ) qFU
def fX5_sinksOf (σ : qM) (x1 : Int32) (x2 : Int32) (x3 : Int32) (x4 : Int32) : Option (Int64 × qM) :=
  (fX5_turnsCup σ x2).bind fun q1 => fX5_sinksOf_14 q1 x1 x3 x4 (0 : Int64) (1 : Int64) (0 : Int32)
def fX5_sinks_50(σ : qM)  : Option (Int64 × qM) :=
  (fX5_no σ (-2 : Int32)).bind fun q1 => some (q1.1, q1.2)
def fX5_sinks (σ : qM) (x1 : Int32) (x2 : Int32) (x3 : Int32) (x4 : Int32) : Option (Int64 × qM) :=
  (fX5_reads σ).bind fun q1 => (fX5_in q1 x1.toInt64 (0 : Int64) (16 : Int64)).bind fun q2 => if q2.1 = 0 then (fX5_sinks_50 q2.2)
  else ((fX5_areTurns q2.2 x2).bind fun q4 => if q4.1 = 0 then (fX5_sinks_50 q4.2)
  else ((fX5_isLaw q4.2 x3).bind fun q6 => if q6.1 = 0 then (fX5_sinks_50 q6.2)
  else ((fX5_isTwo q6.2 x4).bind fun q8 => if q8.1 = 0 then (fX5_sinks_50 q8.2)
  else ((fX5_sinksOf q8.2 x1 x2 x3 x4).bind fun q10 => some (q10.1, q10.2)))))
def fX5_morningsOf_55 (k9 : qM → Int32 → Int32 → Int32 → Int32 → Int32 → Option (Int32 × qM)) (σ : qM) (x2 : Int32) (x3 : Int32) (x4 : Int32) (x5 : Int32) (x6 : Int32) : Option (Int32 × qM) :=
  k9 σ x2 x3 x4 x5 (x6 + (1 : Int32))
def fX5_morningsOf_52 (k9 : qM → Int32 → Int32 → Int32 → Int32 → Int32 → Option (Int32 × qM)) (σ : qM) (x2 : Int32) (x3 : Int32) (x4 : Int32) (x6 : Int32) (t0 : Int32) (t1 : Int32) : Option (Int32 × qM) :=
  fX5_morningsOf_55 k9 σ x2 x3 x4 (t1 + t0) x6
def fX5_morningsOf_27 (k9 : qM → Int32 → Int32 → Int32 → Int32 → Int32 → Option (Int32 × qM)) (σ : qM) (x2 : Int32) (x3 : Int32) (x4 : Int32) (x5 : Int32) (x6 : Int32) : Option (Int32 × qM) :=
  (fX5_readNow σ (jrem (jushr x4 (16 : Int32)) (4 : Int32))).bind fun q1 => (fX5_isIn q1.2 q1.1 x3).bind fun q2 => if q2.1 = 0 then (fX5_morningsOf_52 k9 q2.2 x2 x3 x4 x6 (0 : Int32) x5)
  else (fX5_morningsOf_52 k9 q2.2 x2 x3 x4 x6 (1 : Int32) x5)
def bX5_morningsOf_9 (k9 : qM → Int32 → Int32 → Int32 → Int32 → Int32 → Option (Int32 × qM)) (σ : qM) (x2 : Int32) (x3 : Int32) (x4 : Int32) (x5 : Int32) (x6 : Int32) : Option (Int32 × qM) :=
  if x2 ≤ x6 then (some (x5, σ))
  else (fX5_morningsOf_27 k9 σ x2 x3 (((1103515245 : Int32) * x4) + (12345 : Int32)) x5 x6)
def fX5_morningsOf_9  : qM → Int32 → Int32 → Int32 → Int32 → Int32 → Option (Int32 × qM) := qlp (fun _ _ _ _ _ _ => none) (bX5_morningsOf_9 ) qFU
def fX5_morningsOf (σ : qM) (x1 : Int32) (x2 : Int32) (x3 : Int32) : Option (Int32 × qM) :=
  fX5_morningsOf_9 σ x2 x3 x1 (0 : Int32) (0 : Int32)
def fX5_mornings (σ : qM) (x1 : Int32) (x2 : Int32) (x3 : Int32) : Option (Int32 × qM) :=
  (fX5_reads σ).bind fun q1 => (fX5_in q1 x2.toInt64 (1 : Int64) (99 : Int64)).bind fun q2 => if q2.1 = 0 then (some ((-2 : Int32), q2.2))
  else ((fX5_isLaw q2.2 x3).bind fun q4 => if q4.1 = 0 then (some ((-2 : Int32), q4.2))
  else ((fX5_morningsOf q4.2 x1 x2 x3).bind fun q6 => some (q6.1, q6.2)))
def bX5_write_54 (k54 : qM → Int32 → Int32 → Int32 → Option (Int32 × qM)) (σ : qM) (x1 : Int32) (x2 : Int32) (x3 : Int32) : Option (Int32 × qM) :=
  if x2 ≤ x3 then (some (x2, σ))
  else (if qin x1 4 then (fX5_dayOf σ x3).bind fun q3 => (fX5_cut q3.2 (σ 1 x1.toNatClampNeg) q3.1).bind fun q4 => if qin (((60 : Int32) * x1) + x3) 240 then k54 (qup q4.2 3 (((60 : Int32) * x1) + x3).toNatClampNeg q4.1) x1 x2 (x3 + (1 : Int32)) else none else none)
def fX5_write_54  : qM → Int32 → Int32 → Int32 → Option (Int32 × qM) := qlp (fun _ _ _ _ => none) (bX5_write_54 ) qFU
def fX5_write_51(σ : qM) (x1 : Int32) (t0 : Int32) : Option (Int32 × qM) :=
  fX5_write_54 σ x1 t0 (0 : Int32)
def fX5_write (σ : qM) (x1 : Int32) : Option (Int32 × qM) :=
  (fX5_isSheet σ x1).bind fun q1 => if q1.1 = 0 then (some ((-2 : Int32), q1.2))
  else (if qin x1 4 then if 0 ≤ (q1.2 1 x1.toNatClampNeg) then ((fX5_reads q1.2).bind fun q5 => if qin x1 4 then if (28 : Int32) ≤ (q5 2 x1.toNatClampNeg) then (fX5_write_51 q5 x1 (28 : Int32))
  else (if qin x1 4 then fX5_write_51 q5 x1 (q5 2 x1.toNatClampNeg) else none) else none)
  else ((fX5_finds q1.2 (1 : Int32)).bind fun q9 => some (q9.1, q9.2)) else none)
def fX5_count_66(σ : qM) (x1 : Int32) : Option (Int32 × qM) :=
  if qin (x1 - (2 : Int32)) 2 then some ((σ 6 (x1 - (2 : Int32)).toNatClampNeg), σ) else none
def fX5_count_113 (k92 : qM → Int32 → Int32 → Option (Int32 × qM)) (σ : qM) (x2 : Int32) (x3 : Int32) : Option (Int32 × qM) :=
  k92 σ x2 (x3 + (1 : Int32))
def bX5_count_92 (k92 : qM → Int32 → Int32 → Option (Int32 × qM)) (σ : qM) (x2 : Int32) (x3 : Int32) : Option (Int32 × qM) :=
  if (σ 0 10) ≤ x3 then (some (x2, σ))
  else (if qin (((5 : Int32) * x3) + (3 : Int32)) 50 then fX5_count_113 k92 σ (x2 + (σ 8 (((5 : Int32) * x3) + (3 : Int32)).toNatClampNeg)) x3 else none)
def fX5_count_92  : qM → Int32 → Int32 → Option (Int32 × qM) := qlp (fun _ _ _ => none) (bX5_count_92 ) qFU
def fX5_count (σ : qM) (x1 : Int32) : Option (Int32 × qM) :=
  (fX5_reads σ).bind fun q1 => if x1 = (0 : Int32) then (some ((q1 0 8), q1))
  else (if x1 = (1 : Int32) then (some ((q1 0 10), q1))
  else (if x1 = (2 : Int32) then (fX5_count_66 q1 x1)
  else (if x1 = (3 : Int32) then (fX5_count_66 q1 x1)
  else (if x1 = (4 : Int32) then (some ((q1 0 12), q1))
  else (if x1 = (5 : Int32) then (some ((q1 0 14), q1))
  else (if x1 = (6 : Int32) then (some ((q1 0 24), q1))
  else (if x1 = (7 : Int32) then (fX5_count_92 q1 (0 : Int32) (0 : Int32))
  else (if x1 = (8 : Int32) then (some ((q1 0 4), q1))
  else (some ((-2 : Int32), q1))))))))))
def fX5_tellsTurns_131(σ : qM) (x3 : Int32) (x4 : Int64) : Option (Int64 × qM) :=
  (fX5_placeOf σ x3 (0 : Int32)).bind fun q1 => some ((((31 : Int64) * x4) + q1.1.toInt64), q1.2)
def fX5_tellsTurns_115(σ : qM) (x3 : Int32) (x4 : Int64) (x7 : Int32) : Option (Int64 × qM) :=
  (fX5_tells σ x7 (1 : Int32)).bind fun q1 => fX5_tellsTurns_131 q1.2 x3 (((31 : Int64) * x4) + q1.1.toInt64)
def fX5_tellsTurns_91(σ : qM) (x3 : Int32) (x4 : Int64) : Option (Int64 × qM) :=
  (fX5_strikeOf σ x3 (3 : Int32)).bind fun q1 => (fX5_tells q1.2 q1.1 (0 : Int32)).bind fun q2 => fX5_tellsTurns_115 q2.2 x3 (((31 : Int64) * x4) + q2.1.toInt64) q1.1
def fX5_tellsTurns_75(σ : qM) (x3 : Int32) (x4 : Int64) (x6 : Int32) : Option (Int64 × qM) :=
  (fX5_tells σ x6 (1 : Int32)).bind fun q1 => fX5_tellsTurns_91 q1.2 x3 (((31 : Int64) * x4) + q1.1.toInt64)
def fX5_tellsTurns_50(σ : qM) (x3 : Int32) (x4 : Int64) : Option (Int64 × qM) :=
  (fX5_strainOf σ x3 (1 : Int32) (2 : Int32)).bind fun q1 => (fX5_tells q1.2 q1.1 (0 : Int32)).bind fun q2 => fX5_tellsTurns_75 q2.2 x3 (((31 : Int64) * x4) + q2.1.toInt64) q1.1
def fX5_tellsTurns_29 (k6 : qM → Int32 → Int64 → Int32 → Option (Int64 × qM)) (σ : qM) (x3 : Int32) (x4 : Int64) (x6 : Int32) : Option (Int64 × qM) :=
  k6 σ x3 x4 (x6 + (1 : Int32))
def bX5_tellsTurns_6 (k6 : qM → Int32 → Int64 → Int32 → Option (Int64 × qM)) (σ : qM) (x3 : Int32) (x4 : Int64) (x6 : Int32) : Option (Int64 × qM) :=
  if (3 : Int32) ≤ x6 then ((fX5_clashOf σ x3).bind fun q2 => fX5_tellsTurns_50 q2.2 x3 (((31 : Int64) * x4) + q2.1.toInt64))
  else ((fX5_readingOf σ x3 x6).bind fun q3 => fX5_tellsTurns_29 k6 q3.2 x3 (((31 : Int64) * x4) + q3.1.toInt64) x6)
def fX5_tellsTurns_6  : qM → Int32 → Int64 → Int32 → Option (Int64 × qM) := qlp (fun _ _ _ _ => none) (bX5_tellsTurns_6 ) qFU
def fX5_tellsTurns (σ : qM) (x1 : Int64) (x3 : Int32) : Option (Int64 × qM) :=
  fX5_tellsTurns_6 σ x3 x1 (0 : Int32)
def fX5_tellsLaw_80(σ : qM) (x3 : Int32) (x4 : Int64) : Option (Int64 × qM) :=
  (fX5_morningsOf σ (7 : Int32) (20 : Int32) x3).bind fun q1 => some ((((31 : Int64) * x4) + q1.1.toInt64), q1.2)
def fX5_tellsLaw_63(σ : qM) (x3 : Int32) (x4 : Int64) : Option (Int64 × qM) :=
  (fX5_sinksOf σ (5 : Int32) (1 : Int32) x3 (1 : Int32)).bind fun q1 => fX5_tellsLaw_80 q1.2 x3 (((31 : Int64) * x4) + q1.1)
def fX5_tellsLaw_46(σ : qM) (x3 : Int32) (x4 : Int64) : Option (Int64 × qM) :=
  (fX5_sinksOf σ (5 : Int32) (1 : Int32) x3 (0 : Int32)).bind fun q1 => fX5_tellsLaw_63 q1.2 x3 (((31 : Int64) * x4) + q1.1)
def fX5_tellsLaw_30(σ : qM) (x3 : Int32) (x4 : Int64) : Option (Int64 × qM) :=
  (fX5_sidesOf σ x3 (1 : Int32)).bind fun q1 => fX5_tellsLaw_46 q1.2 x3 (((31 : Int64) * x4) + q1.1.toInt64)
def fX5_tellsLaw_14(σ : qM) (x3 : Int32) (x4 : Int64) : Option (Int64 × qM) :=
  (fX5_sidesOf σ x3 (0 : Int32)).bind fun q1 => fX5_tellsLaw_30 q1.2 x3 (((31 : Int64) * x4) + q1.1.toInt64)
def fX5_tellsLaw (σ : qM) (x1 : Int64) (x3 : Int32) : Option (Int64 × qM) :=
  (fX5_freeOf σ x3).bind fun q1 => fX5_tellsLaw_14 q1.2 x3 (((31 : Int64) * x1) + q1.1.toInt64)
def fX5_digest_25 (k6 : qM → Int64 → Int32 → Option (Int64 × qM)) (σ : qM) (x1 : Int64) (x3 : Int32) : Option (Int64 × qM) :=
  k6 σ x1 (x3 + (1 : Int32))
def fX5_digest_145 (k109 : qM → Int64 → Int32 → Option (Int64 × qM)) (k120 : qM → Int64 → Int32 → Int32 → Option (Int64 × qM)) (σ : qM) (x1 : Int64) (x3 : Int32) (x4 : Int32) : Option (Int64 × qM) :=
  k120 σ x1 x3 (x4 + (1 : Int32))
def bX5_digest_120 (k109 : qM → Int64 → Int32 → Option (Int64 × qM)) (k120 : qM → Int64 → Int32 → Int32 → Option (Int64 × qM)) (σ : qM) (x1 : Int64) (x3 : Int32) (x4 : Int32) : Option (Int64 × qM) :=
  if (5 : Int32) ≤ x4 then (k109 σ x1 (x3 + (1 : Int32)))
  else (if qin (((5 : Int32) * x3) + x4) 50 then fX5_digest_145 k109 k120 σ (((31 : Int64) * x1) + (σ 8 (((5 : Int32) * x3) + x4).toNatClampNeg).toInt64) x3 x4 else none)
def fX5_digest_120 (k109 : qM → Int64 → Int32 → Option (Int64 × qM)) : qM → Int64 → Int32 → Int32 → Option (Int64 × qM) := qlp (fun _ _ _ _ => none) (bX5_digest_120 k109) qFU
def fX5_digest_255 (k237 : qM → Int64 → Int32 → Option (Int64 × qM)) (σ : qM) (x1 : Int64) (x3 : Int32) : Option (Int64 × qM) :=
  k237 σ x1 (x3 + (1 : Int32))
def bX5_digest_237 (k237 : qM → Int64 → Int32 → Option (Int64 × qM)) (σ : qM) (x1 : Int64) (x3 : Int32) : Option (Int64 × qM) :=
  if (3 : Int32) ≤ x3 then (some (x1, σ))
  else ((fX5_fitsOf σ x3).bind fun q2 => fX5_digest_255 k237 q2.2 (((31 : Int64) * x1) + q2.1.toInt64) x3)
def fX5_digest_237  : qM → Int64 → Int32 → Option (Int64 × qM) := qlp (fun _ _ _ => none) (bX5_digest_237 ) qFU
def fX5_digest_235(σ : qM) (x1 : Int64) : Option (Int64 × qM) :=
  fX5_digest_237 σ x1 (0 : Int32)
def fX5_digest_222(σ : qM) (x1 : Int64) : Option (Int64 × qM) :=
  (fX5_pourOf σ (5 : Int32)).bind fun q1 => fX5_digest_235 q1.2 (((31 : Int64) * x1) + q1.1.toInt64)
def fX5_digest_210(σ : qM) (x1 : Int64) : Option (Int64 × qM) :=
  (fX5_firstBroken σ).bind fun q1 => fX5_digest_222 q1.2 (((31 : Int64) * x1) + q1.1.toInt64)
def bX5_digest_179 (k179 : qM → Int64 → Int32 → Option (Int64 × qM)) (σ : qM) (x1 : Int64) (x3 : Int32) : Option (Int64 × qM) :=
  if (8 : Int32) ≤ x3 then ((fX5_brokenNow σ).bind fun q2 => fX5_digest_210 q2.2 (((31 : Int64) * x1) + q2.1.toInt64))
  else ((fX5_tellsLaw σ x1 x3).bind fun q3 => k179 q3.2 q3.1 (x3 + (1 : Int32)))
def fX5_digest_179  : qM → Int64 → Int32 → Option (Int64 × qM) := qlp (fun _ _ _ => none) (bX5_digest_179 ) qFU
def bX5_digest_159 (k159 : qM → Int64 → Int32 → Option (Int64 × qM)) (σ : qM) (x1 : Int64) (x3 : Int32) : Option (Int64 × qM) :=
  if (4 : Int32) ≤ x3 then (fX5_digest_179 σ x1 (0 : Int32))
  else ((fX5_tellsTurns σ x1 x3).bind fun q2 => k159 q2.2 q2.1 (x3 + (1 : Int32)))
def fX5_digest_159  : qM → Int64 → Int32 → Option (Int64 × qM) := qlp (fun _ _ _ => none) (bX5_digest_159 ) qFU
def bX5_digest_109 (k109 : qM → Int64 → Int32 → Option (Int64 × qM)) (σ : qM) (x1 : Int64) (x3 : Int32) : Option (Int64 × qM) :=
  if (σ 0 10) ≤ x3 then (fX5_digest_159 σ x1 (0 : Int32))
  else (fX5_digest_120 k109 σ x1 x3 (0 : Int32))
def fX5_digest_109  : qM → Int64 → Int32 → Option (Int64 × qM) := qlp (fun _ _ _ => none) (bX5_digest_109 ) qFU
def fX5_digest_95 (k59 : qM → Int64 → Int32 → Option (Int64 × qM)) (k70 : qM → Int64 → Int32 → Int32 → Option (Int64 × qM)) (σ : qM) (x1 : Int64) (x3 : Int32) (x4 : Int32) : Option (Int64 × qM) :=
  k70 σ x1 x3 (x4 + (1 : Int32))
def bX5_digest_70 (k59 : qM → Int64 → Int32 → Option (Int64 × qM)) (k70 : qM → Int64 → Int32 → Int32 → Option (Int64 × qM)) (σ : qM) (x1 : Int64) (x3 : Int32) (x4 : Int32) : Option (Int64 × qM) :=
  if (3 : Int32) ≤ x4 then (k59 σ x1 (x3 + (1 : Int32)))
  else (if qin (((3 : Int32) * x3) + x4) 39 then fX5_digest_95 k59 k70 σ (((31 : Int64) * x1) + (σ 7 (((3 : Int32) * x3) + x4).toNatClampNeg).toInt64) x3 x4 else none)
def fX5_digest_70 (k59 : qM → Int64 → Int32 → Option (Int64 × qM)) : qM → Int64 → Int32 → Int32 → Option (Int64 × qM) := qlp (fun _ _ _ _ => none) (bX5_digest_70 k59) qFU
def bX5_digest_59 (k59 : qM → Int64 → Int32 → Option (Int64 × qM)) (σ : qM) (x1 : Int64) (x3 : Int32) : Option (Int64 × qM) :=
  if (σ 0 8) ≤ x3 then (fX5_digest_109 σ x1 (0 : Int32))
  else (fX5_digest_70 k59 σ x1 x3 (0 : Int32))
def fX5_digest_59  : qM → Int64 → Int32 → Option (Int64 × qM) := qlp (fun _ _ _ => none) (bX5_digest_59 ) qFU
def fX5_digest_57(σ : qM) (x1 : Int64) : Option (Int64 × qM) :=
  fX5_digest_59 σ x1 (0 : Int32)
def fX5_digest_44(σ : qM) (x1 : Int64) : Option (Int64 × qM) :=
  (fX5_readsText σ (1 : Int32)).bind fun q1 => fX5_digest_57 q1.2 (((31 : Int64) * x1) + q1.1.toInt64)
def bX5_digest_6 (k6 : qM → Int64 → Int32 → Option (Int64 × qM)) (σ : qM) (x1 : Int64) (x3 : Int32) : Option (Int64 × qM) :=
  if (8 : Int32) ≤ x3 then ((fX5_readsText σ (0 : Int32)).bind fun q2 => fX5_digest_44 q2.2 (((31 : Int64) * x1) + q2.1.toInt64))
  else ((fX5_count σ x3).bind fun q3 => fX5_digest_25 k6 q3.2 (((31 : Int64) * x1) + q3.1.toInt64) x3)
def fX5_digest_6  : qM → Int64 → Int32 → Option (Int64 × qM) := qlp (fun _ _ _ => none) (bX5_digest_6 ) qFU
def fX5_digest (σ : qM)  : Option (Int64 × qM) :=
  fX5_digest_6 σ (17 : Int64) (0 : Int32)
