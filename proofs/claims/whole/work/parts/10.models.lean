def MX3_at (n9 : Nat) (S : qS) (u0 : Nat) (p1 : Int) : Option (Int) := qg (10 ≤ qk u0) <| qg (qR p1) <| if p1 < 0 then (some 0) else (if ((qlen u0) : Int) ≤ p1 then (some 0) else (qg (0 ≤ p1 ∧ p1 < (qlen u0)) <| some (S u0 p1.toNat)))

def MX3_at_s1 (n9 : Nat) (S : qS) (p1 : Int) : Option (Int) := qg (qR p1) <| if p1 < 0 then (some 0) else (if 4 ≤ p1 then (some 0) else (qg (0 ≤ p1 ∧ p1 < 4) <| some (qF1i p1.toNat)))

def MX3_at_s2 (n9 : Nat) (S : qS) (p1 : Int) : Option (Int) := qg (qR p1) <| if p1 < 0 then (some 0) else (if 4 ≤ p1 then (some 0) else (qg (0 ≤ p1 ∧ p1 < 4) <| some (qF2i p1.toNat)))

def MX1_beginsTrain (n9 : Nat) (S : qS) (u0 : Nat) (p1 : Int) : Option (Int) := qg (qk u0 = 2) <| qg (qR p1) <| ql (some 1) fun (j2 : Option (Int)) => if p1 = 0 then (j2) else (qb (MX3_at n9 S (u0 + 1) p1) fun a5 => qb (MX3_at n9 S (u0 + 4) 3) fun a7 => qg (qR a5) <| qg (qR a7) <| if a5 < a7 then (some 0) else (j2))

def MX0_findTrains_l7 (n9 : Nat) (u1 : Nat) (k83 : qS → Option (qS)) : Nat → qS → Int → Option (qS)
  | 0, _, _ => none
  | f + 1, S11, x12 => qg (qR x12) <| qg (qR (S11 u1 4)) <| if (S11 u1 4) ≤ x12 then (k83 S11) else (if 30 ≤ x12 then (k83 S11) else (qb (MX1_beginsTrain n9 S11 u1 x12) fun a17 => qg (qR a17) <| ql (fun (S20 : qS) => qg (0 ≤ x12 ∧ x12 < 30) <| ql (q2 S20 21 x12.toNat ((S20 17 9) - 1)) fun S23 => qg (0 ≤ x12 ∧ x12 < 30) <| ql (q2 S23 22 x12.toNat (-1)) fun S26 => MX0_findTrains_l7 n9 u1 k83 f S26 (x12 + 1)) fun (j21 : qS → Option (qS)) => if a17 = 0 then (j21 S11) else (qg (qR (S11 17 9)) <| if 30 ≤ (S11 17 9) then (j21 S11) else (qg (0 ≤ (S11 17 9) ∧ (S11 17 9) < 31) <| ql (q2 S11 18 (S11 17 9).toNat x12) fun S33 => ql (q2 S33 17 9 ((S33 17 9) + 1)) fun S35 => j21 S35))))

def MX0_findTrains (n9 : Nat) (S : qS) (u1 : Nat) : Option (qS) := qg (qk u1 = 2) <| ql (q2 S 17 9 0) fun S1 => ql (fun (S3 : qS) => qg (qR (S3 17 9)) <| if 30 < (S3 17 9) then (some S3) else (qg (0 ≤ (S3 17 9) ∧ (S3 17 9) < 31) <| ql (q2 S3 18 (S3 17 9).toNat (S3 u1 4)) fun S8 => some S8)) fun (j4 : qS → Option (qS)) => MX0_findTrains_l7 n9 u1 j4 n9 S1 0

def MX1_carCost (n9 : Nat) (S : qS) (u0 : Nat) (p1 : Int) : Option (Int) := qg (qk u0 = 2) <| qb (MX3_at n9 S (u0 + 1) (p1 + 1)) fun a1 => qb (MX3_at n9 S (u0 + 4) 0) fun a3 => qg (qR (a1 - a3)) <| qb (MX3_at n9 S (u0 + 2) p1) fun a6 => qb (MX3_at n9 S (u0 + 2) (p1 + 1)) fun a8 => qg (qR (a6 - a8)) <| some ((3 * (qabs (a1 - a3))) + (qabs (a6 - a8)))

def MX0_chooseCar_l30 (n9 : Nat) (S : qS) (u1 : Nat) (p2 : Int) (p3 : Int) (p4 : Int) (a1 : Int) (k111 : Int → Int → Option (qS)) : Nat → Int → Int → Int → Int → Option (qS)
  | 0, _, _, _, _ => none
  | f + 1, x18, x19, x20, x21 => qg (qR (x21 + 1)) <| qg (qR p3) <| if p3 ≤ (x21 + 1) then (k111 x18 x19) else (qb (MX3_at n9 S (u1 + 1) x21) fun a25 => ql (x20 + a25) fun x27 => qg (qR (p4 - x27)) <| ql ((a1 * (x21 - p2)) + (2 * (qmax (p4 - x27) 0))) fun x30 => qb (MX3_at n9 S 24 x21) fun a32 => ql ((100 * x30) + a32) fun x34 => qg (qR x34) <| qg (qR x18) <| ql (fun (x38 : Int) (x39 : Int) => MX0_chooseCar_l30 n9 S u1 p2 p3 p4 a1 k111 f x38 x39 x27 (x21 + 1)) fun (j40 : Int → Int → Option (qS)) => if x18 ≤ x34 then (j40 x18 x19) else (j40 x34 x21))

def MX0_chooseCar (n9 : Nat) (S : qS) (u1 : Nat) (p2 : Int) (p3 : Int) (p4 : Int) : Option (qS) := qg (qk u1 = 2) <| qb (MX3_at n9 S (u1 + 4) 2) fun a1 => ql ((100 * a1) * (p3 - p2)) fun x3 => ql (fun (x5 : Int) (x6 : Int) => qg (qR p2) <| if p2 < 0 then (some S) else (if 30 < p2 then (some S) else (qg (0 ≤ p2 ∧ p2 < 31) <| ql (q2 S 25 p2.toNat x5) fun S12 => qg (0 ≤ p2 ∧ p2 < 31) <| ql (q2 S12 26 p2.toNat x6) fun S15 => some S15))) fun (j7 : Int → Int → Option (qS)) => MX0_chooseCar_l30 n9 S u1 p2 p3 p4 a1 j7 n9 x3 (-1) 0 p2

def MX0_findValues_l18 (n9 : Nat) (u1 : Nat) (p2 : Int) (p3 : Int) (p4 : Int) (a1 : Int)  : Nat → qS → Int → Option (qS)
  | 0, _, _ => none
  | f + 1, S6, x7 => qg (qR x7) <| qg (qR p2) <| if x7 < p2 then (some S6) else (if x7 < 0 then (some S6) else (qg (qR (x7 + 1)) <| qg (qR p3) <| ql (fun (v14 : Int) => qg (qR v14) <| ql (fun (v17 : Int) => qg (0 ≤ x7 ∧ x7 < 31) <| ql (q2 S6 24 x7.toNat v17) fun S20 => ql (fun (v22 : Int) => qb (MX0_chooseCar n9 S20 u1 x7 p3 v22) fun a24 => MX0_findValues_l18 n9 u1 p2 p3 p4 a1 f a24 (x7 + (-1))) fun (j23 : Int → Option (qS)) => if x7 = p2 then (j23 0) else (j23 a1)) fun (j18 : Int → Option (qS)) => if v14 = 0 then (j18 1000000000) else (qb (MX1_carCost n9 S6 u1 x7) fun a30 => qb (MX3_at n9 S6 25 (x7 + 2)) fun a32 => j18 (((100 * a30) - 1) + a32))) fun (j15 : Int → Option (qS)) => ql (j15 0) fun (j35 : Option (qS)) => if p3 ≤ (x7 + 1) then (j35) else (qg (qR p4) <| if x7 = p4 then (j35) else (if (x7 + 1) = p4 then (j35) else (j15 1)))))

def MX0_findValues (n9 : Nat) (S : qS) (u1 : Nat) (p2 : Int) (p3 : Int) (p4 : Int) : Option (qS) := qg (qk u1 = 2) <| qb (MX3_at n9 S (u1 + 4) 1) fun a1 => qg (qR p3) <| ql (qmin p3 30) fun x4 => MX0_findValues_l18 n9 u1 p2 p3 p4 a1 n9 S x4

def MJ9_floorDiv_7cf53 (n9 : Nat) (S : qS) (p0 : Int) (p1 : Int) : Option (Int) := qg (0 ≤ p0 ∧ p0 < 2147483648 ∧ 0 < p1 ∧ p1 < 2147483648) <| ql (p0 / p1) fun x2 => qg (qR (qixor p0 p1)) <| if 0 ≤ (qixor p0 p1) then (some x2) else (qg (qR (x2 * p1)) <| qg (qR p0) <| if (x2 * p1) = p0 then (some x2) else (some (x2 - 1)))

def MX0_costOf (n9 : Nat) (S : qS) (p0 : Int) : Option (Int) := qb (MJ9_floorDiv_7cf53 n9 S ((p0 + 100) - 1) 100) fun a1 => some a1

def MX1_carWeight (n9 : Nat) (S : qS) (u0 : Nat) (p1 : Int) : Option (Int) := qg (qk u0 = 2) <| qb (MX3_at n9 S (u0 + 2) p1) fun a1 => qb (MX3_at n9 S (u0 + 2) (p1 + 1)) fun a3 => some (a1 + a3)

def MX0_takeCars_l9 (n9 : Nat) (u1 : Nat) (k35 : qS → Option (qS)) : Nat → qS → Int → Option (qS)
  | 0, _, _ => none
  | f + 1, S6, x7 => qg (qR x7) <| if x7 = (-1) then (some S6) else (qg (qR (S6 17 10)) <| if 15 ≤ (S6 17 10) then (some S6) else (if x7 < 0 then (some S6) else (qg (qR (x7 + 1)) <| if (x7 + 1) < 30 then (qg (0 ≤ (S6 17 10) ∧ (S6 17 10) < 15) <| ql (q2 S6 23 (S6 17 10).toNat x7) fun S16 => qg (0 ≤ x7 ∧ x7 < 30) <| ql (q2 S16 22 x7.toNat (S16 17 10)) fun S19 => qg (0 ≤ (x7 + 1) ∧ (x7 + 1) < 30) <| ql (q2 S19 22 (x7 + 1).toNat (S19 17 10)) fun S22 => qb (MX1_carWeight n9 S22 u1 x7) fun a24 => ql (q2 S22 17 12 ((S22 17 12) + a24)) fun S26 => ql (q2 S26 17 10 ((S26 17 10) + 1)) fun S28 => qb (MX3_at n9 S28 26 (x7 + 2)) fun a30 => MX0_takeCars_l9 n9 u1 k35 f S28 a30) else (k35 S6))))

def MX0_takeCars (n9 : Nat) (S : qS) (u1 : Nat) (p2 : Int) : Option (qS) := qg (qk u1 = 2) <| qb (MX3_at n9 S 26 p2) fun a1 => ql (fun (S3 : qS) => some S3) fun (j4 : qS → Option (qS)) => MX0_takeCars_l9 n9 u1 j4 n9 S a1

def MX0_workOut_l22 (n9 : Nat) (u1 : Nat)  : Nat → qS → Int → Option (qS)
  | 0, _, _ => none
  | f + 1, S9, x10 => qg (qR x10) <| qg (qR (S9 17 9)) <| if (S9 17 9) ≤ x10 then (some S9) else (if 30 ≤ x10 then (some S9) else (qg (0 ≤ x10 ∧ x10 < 31) <| ql (S9 18 x10.toNat) fun x16 => qg (0 ≤ (x10 + 1) ∧ (x10 + 1) < 31) <| qb (MX0_findValues n9 S9 u1 x16 (S9 18 (x10 + 1).toNat) (-1)) fun a19 => qb (MX3_at n9 a19 25 x16) fun a21 => qb (MX0_costOf n9 a19 a21) fun a23 => qg (0 ≤ x10 ∧ x10 < 30) <| ql (q2 a19 20 x10.toNat a23) fun S26 => qg (0 ≤ x10 ∧ x10 < 30) <| ql (q2 S26 17 11 ((S26 17 11) + (S26 20 x10.toNat))) fun S29 => qb (MX0_takeCars n9 S29 u1 x16) fun a31 => qg (0 ≤ (x10 + 1) ∧ (x10 + 1) < 31) <| ql (q2 a31 19 (x10 + 1).toNat (a31 17 10)) fun S34 => MX0_workOut_l22 n9 u1 f S34 (x10 + 1)))

def MX0_workOut (n9 : Nat) (S : qS) (u1 : Nat) : Option (qS) := qg (qk u1 = 2) <| qb (MX0_findTrains n9 S u1) fun a1 => ql (q2 a1 17 10 0) fun S3 => ql (q2 S3 17 11 0) fun S5 => ql (q2 S5 17 12 0) fun S7 => MX0_workOut_l22 n9 u1 n9 S7 0

def MX0_axlesOfTrain (n9 : Nat) (S : qS) (p1 : Int) : Option (Int) := qb (MX3_at n9 S 18 (p1 + 1)) fun a1 => qb (MX3_at n9 S 18 p1) fun a3 => some (a1 - a3)

def MX0_carsOfTrain (n9 : Nat) (S : qS) (p1 : Int) : Option (Int) := qb (MX3_at n9 S 19 (p1 + 1)) fun a1 => qb (MX3_at n9 S 19 p1) fun a3 => some (a1 - a3)

def MX0_weightOfTrain_l12 (n9 : Nat) (S : qS) (u1 : Nat) (p2 : Int)  : Nat → Int → Int → Option (Int)
  | 0, _, _ => none
  | f + 1, x3, x4 => qb (MX3_at n9 S 19 (p2 + 1)) fun a5 => qg (qR x4) <| qg (qR a5) <| if a5 ≤ x4 then (some x3) else (qb (MX3_at n9 S 23 x4) fun a10 => qb (MX1_carWeight n9 S u1 a10) fun a12 => ql (x3 + a12) fun x14 => MX0_weightOfTrain_l12 n9 S u1 p2 f x14 (x4 + 1))

def MX0_weightOfTrain (n9 : Nat) (S : qS) (u1 : Nat) (p2 : Int) : Option (Int) := qg (qk u1 = 2) <| qb (MX3_at n9 S 19 p2) fun a1 => MX0_weightOfTrain_l12 n9 S u1 p2 n9 0 a1

def MX0_greatestWeight_l12 (n9 : Nat) (S : qS) (u1 : Nat) (p2 : Int)  : Nat → Int → Int → Option (Int)
  | 0, _, _ => none
  | f + 1, x3, x4 => qb (MX3_at n9 S 19 (p2 + 1)) fun a5 => qg (qR x4) <| qg (qR a5) <| if a5 ≤ x4 then (some x3) else (qb (MX3_at n9 S 23 x4) fun a10 => qb (MX1_carWeight n9 S u1 a10) fun a12 => qg (qR x3) <| qg (qR a12) <| ql (qmax x3 a12) fun x16 => MX0_greatestWeight_l12 n9 S u1 p2 f x16 (x4 + 1))

def MX0_greatestWeight (n9 : Nat) (S : qS) (u1 : Nat) (p2 : Int) : Option (Int) := qg (qk u1 = 2) <| qb (MX3_at n9 S 19 p2) fun a1 => MX0_greatestWeight_l12 n9 S u1 p2 n9 (-1) a1

def MX1_carSpeed (n9 : Nat) (S : qS) (u0 : Nat) (p1 : Int) : Option (Int) := qg (qk u0 = 2) <| qb (MX3_at n9 S (u0 + 1) (p1 + 1)) fun a1 => qg (qR a1) <| if a1 ≤ 0 then (some 0) else (qg (0 ≤ (600 : Int) ∧ (600 : Int) < 2147483648 ∧ 0 < a1 ∧ a1 < 2147483648) <| some (600 / a1))

def MX0_speedDifference_l27 (n9 : Nat) (S : qS) (u1 : Nat) (p2 : Int) (k79 : Int → Int → Option (Int)) : Nat → Int → Int → Int → Option (Int)
  | 0, _, _, _ => none
  | f + 1, x11, x12, x13 => qb (MX3_at n9 S 19 (p2 + 1)) fun a14 => qg (qR x13) <| qg (qR a14) <| if a14 ≤ x13 then (k79 x11 x12) else (qb (MX3_at n9 S 23 x13) fun a19 => qb (MX1_carSpeed n9 S u1 a19) fun a21 => qg (qR x11) <| qg (qR a21) <| ql (qmin x11 a21) fun x25 => qg (qR x12) <| ql (qmax x12 a21) fun x28 => MX0_speedDifference_l27 n9 S u1 p2 k79 f x25 x28 (x13 + 1))

def MX0_speedDifference (n9 : Nat) (S : qS) (u1 : Nat) (p2 : Int) : Option (Int) := qg (qk u1 = 2) <| qb (MX0_carsOfTrain n9 S p2) fun a1 => qg (qR a1) <| if a1 = 0 then (some (-1)) else (qb (MX3_at n9 S 19 p2) fun a5 => ql (fun (x7 : Int) (x8 : Int) => some (x8 - x7)) fun (j9 : Int → Int → Option (Int)) => MX0_speedDifference_l27 n9 S u1 p2 j9 n9 600 0 a5)

def MX0_ticksBeforeCar_l47 (n9 : Nat) (S : qS) (u1 : Nat) (a1 : Int)  : Nat → Int → Int → Option (Int)
  | 0, _, _ => none
  | f + 1, x14, x15 => qg (qR x15) <| qg (qR a1) <| if a1 < x15 then (some x14) else (qb (MX3_at n9 S (u1 + 1) x15) fun a19 => ql (x14 + a19) fun x21 => MX0_ticksBeforeCar_l47 n9 S u1 a1 f x21 (x15 + 1))

def MX0_ticksBeforeCar (n9 : Nat) (S : qS) (u1 : Nat) (p2 : Int) : Option (Int) := qg (qk u1 = 2) <| qb (MX3_at n9 S 23 p2) fun a1 => qb (MX3_at n9 S 21 a1) fun a3 => qb (MX3_at n9 S 19 a3) fun a5 => qg (qR p2) <| qg (qR a5) <| if p2 = a5 then (some (-1)) else (qb (MX3_at n9 S 23 (p2 - 1)) fun a10 => ql (a10 + 2) fun x12 => MX0_ticksBeforeCar_l47 n9 S u1 a1 n9 0 x12)

def MX0_costWithStray (n9 : Nat) (S : qS) (u1 : Nat) (p2 : Int) (p3 : Int) : Option (Int × qS) := qg (qk u1 = 2) <| qb (MX3_at n9 S 18 p2) fun a1 => qb (MX3_at n9 S 18 (p2 + 1)) fun a3 => qb (MX0_findValues n9 S u1 a1 a3 p3) fun a5 => qb (MX3_at n9 a5 25 a1) fun a7 => qb (MX0_costOf n9 a5 a7) fun a9 => some (a9, a5)

def MX1_has (n9 : Nat) (S : qS) (u0 : Nat) (p1 : Int) : Option (Int) := qg (qk u0 = 2) <| qg (qR p1) <| if p1 < 0 then (some 0) else (qg (qR (S u0 4)) <| if (S u0 4) ≤ p1 then (some 0) else (some 1))

def MX3_isPause (n9 : Nat) (S : qS) (p0 : Int) : Option (Int) := qg (qR p0) <| if p0 < 1 then (some 0) else (if 60 < p0 then (some 0) else (some 1))

def MX3_isWeight (n9 : Nat) (S : qS) (p0 : Int) : Option (Int) := qg (qR p0) <| if p0 < 1 then (some 0) else (if 99 < p0 then (some 0) else (some 1))

def MX1_addAxle (n9 : Nat) (S : qS) (u0 : Nat) (p1 : Int) (p2 : Int) : Option (Int × qS) := qg (qk u0 = 2) <| qb (MX3_isPause n9 S p1) fun a1 => qg (qR a1) <| if a1 = 0 then (some (0, S)) else (qb (MX3_isWeight n9 S p2) fun a5 => qg (qR a5) <| if a5 = 0 then (some (0, S)) else (qg (qR (S u0 4)) <| if (S u0 4) < 0 then (some (0, S)) else (if (S u0 4) < 30 then (qg (0 ≤ (S u0 4) ∧ (S u0 4) < 30) <| ql (q2 S (u0 + 1) (S u0 4).toNat p1) fun S13 => qg (0 ≤ (S13 u0 4) ∧ (S13 u0 4) < 30) <| ql (q2 S13 (u0 + 2) (S13 u0 4).toNat p2) fun S16 => ql (q2 S16 u0 4 ((S16 u0 4) + 1)) fun S18 => some (1, S18)) else (some (0, S)))))

def MX1_dropAxles_l6 (n9 : Nat) (u0 : Nat) (p2 : Int) (k50 : qS → Option (qS)) : Nat → qS → Int → Option (qS)
  | 0, _, _ => none
  | f + 1, S9, x10 => qg (qR x10) <| if 30 ≤ x10 then (k50 S9) else (qb (MX3_at n9 S9 (u0 + 1) (x10 + p2)) fun a13 => qg (0 ≤ x10 ∧ x10 < 30) <| ql (q2 S9 (u0 + 1) x10.toNat a13) fun S16 => qb (MX3_at n9 S16 (u0 + 2) (x10 + p2)) fun a18 => qg (0 ≤ x10 ∧ x10 < 30) <| ql (q2 S16 (u0 + 2) x10.toNat a18) fun S21 => MX1_dropAxles_l6 n9 u0 p2 k50 f S21 (x10 + 1))

def MX1_dropAxles (n9 : Nat) (S : qS) (u0 : Nat) (p1 : Int) (p2 : Int) : Option (qS) := qg (qk u0 = 2) <| qg (qR p1) <| ql (qmax p1 0) fun x2 => ql (fun (S4 : qS) => ql (q2 S4 u0 4 ((S4 u0 4) - p2)) fun S6 => some S6) fun (j5 : qS → Option (qS)) => MX1_dropAxles_l6 n9 u0 p2 j5 n9 S x2

def MX1_dropAxle (n9 : Nat) (S : qS) (u0 : Nat) (p1 : Int) : Option (Int × qS) := qg (qk u0 = 2) <| qb (MX1_has n9 S u0 p1) fun a1 => qg (qR a1) <| if a1 = 0 then (some (0, S)) else (qb (MX3_at n9 S (u0 + 1) p1) fun a5 => qb (MX1_dropAxles n9 S u0 p1 1) fun a7 => qb (MX1_has n9 a7 u0 p1) fun a9 => qg (qR a9) <| if a9 = 0 then (some (1, a7)) else (qg (0 ≤ p1 ∧ p1 < 30) <| qg (qR ((a7 (u0 + 1) p1.toNat) + a5)) <| qg (0 ≤ p1 ∧ p1 < 30) <| ql (q2 a7 (u0 + 1) p1.toNat (qmin ((a7 (u0 + 1) p1.toNat) + a5) 60)) fun S16 => some (1, S16)))

def MX1_putWeight (n9 : Nat) (S : qS) (u0 : Nat) (p1 : Int) (p2 : Int) : Option (Int × qS) := qg (qk u0 = 2) <| qb (MX1_has n9 S u0 p1) fun a1 => qg (qR a1) <| if a1 = 0 then (some (0, S)) else (qb (MX3_isWeight n9 S p2) fun a5 => qg (qR a5) <| if a5 = 0 then (some (0, S)) else (qg (0 ≤ p1 ∧ p1 < 30) <| ql (q2 S (u0 + 2) p1.toNat p2) fun S10 => some (1, S10)))

def MX3_isSetting (n9 : Nat) (S : qS) (p0 : Int) : Option (Int) := qg (qR p0) <| if p0 < 0 then (some 0) else (if 4 ≤ p0 then (some 0) else (some 1))

def MX3_isValueOfSetting (n9 : Nat) (S : qS) (p0 : Int) (p1 : Int) : Option (Int) := qb (MX3_isSetting n9 S p0) fun a1 => qg (qR a1) <| if a1 = 0 then (some 0) else (qb (MX3_at_s1 n9 S p0) fun a5 => qg (qR p1) <| qg (qR a5) <| if p1 < a5 then (some 0) else (qb (MX3_at_s2 n9 S p0) fun a10 => qg (qR a10) <| if a10 < p1 then (some 0) else (some 1)))

def MX1_putSetting (n9 : Nat) (S : qS) (u0 : Nat) (p1 : Int) (p2 : Int) : Option (Int × qS) := qg (qk u0 = 2) <| qb (MX3_isValueOfSetting n9 S p1 p2) fun a1 => qg (qR a1) <| if a1 = 0 then (some (0, S)) else (qg (0 ≤ p1 ∧ p1 < 4) <| ql (q2 S (u0 + 4) p1.toNat p2) fun S6 => some (1, S6))

def MX1_dropFirstTrain_l41 (n9 : Nat) (u0 : Nat)  : Nat → qS → Int → Option (Int × qS)
  | 0, _, _ => none
  | f + 1, S7, x8 => qg (qR x8) <| if 30 ≤ x8 then (some (1, S7)) else (qb (MX3_at n9 S7 (u0 + 3) (x8 + 1)) fun a11 => qg (0 ≤ x8 ∧ x8 < 30) <| ql (q2 S7 (u0 + 3) x8.toNat a11) fun S14 => MX1_dropFirstTrain_l41 n9 u0 f S14 (x8 + 1))

def MX1_dropFirstTrain_l11 (n9 : Nat) (S : qS) (u0 : Nat) (k33 : Int → Option (Int × qS)) : Nat → Int → Option (Int × qS)
  | 0, _ => none
  | f + 1, x17 => qg (qR x17) <| qg (qR (S u0 4)) <| if (S u0 4) ≤ x17 then (k33 x17) else (qb (MX1_beginsTrain n9 S u0 x17) fun a21 => qg (qR a21) <| if a21 = 0 then (MX1_dropFirstTrain_l11 n9 S u0 k33 f (x17 + 1)) else (k33 x17))

def MX1_dropFirstTrain (n9 : Nat) (S : qS) (u0 : Nat) : Option (Int × qS) := qg (qk u0 = 2) <| qg (qR (S u0 4)) <| if (S u0 4) = 0 then (some (0, S)) else (ql (fun (x3 : Int) => qb (MX1_dropAxles n9 S u0 0 x3) fun a5 => MX1_dropFirstTrain_l41 n9 u0 n9 a5 0) fun (j4 : Int → Option (Int × qS)) => MX1_dropFirstTrain_l11 n9 S u0 j4 n9 1)

def MX2_add (n9 : Nat) (S : qS) (p1 : Int) : Option (Int × qS) := qg (qR (S 1 1)) <| if (S 1 1) < 0 then (some (0, S)) else (if (S 1 1) < 120 then (qg (0 ≤ (S 1 1) ∧ (S 1 1) < 120) <| ql (q2 S 2 (S 1 1).toNat p1) fun S5 => ql (q2 S5 1 1 ((S5 1 1) + 1)) fun S7 => some (1, S7)) else (some (0, S)))

def MX2_characterAt (n9 : Nat) (S : qS) (p1 : Int) : Option (Int) := qg (qR p1) <| ql (fun (v2 : Int) => qg (qR v2) <| if v2 = 0 then (some (-1)) else (qg (0 ≤ p1 ∧ p1 < 120) <| some (S 2 p1.toNat))) fun (j3 : Int → Option (Int)) => ql (j3 0) fun (j8 : Option (Int)) => if p1 < 0 then (j8) else (qg (qR (S 1 1)) <| if (S 1 1) ≤ p1 then (j8) else (if 120 ≤ p1 then (j8) else (j3 1)))

def MX2_closeRepeat_l88 (n9 : Nat) (p1 : Int) (x16 : Int) (x20 : Int) (k143 : qS → Option (Int × qS)) : Nat → qS → Int → Option (Int × qS)
  | 0, _, _ => none
  | f + 1, S29, x30 => qg (qR x30) <| qg (qR x20) <| if x20 ≤ x30 then (k143 S29) else (if 30 ≤ x30 then (k143 S29) else (qb (MX3_at n9 S29 3 (x30 - x16)) fun a35 => qg (0 ≤ x30 ∧ x30 < 30) <| ql (q2 S29 3 x30.toNat a35) fun S38 => qb (MX3_at n9 S38 4 (x30 - x16)) fun a40 => qg (0 ≤ x30 ∧ x30 < 30) <| ql (q2 S38 4 x30.toNat a40) fun S43 => MX2_closeRepeat_l88 n9 p1 x16 x20 k143 f S43 (x30 + 1)))

def MX2_closeRepeat (n9 : Nat) (S : qS) (p1 : Int) : Option (Int × qS) := qg (qR (S 1 8)) <| ql (ql (q2 S 1 5 p1) fun S3 => some (p1, S3)) fun (j2 : Option (Int × qS)) => if (S 1 8) ≤ 0 then (j2) else (qb (MX3_at n9 S 6 ((S 1 8) - 1)) fun a7 => qg (qR (S 1 4)) <| qg (qR a7) <| if (S 1 4) = a7 then (j2) else (ql (q2 S 1 8 ((S 1 8) - 1)) fun S12 => qb (MX3_at n9 S12 6 (S12 1 8)) fun a14 => ql ((S12 1 4) - a14) fun x16 => qb (MX3_at n9 S12 5 (S12 1 8)) fun a18 => ql ((S12 1 4) + (x16 * (a18 - 1))) fun x20 => ql (S12 1 4) fun x22 => ql (fun (S24 : qS) => ql (q2 S24 1 4 x20) fun S26 => some ((p1 + 1), S26)) fun (j25 : qS → Option (Int × qS)) => MX2_closeRepeat_l88 n9 p1 x16 x20 j25 n9 S12 x22))

def MX2_digitAt (n9 : Nat) (S : qS) (p1 : Int) : Option (Int) := qb (MX2_characterAt n9 S p1) fun a1 => qg (qR a1) <| if a1 < 48 then (some (-1)) else (if 57 < a1 then (some (-1)) else (some (a1 - 48)))

def MX2_readNumber (n9 : Nat) (S : qS) (p1 : Int) (p2 : Int) : Option (Int × qS) := qb (MX2_digitAt n9 S p1) fun a1 => qg (qR a1) <| ql (ql (q2 S 1 5 p1) fun S5 => some (0, S5)) fun (j4 : Option (Int × qS)) => if a1 = (-1) then (j4) else (qg (qR (10 * a1)) <| qg (qR p2) <| if (10 * a1) ≤ p2 then (qb (MX2_digitAt n9 S (p1 + 1)) fun a12 => ql ((10 * a1) + a12) fun x14 => qg (qR a12) <| ql (ql (q2 S 1 5 (p1 + 1)) fun S18 => some (0, S18)) fun (j17 : Option (Int × qS)) => if a12 = (-1) then (j17) else (qg (qR x14) <| if x14 < 1 then (j17) else (if x14 ≤ p2 then (some (x14, S)) else (j17)))) else (j4))

def MX2_readAxle (n9 : Nat) (S : qS) (p1 : Int) : Option (Int × qS) := qb (MX2_readNumber n9 S p1 60) fun a1 => qg (qR (a1.2 1 5)) <| if (a1.2 1 5) = (-1) then (qb (MX2_readNumber n9 a1.2 (p1 + 2) 99) fun a5 => qg (qR (a5.2 1 5)) <| if (a5.2 1 5) = (-1) then (qg (qR (a5.2 1 4)) <| ql (fun (S10 : qS) => ql (q2 S10 1 4 ((S10 1 4) + 1)) fun S12 => some ((p1 + 4), S12)) fun (j11 : qS → Option (Int × qS)) => if (a5.2 1 4) < 0 then (j11 a5.2) else (if 30 ≤ (a5.2 1 4) then (j11 a5.2) else (qg (0 ≤ (a5.2 1 4) ∧ (a5.2 1 4) < 30) <| ql (q2 a5.2 3 (a5.2 1 4).toNat a1.1) fun S18 => qg (0 ≤ (S18 1 4) ∧ (S18 1 4) < 30) <| ql (q2 S18 4 (S18 1 4).toNat a5.1) fun S21 => j11 S21))) else (some (p1, a5.2))) else (some (p1, a1.2))

def MX2_readPart (n9 : Nat) (S : qS) (p1 : Int) : Option (Int × qS) := qb (MX2_characterAt n9 S p1) fun a1 => qg (qR a1) <| if a1 = 41 then (qb (MX2_closeRepeat n9 S p1) fun a5 => some (a5.1, a5.2)) else (ql (ql (ql (fun (v9 : Int) => qg (qR v9) <| ql (fun (v12 : Int) => ql (q2 S 1 5 v12) fun S14 => some (p1, S14)) fun (j13 : Int → Option (Int × qS)) => if v9 = 0 then (j13 p1) else (j13 (p1 + 1))) fun (j10 : Int → Option (Int × qS)) => ql (j10 0) fun (j19 : Option (Int × qS)) => if a1 < 55 then (j19) else (if 57 < a1 then (j19) else (qg (qR (S 1 8)) <| if 3 ≤ (S 1 8) then (j19) else (j10 1)))) fun (j8 : Option (Int × qS)) => if a1 < 48 then (j8) else (if 54 < a1 then (j8) else (qb (MX2_readAxle n9 S p1) fun a28 => some (a28.1, a28.2)))) fun (j7 : Option (Int × qS)) => if a1 < 50 then (j7) else (if 57 < a1 then (j7) else (qg (qR (S 1 8)) <| if 3 ≤ (S 1 8) then (j7) else (qb (MX2_characterAt n9 S (p1 + 1)) fun a35 => qg (qR a35) <| if a35 = 40 then (qg (0 ≤ (S 1 8) ∧ (S 1 8) < 3) <| ql (q2 S 5 (S 1 8).toNat (a1 - 48)) fun S40 => qg (0 ≤ (S40 1 8) ∧ (S40 1 8) < 3) <| ql (q2 S40 6 (S40 1 8).toNat (S40 1 4)) fun S43 => ql (q2 S43 1 8 ((S43 1 8) + 1)) fun S45 => some ((p1 + 2), S45)) else (j7)))))

def MX2_read_l35 (n9 : Nat) (k69 : qS → Option (qS)) : Nat → qS → Int → Int → Option (qS)
  | 0, _, _, _ => none
  | f + 1, S20, x21, x22 => qg (qR x22) <| if 120 ≤ x22 then (k69 S20) else (qg (qR x21) <| qg (qR (S20 1 1)) <| if (S20 1 1) ≤ x21 then (k69 S20) else (qg (qR (S20 1 5)) <| if (S20 1 5) = (-1) then (qb (MX2_readPart n9 S20 x21) fun a30 => MX2_read_l35 n9 k69 f a30.2 a30.1 (x22 + 1)) else (k69 S20)))

def MX2_read (n9 : Nat) (S : qS) : Option (qS) := ql (q2 S 1 4 0) fun S1 => ql (q2 S1 1 8 0) fun S3 => ql (q2 S3 1 5 (-1)) fun S5 => qb (MX2_characterAt n9 S5 0) fun a7 => qg (qR a7) <| if a7 = 82 then (ql (fun (S11 : qS) => qg (qR (S11 1 5)) <| if (S11 1 5) = (-1) then (qg (qR (S11 1 8)) <| if (S11 1 8) ≤ 0 then (some S11) else (ql (q2 S11 1 5 (S11 1 1)) fun S17 => some S17)) else (some S11)) fun (j12 : qS → Option (qS)) => MX2_read_l35 n9 j12 n9 S5 1 0) else (ql (q2 S5 1 5 0) fun S32 => some S32)

def MX3_append (n9 : Nat) (S : qS) (p1 : Int) : Option (qO × qS) := qg (qR p1) <| ql (some (Sum.inl "java/lang/IllegalArgumentException", S)) fun (j2 : Option (qO × qS)) => if p1 < 0 then (j2) else (if p1 ≤ 255 then (qb (MX2_add n9 S p1) fun a6 => qg (qR a6.1) <| if a6.1 = 0 then (some (Sum.inl "java/lang/IllegalStateException", a6.2)) else (some (Sum.inr (a6.2 1 1), a6.2))) else (j2))

def MX3_clearText (n9 : Nat) (S : qS) : Option (Int × qS) := ql (S 1 1) fun x1 => ql (q2 S 1 1 0) fun S3 => some (x1, S3)

def MX3_errorPosition (n9 : Nat) (S : qS) : Option (Int × qS) := qb (MX2_read n9 S ) fun a1 => some ((a1 1 5), a1)

def MX3_axlesTold (n9 : Nat) (S : qS) : Option (Int × qS) := qb (MX2_read n9 S ) fun a1 => qg (qR (a1 1 5)) <| if (a1 1 5) = (-1) then (some ((a1 1 4), a1)) else (some ((-1), a1))

def MX3_countBills_l4 (n9 : Nat) (S : qS) (p1 : Int)  : Nat → Int → Int → Option (Int)
  | 0, _, _ => none
  | f + 1, x1, x2 => qg (qR x2) <| qg (qR (S 17 9)) <| if (S 17 9) ≤ x2 then (some x1) else (qb (MX3_at n9 S (7 + 3) x2) fun a6 => qg (qR a6) <| ql (fun (x9 : Int) => MX3_countBills_l4 n9 S p1 f x9 (x2 + 1)) fun (j10 : Int → Option (Int)) => if a6 = 0 then (j10 x1) else (qg (qR p1) <| ql (j10 (x1 + 1)) fun (j14 : Option (Int)) => if p1 = 0 then (j14) else (qb (MX0_weightOfTrain n9 S 7 x2) fun a17 => qg (qR a17) <| if a6 = a17 then (j10 x1) else (j14))))

def MX3_countBills (n9 : Nat) (S : qS) (p1 : Int) : Option (Int) := MX3_countBills_l4 n9 S p1 n9 0 0

def MX3_about (n9 : Nat) (S : qS) (p1 : Int) : Option (qO × qS) := qg (qR p1) <| ql (some (Sum.inl "java/lang/IllegalArgumentException", S)) fun (j2 : Option (qO × qS)) => if p1 < 0 then (j2) else (if p1 ≤ 7 then (qb (MX0_workOut n9 S 7) fun a6 => if p1 = 0 then (some (Sum.inr (a6 7 4), a6)) else if p1 = 1 then (some (Sum.inr (a6 17 9), a6)) else if p1 = 2 then (some (Sum.inr (a6 17 10), a6)) else if p1 = 3 then (some (Sum.inr ((a6 7 4) - (2 * (a6 17 10))), a6)) else if p1 = 4 then (some (Sum.inr (a6 17 12), a6)) else if p1 = 5 then (some (Sum.inr (a6 17 11), a6)) else if p1 = 6 then (qb (MX3_countBills n9 a6 0) fun a15 => some (Sum.inr a15, a6)) else (qb (MX3_countBills n9 a6 1) fun a17 => some (Sum.inr a17, a6))) else (j2))

def MX3_demandAxle (n9 : Nat) (S : qS) (p1 : Int) : Option (qO) := qb (MX1_has n9 S 7 p1) fun a1 => qg (qR a1) <| if a1 = 0 then (some (Sum.inl "java/lang/IndexOutOfBoundsException")) else (some (Sum.inr 0))

def MX3_axle (n9 : Nat) (S : qS) (p1 : Int) (p2 : Int) : Option (qO × qS) := qb (MX3_demandAxle n9 S p1) fun a1 => qy a1 (fun E => some (Sum.inl E, S)) fun v3 => qg (qR p2) <| ql (some (Sum.inl "java/lang/IllegalArgumentException", S)) fun (j6 : Option (qO × qS)) => if p2 < 0 then (j6) else (if p2 ≤ 3 then (qb (MX0_workOut n9 S 7) fun a10 => if p2 = 0 then (qb (MX3_at n9 a10 (7 + 1) p1) fun a13 => some (Sum.inr a13, a10)) else if p2 = 1 then (qb (MX3_at n9 a10 (7 + 2) p1) fun a16 => some (Sum.inr a16, a10)) else if p2 = 2 then (qb (MX3_at n9 a10 21 p1) fun a19 => some (Sum.inr a19, a10)) else (qb (MX3_at n9 a10 22 p1) fun a21 => some (Sum.inr a21, a10))) else (j6))

def MX3_car (n9 : Nat) (S : qS) (p1 : Int) (p2 : Int) : Option (qO × qS) := qb (MX0_workOut n9 S 7) fun a1 => qg (qR p1) <| ql (some (Sum.inl "java/lang/IndexOutOfBoundsException", a1)) fun (j4 : Option (qO × qS)) => if p1 < 0 then (j4) else (qg (qR (a1 17 10)) <| if p1 < (a1 17 10) then (qg (qR p2) <| ql (some (Sum.inl "java/lang/IllegalArgumentException", a1)) fun (j10 : Option (qO × qS)) => if p2 < 0 then (j10) else (if p2 ≤ 5 then (qb (MX3_at n9 a1 23 p1) fun a14 => if p2 = 0 then (some (Sum.inr a14, a1)) else if p2 = 1 then (qb (MX1_carWeight n9 a1 7 a14) fun a18 => some (Sum.inr a18, a1)) else if p2 = 2 then (qb (MX3_at n9 a1 (7 + 1) (a14 + 1)) fun a21 => some (Sum.inr a21, a1)) else if p2 = 3 then (qb (MX1_carSpeed n9 a1 7 a14) fun a24 => some (Sum.inr a24, a1)) else if p2 = 4 then (qb (MX3_at n9 a1 21 a14) fun a27 => some (Sum.inr a27, a1)) else (qb (MX0_ticksBeforeCar n9 a1 7 p1) fun a29 => some (Sum.inr a29, a1))) else (j10))) else (j4))

def MX3_demandTrain (n9 : Nat) (S : qS) (p1 : Int) : Option (qO) := qg (qR p1) <| ql (some (Sum.inl "java/lang/IndexOutOfBoundsException")) fun (j2 : Option (qO)) => if p1 < 0 then (j2) else (qg (qR (S 17 9)) <| if p1 < (S 17 9) then (some (Sum.inr 0)) else (j2))

def MX3_billOrNone (n9 : Nat) (S : qS) (p1 : Int) : Option (Int) := qb (MX3_at n9 S (7 + 3) p1) fun a1 => qg (qR a1) <| if a1 = 0 then (some (-1)) else (some a1)

def MX3_train (n9 : Nat) (S : qS) (p1 : Int) (p2 : Int) : Option (qO × qS) := qb (MX0_workOut n9 S 7) fun a1 => qb (MX3_demandTrain n9 a1 p1) fun a3 => qy a3 (fun E => some (Sum.inl E, a1)) fun v5 => qg (qR p2) <| ql (some (Sum.inl "java/lang/IllegalArgumentException", a1)) fun (j8 : Option (qO × qS)) => if p2 < 0 then (j8) else (if p2 ≤ 7 then (if p2 = 0 then (qb (MX3_at n9 a1 18 p1) fun a13 => some (Sum.inr a13, a1)) else if p2 = 1 then (qb (MX0_axlesOfTrain n9 a1 p1) fun a16 => some (Sum.inr a16, a1)) else if p2 = 2 then (qb (MX0_carsOfTrain n9 a1 p1) fun a19 => some (Sum.inr a19, a1)) else if p2 = 3 then (qb (MX0_weightOfTrain n9 a1 7 p1) fun a22 => some (Sum.inr a22, a1)) else if p2 = 4 then (qb (MX3_at n9 a1 20 p1) fun a25 => some (Sum.inr a25, a1)) else if p2 = 5 then (qb (MX0_greatestWeight n9 a1 7 p1) fun a28 => some (Sum.inr a28, a1)) else if p2 = 6 then (qb (MX0_speedDifference n9 a1 7 p1) fun a31 => some (Sum.inr a31, a1)) else (qb (MX3_billOrNone n9 a1 p1) fun a33 => some (Sum.inr a33, a1))) else (j8))

def MX3_setting (n9 : Nat) (S : qS) (p1 : Int) : Option (qO) := qb (MX3_isSetting n9 S p1) fun a1 => qg (qR a1) <| if a1 = 0 then (some (Sum.inl "java/lang/IllegalArgumentException")) else (qb (MX3_at n9 S (7 + 4) p1) fun a5 => some (Sum.inr a5))

def MX3_copy_l61 (u0 : Nat) (u1 : Nat) (k87 : qS → Option (qS)) : Nat → qS → Int → Option (qS)
  | 0, _, _ => none
  | f + 1, S8, x9 => qg (qR x9) <| if 4 ≤ x9 then (k87 S8) else (qg (0 ≤ x9 ∧ x9 < 4) <| qg (0 ≤ x9 ∧ x9 < 4) <| ql (q2 S8 (u1 + 4) x9.toNat (S8 (u0 + 4) x9.toNat)) fun S14 => MX3_copy_l61 u0 u1 k87 f S14 (x9 + 1))

def MX3_copy_l11 (u0 : Nat) (u1 : Nat) (k59 : qS → Option (qS)) : Nat → qS → Int → Option (qS)
  | 0, _, _ => none
  | f + 1, S17, x18 => qg (qR x18) <| if 30 ≤ x18 then (k59 S17) else (qg (0 ≤ x18 ∧ x18 < 30) <| qg (0 ≤ x18 ∧ x18 < 30) <| ql (q2 S17 (u1 + 1) x18.toNat (S17 (u0 + 1) x18.toNat)) fun S23 => qg (0 ≤ x18 ∧ x18 < 30) <| qg (0 ≤ x18 ∧ x18 < 30) <| ql (q2 S23 (u1 + 2) x18.toNat (S23 (u0 + 2) x18.toNat)) fun S27 => qg (0 ≤ x18 ∧ x18 < 30) <| qg (0 ≤ x18 ∧ x18 < 30) <| ql (q2 S27 (u1 + 3) x18.toNat (S27 (u0 + 3) x18.toNat)) fun S31 => MX3_copy_l11 u0 u1 k59 f S31 (x18 + 1))

def MX3_copy (n9 : Nat) (S : qS) (u0 : Nat) (u1 : Nat) : Option (qS) := qg (qk u0 = 2) <| qg (qk u1 = 2) <| ql (fun (S1 : qS) => ql (fun (S3 : qS) => ql (q2 S3 u1 4 (S3 u0 4)) fun S5 => some S5) fun (j4 : qS → Option (qS)) => MX3_copy_l61 u0 u1 j4 n9 S1 0) fun (j2 : qS → Option (qS)) => MX3_copy_l11 u0 u1 j2 n9 S 0

def MX3_remember (n9 : Nat) (S : qS) : Option (qS) := qg (0 ≤ (S 0 7) ∧ (S 0 7) < 14) <| qb (MX3_copy n9 S 7 (30 + 5 * (S 0 7).toNat)) fun a2 => qg (0 ≤ ((a2 0 7) + 1) ∧ ((a2 0 7) + 1) < 2147483648 ∧ 0 < (14 : Int) ∧ (14 : Int) < 2147483648) <| ql (q2 a2 0 7 (((a2 0 7) + 1) % 14)) fun S5 => qg (qR ((S5 0 8) + 1)) <| ql (q2 S5 0 8 (qmin ((S5 0 8) + 1) 14)) fun S8 => some S8

def MX3_roll (n9 : Nat) (S : qS) (p1 : Int) (p2 : Int) : Option (qO × qS) := qb (MX3_isPause n9 S p1) fun a1 => qg (qR a1) <| ql (some (Sum.inl "java/lang/IllegalArgumentException", S)) fun (j4 : Option (qO × qS)) => if a1 = 0 then (j4) else (qb (MX3_isWeight n9 S p2) fun a7 => qg (qR a7) <| if a7 = 0 then (j4) else (qg (qR (S 7 4)) <| if (S 7 4) < 30 then (qb (MX3_remember n9 S ) fun a13 => qb (MX1_addAxle n9 a13 7 p1 p2) fun a15 => some (Sum.inr ((a15.2 7 4) - 1), a15.2)) else (some (Sum.inl "java/lang/IllegalStateException", S))))

def MX3_record_l54 (n9 : Nat) (k103 : qS → Option (qO × qS)) : Nat → qS → Int → Option (qO × qS)
  | 0, _, _ => none
  | f + 1, S14, x15 => qg (qR x15) <| qg (qR (S14 1 4)) <| if (S14 1 4) ≤ x15 then (k103 S14) else (if 30 ≤ x15 then (k103 S14) else (qg (0 ≤ x15 ∧ x15 < 30) <| qg (0 ≤ x15 ∧ x15 < 30) <| qb (MX1_addAxle n9 S14 7 (S14 3 x15.toNat) (S14 4 x15.toNat)) fun a22 => MX3_record_l54 n9 k103 f a22.2 (x15 + 1)))

def MX3_record (n9 : Nat) (S : qS) : Option (qO × qS) := qb (MX2_read n9 S ) fun a1 => qg (qR (a1 1 5)) <| ql (some (Sum.inl "java/lang/IllegalStateException", a1)) fun (j4 : Option (qO × qS)) => if (a1 1 5) = (-1) then (qg (qR ((a1 7 4) + (a1 1 4))) <| if ((a1 7 4) + (a1 1 4)) ≤ 30 then (qb (MX3_remember n9 a1 ) fun a9 => ql (fun (S11 : qS) => some (Sum.inr (S11 7 4), S11)) fun (j12 : qS → Option (qO × qS)) => MX3_record_l54 n9 j12 n9 a9 0) else (j4)) else (j4)

def MX3_strike (n9 : Nat) (S : qS) (p1 : Int) : Option (qO × qS) := qb (MX3_demandAxle n9 S p1) fun a1 => qy a1 (fun E => some (Sum.inl E, S)) fun v3 => qb (MX3_remember n9 S ) fun a5 => qb (MX1_dropAxle n9 a5 7 p1) fun a7 => some (Sum.inr (a7.2 7 4), a7.2)

def MX3_weigh (n9 : Nat) (S : qS) (p1 : Int) (p2 : Int) : Option (qO × qS) := qb (MX3_demandAxle n9 S p1) fun a1 => qy a1 (fun E => some (Sum.inl E, S)) fun v3 => qb (MX3_isWeight n9 S p2) fun a5 => qg (qR a5) <| if a5 = 0 then (some (Sum.inl "java/lang/IllegalArgumentException", S)) else (qb (MX3_at n9 S (7 + 2) p1) fun a9 => qb (MX3_remember n9 S ) fun a11 => qb (MX1_putWeight n9 a11 7 p1 p2) fun a13 => some (Sum.inr a9, a13.2))

def MX3_bill (n9 : Nat) (S : qS) (p1 : Int) (p2 : Int) : Option (qO × qS) := qg (qR p1) <| ql (some (Sum.inl "java/lang/IllegalArgumentException", S)) fun (j2 : Option (qO × qS)) => if p1 < 0 then (j2) else (if 30 ≤ p1 then (j2) else (qg (qR p2) <| if p2 < 0 then (j2) else (if p2 ≤ 9999 then (qb (MX3_billOrNone n9 S p1) fun a9 => qb (MX3_remember n9 S ) fun a11 => qg (0 ≤ p1 ∧ p1 < 30) <| ql (q2 a11 (7 + 3) p1.toNat p2) fun S14 => some (Sum.inr a9, S14)) else (j2))))

def MX3_set (n9 : Nat) (S : qS) (p1 : Int) (p2 : Int) : Option (qO × qS) := qb (MX3_isValueOfSetting n9 S p1 p2) fun a1 => qg (qR a1) <| if a1 = 0 then (some (Sum.inl "java/lang/IllegalArgumentException", S)) else (qb (MX3_at n9 S (7 + 4) p1) fun a5 => qb (MX3_remember n9 S ) fun a7 => qb (MX1_putSetting n9 a7 7 p1 p2) fun a9 => some (Sum.inr a5, a9.2))

def MX3_leave (n9 : Nat) (S : qS) : Option (qO × qS) := qg (qR (S 7 4)) <| if (S 7 4) = 0 then (some (Sum.inl "java/lang/IllegalStateException", S)) else (qb (MX0_workOut n9 S 7) fun a3 => qb (MX0_weightOfTrain n9 a3 7 0) fun a5 => qb (MX3_remember n9 a3 ) fun a7 => qb (MX1_dropFirstTrain n9 a7 7) fun a9 => some (Sum.inr a5, a9.2))

def MX3_undo (n9 : Nat) (S : qS) : Option (qO × qS) := qg (qR (S 0 8)) <| if (S 0 8) = 0 then (some (Sum.inl "java/lang/IllegalStateException", S)) else (ql (q2 S 0 8 ((S 0 8) - 1)) fun S3 => qg (0 ≤ (((S3 0 7) + 14) - 1) ∧ (((S3 0 7) + 14) - 1) < 2147483648 ∧ 0 < (14 : Int) ∧ (14 : Int) < 2147483648) <| ql (q2 S3 0 7 ((((S3 0 7) + 14) - 1) % 14)) fun S6 => qg (0 ≤ (S6 0 7) ∧ (S6 0 7) < 14) <| qb (MX3_copy n9 S6 (30 + 5 * (S6 0 7).toNat) 7) fun a9 => some (Sum.inr (a9 0 8), a9))

def MX3_without (n9 : Nat) (S : qS) (p1 : Int) : Option (qO × qS) := qb (MX3_demandAxle n9 S p1) fun a1 => qy a1 (fun E => some (Sum.inl E, S)) fun v3 => qb (MX3_copy n9 S 7 12) fun a5 => qb (MX1_dropAxle n9 a5 12 p1) fun a7 => qb (MX0_workOut n9 a7.2 12) fun a9 => some (Sum.inr (a9 17 12), a9)

def MX3_suspect_l23 (n9 : Nat)  : Nat → qS → Int → Int → Int → Option (Int × qS)
  | 0, _, _, _, _ => none
  | f + 1, S5, x6, x7, x8 => qg (qR x8) <| qg (qR (S5 7 4)) <| if (S5 7 4) ≤ x8 then (some (x7, S5)) else (qb (MX3_copy n9 S5 7 12) fun a12 => qb (MX1_dropAxle n9 a12 12 x8) fun a14 => qb (MX0_workOut n9 a14.2 12) fun a16 => qg (qR (a16 17 11)) <| qg (qR x6) <| ql (fun (x20 : Int) (x21 : Int) => MX3_suspect_l23 n9 f a16 x20 x21 (x8 + 1)) fun (j22 : Int → Int → Option (Int × qS)) => if x6 ≤ (a16 17 11) then (j22 x6 x7) else (ql (a16 17 11) fun x25 => j22 x25 x8))

def MX3_suspect (n9 : Nat) (S : qS) : Option (Int × qS) := qb (MX0_workOut n9 S 7) fun a1 => ql (a1 17 11) fun x3 => MX3_suspect_l23 n9 n9 a1 x3 (-1) 0

def MX3_bestBase_l21 (n9 : Nat)  : Nat → qS → Int → Int → Int → Option (Int × qS)
  | 0, _, _, _, _ => none
  | f + 1, S6, x7, x8, x9 => qg (0 ≤ (0 : Int) ∧ (0 : Int) < 4) <| qg (qR x9) <| qg (qR (qF2i (0 : Int).toNat)) <| if (qF2i (0 : Int).toNat) < x9 then (some (x7, S6)) else (qb (MX1_putSetting n9 S6 12 0 x9) fun a14 => qb (MX0_workOut n9 a14.2 12) fun a16 => qg (qR x7) <| ql (fun (x19 : Int) (x20 : Int) => MX3_bestBase_l21 n9 f a16 x19 x20 (x9 + 1)) fun (j21 : Int → Int → Option (Int × qS)) => ql (ql (a16 17 11) fun x24 => j21 x9 x24) fun (j23 : Option (Int × qS)) => if x7 = (-1) then (j23) else (qg (qR (a16 17 11)) <| qg (qR x8) <| if x8 ≤ (a16 17 11) then (j21 x7 x8) else (j23)))

def MX3_bestBase (n9 : Nat) (S : qS) : Option (Int × qS) := qb (MX3_copy n9 S 7 12) fun a1 => qg (0 ≤ (0 : Int) ∧ (0 : Int) < 4) <| ql (qF1i (0 : Int).toNat) fun x4 => MX3_bestBase_l21 n9 n9 a1 (-1) 0 x4

def MX3_sureness (n9 : Nat) (S : qS) (p1 : Int) : Option (qO × qS) := qb (MX3_demandAxle n9 S p1) fun a1 => qy a1 (fun E => some (Sum.inl E, S)) fun v3 => qb (MX0_workOut n9 S 7) fun a5 => qb (MX3_at n9 a5 21 p1) fun a7 => qb (MX0_costWithStray n9 a5 7 a7 p1) fun a9 => qb (MX3_at n9 a9.2 20 a7) fun a11 => some (Sum.inr (a9.1 - a11), a9.2)

def MX3_plans_l33 (a1 : qS) (a7 : Int) (k58 : Int → Option (qO × qS)) : Nat → Int → Int → Int → Option (qO × qS)
  | 0, _, _, _ => none
  | f + 1, x13, x14, x15 => qg (qR x15) <| qg (qR a7) <| if a7 < x15 then (k58 x14) else (ql (x13 + x14) fun x19 => MX3_plans_l33 a1 a7 k58 f x14 x19 (x15 + 1))

def MX3_plans (n9 : Nat) (S : qS) (p1 : Int) : Option (qO × qS) := qb (MX0_workOut n9 S 7) fun a1 => qb (MX3_demandTrain n9 a1 p1) fun a3 => qy a3 (fun E => some (Sum.inl E, a1)) fun v5 => qb (MX0_axlesOfTrain n9 a1 p1) fun a7 => ql (fun (x9 : Int) => qg (qR x9) <| some (Sum.inr (qmin x9 999999), a1)) fun (j10 : Int → Option (qO × qS)) => MX3_plans_l33 a1 a7 j10 n9 1 1 2

def MX3_heavy_l30 (n9 : Nat) (p1 : Int) (a3 : qS)  : Nat → Int → Int → Option (qO × qS)
  | 0, _, _ => none
  | f + 1, x5, x6 => qg (qR x6) <| qg (qR (a3 17 10)) <| if (a3 17 10) ≤ x6 then (some (Sum.inr x5, a3)) else (qb (MX3_at n9 a3 23 x6) fun a10 => qb (MX1_carWeight n9 a3 7 a10) fun a12 => qg (qR a12) <| qg (qR p1) <| ql (fun (x16 : Int) => MX3_heavy_l30 n9 p1 a3 f x16 (x6 + 1)) fun (j17 : Int → Option (qO × qS)) => if a12 < p1 then (j17 x5) else (ql (qior x5 (qishl 3 a10)) fun x20 => j17 x20))

def MX3_heavy (n9 : Nat) (S : qS) (p1 : Int) : Option (qO × qS) := qg (qR p1) <| if 0 ≤ p1 then (qb (MX0_workOut n9 S 7) fun a3 => MX3_heavy_l30 n9 p1 a3 n9 0 0) else (some (Sum.inl "java/lang/IllegalArgumentException", S))

def MX3_withoutLastGroups_l5 (S : qS) (p2 : Int)  : Nat → Int → Int → Option (Int)
  | 0, _, _ => none
  | f + 1, x1, x2 => qg (qR x2) <| qg (qR p2) <| if p2 ≤ x2 then (some x1) else (qg (0 ≤ x1 ∧ x1 < 9223372036854775808 ∧ 0 < (100000 : Int) ∧ (100000 : Int) < 9223372036854775808) <| ql (x1 / 100000) fun x7 => MX3_withoutLastGroups_l5 S p2 f x7 (x2 + 1))

def MX3_withoutLastGroups (n9 : Nat) (S : qS) (p0 : Int) (p2 : Int) : Option (Int) := MX3_withoutLastGroups_l5 S p2 n9 p0 0

def MX3_conditionHolds (n9 : Nat) (S : qS) (p1 : Int) : Option (Int × qS) := qg (0 ≤ p1 ∧ p1 < 2147483648 ∧ 0 < (100 : Int) ∧ (100 : Int) < 2147483648) <| qg (0 ≤ (p1 / 100) ∧ (p1 / 100) < 2147483648 ∧ 0 < (100 : Int) ∧ (100 : Int) < 2147483648) <| ql ((p1 / 100) % 100) fun x3 => qg (0 ≤ p1 ∧ p1 < 2147483648 ∧ 0 < (100 : Int) ∧ (100 : Int) < 2147483648) <| ql (p1 % 100) fun x6 => qb (MX0_workOut n9 S 12) fun a8 => qg (0 ≤ p1 ∧ p1 < 2147483648 ∧ 0 < (10000 : Int) ∧ (10000 : Int) < 2147483648) <| qg (qR (p1 / 10000)) <| if (p1 / 10000) = 6 then (qg (qR x3) <| if x3 = 0 then (qg (qR (a8 17 10)) <| qg (qR x6) <| if (a8 17 10) < x6 then (some (0, a8)) else (some (1, a8))) else (some (0, a8))) else if (p1 / 10000) = 7 then (qg (qR x3) <| if x3 = 0 then (qg (qR ((a8 12 4) - (2 * (a8 17 10)))) <| qg (qR x6) <| if x6 < ((a8 12 4) - (2 * (a8 17 10))) then (some (0, a8)) else (some (1, a8))) else (some (0, a8))) else if (p1 / 10000) = 8 then (qg (0 ≤ p1 ∧ p1 < 2147483648 ∧ 0 < (10000 : Int) ∧ (10000 : Int) < 2147483648) <| qg (qR (a8 17 12)) <| qg (qR (p1 % 10000)) <| if (a8 17 12) < (p1 % 10000) then (some (0, a8)) else (some (1, a8))) else if (p1 / 10000) = 9 then (qb (MX1_has n9 a8 12 x3) fun a30 => qg (qR a30) <| if a30 = 0 then (some (0, a8)) else (qb (MX3_at n9 a8 22 x3) fun a34 => qg (qR a34) <| ql (fun (v37 : Int) => qg (qR x6) <| qg (qR v37) <| if x6 = v37 then (some (1, a8)) else (some (0, a8))) fun (j38 : Int → Option (Int × qS)) => if a34 = (-1) then (j38 0) else (j38 1))) else (some (0, a8))

def MX3_commandSucceeds (n9 : Nat) (S : qS) (p1 : Int) : Option (Int × qS) := qg (0 ≤ p1 ∧ p1 < 2147483648 ∧ 0 < (100 : Int) ∧ (100 : Int) < 2147483648) <| qg (0 ≤ (p1 / 100) ∧ (p1 / 100) < 2147483648 ∧ 0 < (100 : Int) ∧ (100 : Int) < 2147483648) <| ql ((p1 / 100) % 100) fun x3 => qg (0 ≤ p1 ∧ p1 < 2147483648 ∧ 0 < (100 : Int) ∧ (100 : Int) < 2147483648) <| ql (p1 % 100) fun x6 => qg (0 ≤ p1 ∧ p1 < 2147483648 ∧ 0 < (10000 : Int) ∧ (10000 : Int) < 2147483648) <| qg (qR (p1 / 10000)) <| if (p1 / 10000) = 1 then (qb (MX1_addAxle n9 S 12 x3 x6) fun a11 => qg (a11.1 = 0 ∨ a11.1 = 1) <| some (a11.1, a11.2)) else if (p1 / 10000) = 2 then (qg (qR x6) <| if x6 = 0 then (qb (MX1_dropAxle n9 S 12 x3) fun a17 => qg (qR a17.1) <| if a17.1 = 0 then (some (0, a17.2)) else (some (1, a17.2))) else (some (0, S))) else if (p1 / 10000) = 3 then (qb (MX1_putWeight n9 S 12 x3 x6) fun a22 => qg (a22.1 = 0 ∨ a22.1 = 1) <| some (a22.1, a22.2)) else if (p1 / 10000) = 4 then (qg (0 ≤ x6 ∧ x6 < 2147483648 ∧ 0 < (10 : Int) ∧ (10 : Int) < 2147483648) <| qg (qR (x6 % 10)) <| if (x6 % 10) = 0 then (qg (0 ≤ x3 ∧ x3 < 2147483648 ∧ 0 < (10 : Int) ∧ (10 : Int) < 2147483648) <| qg (0 ≤ p1 ∧ p1 < 2147483648 ∧ 0 < (10 : Int) ∧ (10 : Int) < 2147483648) <| qg (0 ≤ (p1 / 10) ∧ (p1 / 10) < 2147483648 ∧ 0 < (100 : Int) ∧ (100 : Int) < 2147483648) <| qb (MX1_putSetting n9 S 12 (x3 / 10) ((p1 / 10) % 100)) fun a32 => qg (qR a32.1) <| if a32.1 = 0 then (some (0, a32.2)) else (some (1, a32.2))) else (some (0, S))) else if (p1 / 10000) = 5 then (qg (qR x3) <| if x3 = 0 then (qg (qR x6) <| if x6 = 0 then (qb (MX1_dropFirstTrain n9 S 12) fun a41 => qg (qR a41.1) <| if a41.1 = 0 then (some (0, a41.2)) else (some (1, a41.2))) else (some (0, S))) else (some (0, S))) else (qb (MX3_conditionHolds n9 S p1) fun a45 => qg (a45.1 = 0 ∨ a45.1 = 1) <| some (a45.1, a45.2))

def MX3_runScript_l62 (n9 : Nat) (p1 : Int) (p2 : Int)  : Nat → qS → Int → Option (qO × qS)
  | 0, _, _ => none
  | f + 1, S16, x17 => qg (qR x17) <| qg (qR p1) <| if p1 ≤ x17 then (some (Sum.inr (-1), S16)) else (qb (MX3_withoutLastGroups n9 S16 p2 ((p1 - 1) - x17)) fun a21 => qg (0 ≤ a21 ∧ a21 < 9223372036854775808 ∧ 0 < (100000 : Int) ∧ (100000 : Int) < 9223372036854775808) <| qb (MX3_commandSucceeds n9 S16 (a21 % 100000)) fun a24 => qg (qR a24.1) <| if a24.1 = 0 then (some (Sum.inr x17, a24.2)) else (MX3_runScript_l62 n9 p1 p2 f a24.2 (x17 + 1)))

def MX3_runScript (n9 : Nat) (S : qS) (p1 : Int) (p2 : Int) : Option (qO × qS) := qg (qR p1) <| ql (some (Sum.inl "java/lang/IllegalArgumentException", S)) fun (j2 : Option (qO × qS)) => if p1 < 1 then (j2) else (if p1 ≤ 3 then (qg (qRl p2) <| ql (some (Sum.inl "java/lang/IllegalArgumentException", S)) fun (j7 : Option (qO × qS)) => if (qcmp p2 0) < 0 then (j7) else (qb (MX3_withoutLastGroups n9 S p2 p1) fun a10 => qg (qRl a10) <| if (qcmp a10 0) = 0 then (qb (MX3_copy n9 S 7 12) fun a14 => MX3_runScript_l62 n9 p1 p2 n9 a14 0) else (j7))) else (j2))

def MX3_simulatedPause (n9 : Nat) (S : qS) (p1 : Int) : Option (Int) := qg (0 ≤ p1 ∧ p1 < 2147483648 ∧ 0 < (8 : Int) ∧ (8 : Int) < 2147483648) <| qg (qR (p1 % 8)) <| if (p1 % 8) = 0 then (qg (0 ≤ p1 ∧ p1 < 2147483648 ∧ 0 < (2048 : Int) ∧ (2048 : Int) < 2147483648) <| qg (0 ≤ (p1 / 2048) ∧ (p1 / 2048) < 2147483648 ∧ 0 < (60 : Int) ∧ (60 : Int) < 2147483648) <| some (1 + ((p1 / 2048) % 60))) else (qg (0 ≤ p1 ∧ p1 < 2147483648 ∧ 0 < (2 : Int) ∧ (2 : Int) < 2147483648) <| qg (qR (p1 % 2)) <| if (p1 % 2) = 0 then (qb (MX3_at n9 S (12 + 4) 1) fun a9 => qg (0 ≤ p1 ∧ p1 < 2147483648 ∧ 0 < (2048 : Int) ∧ (2048 : Int) < 2147483648) <| qg (0 ≤ (p1 / 2048) ∧ (p1 / 2048) < 2147483648 ∧ 0 < (4 : Int) ∧ (4 : Int) < 2147483648) <| qg (qR (a9 + ((p1 / 2048) % 4))) <| some (qmin (a9 + ((p1 / 2048) % 4)) 60)) else (qb (MX3_at n9 S (12 + 4) 0) fun a14 => some a14))

def MX3_simulate_l43 (n9 : Nat) (p3 : Int) (k133 : qS → Option (qO × qS)) : Nat → qS → Int → Int → Int → Option (qO × qS)
  | 0, _, _, _, _ => none
  | f + 1, S14, x15, x16, x17 => qg (qR x17) <| qg (qR p3) <| if p3 ≤ x17 then (k133 S14) else (ql ((x15 * 6364136223846793005) + 1442695040888963407) fun x21 => ql (qlushr x21 33) fun x23 => qg (0 ≤ x23 ∧ x23 < 2147483648 ∧ 0 < (8 : Int) ∧ (8 : Int) < 2147483648) <| qg (0 ≤ (x23 / 8) ∧ (x23 / 8) < 2147483648 ∧ 0 < (2 : Int) ∧ (2 : Int) < 2147483648) <| qg (qR ((x23 / 8) % 2)) <| ql (fun (x28 : Int) => qg (qR (S14 12 4)) <| ql (fun (S31 : qS) => qb (MX3_simulatedPause n9 S31 x23) fun a33 => qb (MX1_addAxle n9 S31 12 a33 x28) fun a35 => MX3_simulate_l43 n9 p3 k133 f a35.2 x21 x28 (x17 + 1)) fun (j32 : qS → Option (qO × qS)) => if (S14 12 4) < 30 then (j32 S14) else (qb (MX1_dropFirstTrain n9 S14 12) fun a39 => j32 a39.2)) fun (j29 : Int → Option (qO × qS)) => if ((x23 / 8) % 2) = 0 then (qg (0 ≤ x23 ∧ x23 < 2147483648 ∧ 0 < (16 : Int) ∧ (16 : Int) < 2147483648) <| qg (0 ≤ (x23 / 16) ∧ (x23 / 16) < 2147483648 ∧ 0 < (99 : Int) ∧ (99 : Int) < 2147483648) <| ql (1 + ((x23 / 16) % 99)) fun x45 => j29 x45) else (j29 x16))

def MX3_simulate (n9 : Nat) (S : qS) (p1 : Int) (p3 : Int) : Option (qO × qS) := qg (qR p3) <| ql (some (Sum.inl "java/lang/IllegalArgumentException", S)) fun (j2 : Option (qO × qS)) => if p3 < 1 then (j2) else (if p3 ≤ 60 then (qb (MX3_copy n9 S 7 12) fun a6 => ql (fun (S8 : qS) => qb (MX0_workOut n9 S8 12) fun a10 => qg (qR (a10 17 12)) <| some (Sum.inr ((1000 * (a10 17 10)) + (qmin (a10 17 12) 999)), a10)) fun (j9 : qS → Option (qO × qS)) => MX3_simulate_l43 n9 p3 j9 n9 a6 p1 40 0) else (j2))

def MX3_demandSlot (n9 : Nat) (S : qS) (p0 : Int) : Option (qO) := qg (qR p0) <| ql (some (Sum.inl "java/lang/IndexOutOfBoundsException")) fun (j2 : Option (qO)) => if p0 < 0 then (j2) else (if p0 < 2 then (some (Sum.inr 0)) else (j2))

def MX3_save (n9 : Nat) (S : qS) (p1 : Int) : Option (qO × qS) := qb (MX3_demandSlot n9 S p1) fun a1 => qy a1 (fun E => some (Sum.inl E, S)) fun v3 => qg (0 ≤ p1 ∧ p1 < 2) <| qb (MX3_copy n9 S 7 (100 + 5 * p1.toNat)) fun a6 => qg (0 ≤ p1 ∧ p1 < 2) <| ql (q2 a6 29 p1.toNat 1) fun S9 => some (Sum.inr (S9 7 4), S9)

def MX3_restore (n9 : Nat) (S : qS) (p1 : Int) : Option (qO × qS) := qb (MX3_demandSlot n9 S p1) fun a1 => qy a1 (fun E => some (Sum.inl E, S)) fun v3 => qg (0 ≤ p1 ∧ p1 < 2) <| qg (qR (S 29 p1.toNat)) <| if (S 29 p1.toNat) = 0 then (some (Sum.inl "java/lang/IllegalStateException", S)) else (qg (0 ≤ p1 ∧ p1 < 2) <| qb (MX3_copy n9 S (100 + 5 * p1.toNat) 7) fun a9 => ql (q2 a9 0 8 0) fun S11 => some (Sum.inr (S11 7 4), S11))

def MX4_thrown (n9 : Nat) (S : qS) : Option (Int) := some (S 110 0)

def MX4_refused (n9 : Nat) (S : qS) (p1 : Int) : Option (Int × qS) := ql (q2 S 110 0 p1) fun S1 => qg (qR p1) <| if p1 ≤ 0 then (some (0, S1)) else (some (1, S1))

def MX4_in (n9 : Nat) (S : qS) (p0 : Int) (p2 : Int) (p4 : Int) : Option (Int) := qg (qRl p0) <| qg (qRl p2) <| if (qcmp p0 p2) < 0 then (some 0) else (qg (qRl p4) <| if 0 < (qcmp p0 p4) then (some 0) else (some 1))

def MX4_size (n9 : Nat) (S : qS) (p0 : Int) : Option (Int) := qg (qR p0) <| if 0 ≤ p0 then (some p0) else (some (0 - p0))

def MX4_copy_l3 (u0 : Nat) (p1 : Int) (u2 : Nat) (p3 : Int) (p4 : Int)  : Nat → qS → Int → Option (qS)
  | 0, _, _ => none
  | f + 1, S1, x2 => qg (qR x2) <| qg (qR p4) <| if p4 ≤ x2 then (some S1) else (qg (0 ≤ (p1 + x2) ∧ (p1 + x2) < (qlen u0)) <| qg (0 ≤ (p3 + x2) ∧ (p3 + x2) < (qlen u2)) <| ql (q2 S1 u2 (p3 + x2).toNat (S1 u0 (p1 + x2).toNat)) fun S8 => MX4_copy_l3 u0 p1 u2 p3 p4 f S8 (x2 + 1))

def MX4_copy (n9 : Nat) (S : qS) (u0 : Nat) (p1 : Int) (u2 : Nat) (p3 : Int) (p4 : Int) : Option (qS) := qg (10 ≤ qk u0) <| qg (10 ≤ qk u2) <| MX4_copy_l3 u0 p1 u2 p3 p4 n9 S 0

def MX4_tenTo_l4 (S : qS) (p0 : Int)  : Nat → Int → Int → Option (Int)
  | 0, _, _ => none
  | f + 1, x1, x2 => qg (qR x2) <| qg (qR p0) <| if p0 ≤ x2 then (some x1) else (ql (x1 * 10) fun x6 => MX4_tenTo_l4 S p0 f x6 (x2 + 1))

def MX4_tenTo (n9 : Nat) (S : qS) (p0 : Int) : Option (Int) := MX4_tenTo_l4 S p0 n9 1 0

def MX4_remember (n9 : Nat) (S : qS) : Option (qS) := qg (qR (S 110 15)) <| ql (fun (S2 : qS) => qb (MX4_copy n9 S2 117 0 119 (95 * (S2 110 15)) 95) fun a4 => ql (q2 a4 110 15 ((a4 110 15) + 1)) fun S6 => some S6) fun (j3 : qS → Option (qS)) => if (S 110 15) = 14 then (qb (MX4_copy n9 S 119 95 119 0 1235) fun a10 => ql (q2 a10 110 15 ((a10 110 15) - 1)) fun S12 => j3 S12) else (j3 S)

def MX4_tryIt (n9 : Nat) (S : qS) : Option (qS) := qb (MX4_copy n9 S 117 0 118 0 95) fun a1 => some a1

def MX4_carCost (n9 : Nat) (S : qS) (u0 : Nat) (p1 : Int) : Option (Int) := qg (10 ≤ qk u0) <| qg (0 ≤ ((35 + p1) + 1) ∧ ((35 + p1) + 1) < (qlen u0)) <| qg (0 ≤ (1 : Int) ∧ (1 : Int) < (qlen u0)) <| qb (MX4_size n9 S ((S u0 ((35 + p1) + 1).toNat) - (S u0 (1 : Int).toNat))) fun a3 => qg (0 ≤ (65 + p1) ∧ (65 + p1) < (qlen u0)) <| qg (0 ≤ ((65 + p1) + 1) ∧ ((65 + p1) + 1) < (qlen u0)) <| qb (MX4_size n9 S ((S u0 (65 + p1).toNat) - (S u0 ((65 + p1) + 1).toNat))) fun a7 => some ((3 * a3) + a7)

def MX4_gapCost (n9 : Nat) (S : qS) (u1 : Nat) (p2 : Int) (p3 : Int) : Option (Int) := qg (10 ≤ qk u1) <| qg (0 ≤ p3 ∧ p3 < 31) <| qg (0 ≤ p2 ∧ p2 < 31) <| ql ((S 123 p3.toNat) - (S 123 p2.toNat)) fun x3 => qg (0 ≤ (2 : Int) ∧ (2 : Int) < (qlen u1)) <| qg (qR x3) <| qg (qR (S u1 (2 : Int).toNat)) <| if (S u1 (2 : Int).toNat) ≤ x3 then (some 0) else (qg (0 ≤ (2 : Int) ∧ (2 : Int) < (qlen u1)) <| some (2 * ((S u1 (2 : Int).toNat) - x3)))

def MX4_place (n9 : Nat) (S : qS) (p0 : Int) (p1 : Int) (p2 : Int) : Option (Int) := some ((32 * (p1 - p0)) + p2)

def MX4_withCar (n9 : Nat) (S : qS) (u1 : Nat) (p2 : Int) (p3 : Int) (p4 : Int) : Option (Int) := qg (10 ≤ qk u1) <| qg (qR p4) <| ql (fun (v2 : Int) => qb (MX4_carCost n9 S u1 p3) fun a4 => qb (MX4_place n9 S p2 (p3 + 2) ((p3 + 2) - p2)) fun a6 => qg (0 ≤ a6 ∧ a6 < 1024) <| some (((100 * (a4 + v2)) - 1) + (S 122 a6.toNat))) fun (j3 : Int → Option (Int)) => if p4 = 0 then (j3 0) else (qb (MX4_gapCost n9 S u1 ((p2 + p4) - 1) p3) fun a11 => j3 a11)

def MX4_withStray (n9 : Nat) (S : qS) (u1 : Nat) (p2 : Int) (p3 : Int) (p4 : Int) : Option (Int) := qg (10 ≤ qk u1) <| qg (0 ≤ (3 : Int) ∧ (3 : Int) < (qlen u1)) <| qb (MX4_place n9 S p2 (p3 + 1) p4) fun a2 => qg (0 ≤ a2 ∧ a2 < 1024) <| some ((100 * (S u1 (3 : Int).toNat)) + (S 122 a2.toNat))

def MX4_canPair (n9 : Nat) (S : qS) (p0 : Int) (p1 : Int) (p2 : Int) : Option (Int) := qg (qR (p0 + 1)) <| qg (qR p1) <| if p1 ≤ (p0 + 1) then (some 0) else (qg (qR p0) <| qg (qR p2) <| if p0 = p2 then (some 0) else (if (p0 + 1) = p2 then (some 0) else (some 1)))

def MX4_layRest_l44 (n9 : Nat) (u1 : Nat) (p2 : Int) (p3 : Int) (p4 : Int) (x13 : Int) (k125 : qS → Option (Int × qS)) : Nat → qS → Int → Option (Int × qS)
  | 0, _, _ => none
  | f + 1, S20, x21 => qg (qR x21) <| qg (qR (x13 - p2)) <| if (x13 - p2) < x21 then (k125 S20) else (qb (MX4_withStray n9 S20 u1 p2 x13 x21) fun a25 => qb (MX4_canPair n9 S20 x13 p3 p4) fun a27 => qg (qR a27) <| ql (fun (x30 : Int) => qb (MX4_place n9 S20 p2 x13 x21) fun a32 => qg (0 ≤ a32 ∧ a32 < 1024) <| ql (q2 S20 122 a32.toNat x30) fun S35 => MX4_layRest_l44 n9 u1 p2 p3 p4 x13 k125 f S35 (x21 + 1)) fun (j31 : Int → Option (Int × qS)) => if a27 = 0 then (j31 a25) else (qb (MX4_withCar n9 S20 u1 p2 x13 x21) fun a39 => qg (qR a39) <| qg (qR a25) <| ql (fun (v43 : Int) => j31 v43) fun (j44 : Int → Option (Int × qS)) => if a25 < a39 then (j44 a25) else (j44 a39)))

def MX4_layRest_l35 (n9 : Nat) (u1 : Nat) (p2 : Int) (p3 : Int) (p4 : Int) (k131 : qS → Option (Int × qS)) : Nat → qS → Int → Option (Int × qS)
  | 0, _, _ => none
  | f + 1, S12, x13 => qg (qR x13) <| qg (qR p2) <| if x13 < p2 then (k131 S12) else (ql (fun (S17 : qS) => MX4_layRest_l35 n9 u1 p2 p3 p4 k131 f S17 (x13 + (-1))) fun (j18 : qS → Option (Int × qS)) => MX4_layRest_l44 n9 u1 p2 p3 p4 x13 j18 n9 S12 0)

def MX4_layRest_l3 (n9 : Nat) (u1 : Nat) (p2 : Int) (p3 : Int) (p4 : Int) (k30 : qS → Option (Int × qS)) : Nat → qS → Int → Option (Int × qS)
  | 0, _, _ => none
  | f + 1, S48, x49 => qg (qR x49) <| qg (qR (p3 - p2)) <| if (p3 - p2) < x49 then (k30 S48) else (qb (MX4_place n9 S48 p2 p3 x49) fun a53 => qg (0 ≤ a53 ∧ a53 < 1024) <| ql (q2 S48 122 a53.toNat 0) fun S56 => MX4_layRest_l3 n9 u1 p2 p3 p4 k30 f S56 (x49 + 1))

def MX4_layRest (n9 : Nat) (S : qS) (u1 : Nat) (p2 : Int) (p3 : Int) (p4 : Int) : Option (Int × qS) := qg (10 ≤ qk u1) <| ql (fun (S1 : qS) => ql (p3 - 1) fun x3 => ql (fun (S5 : qS) => qb (MX4_place n9 S5 p2 p2 0) fun a7 => qg (0 ≤ a7 ∧ a7 < 1024) <| qg (0 ≤ ((S5 122 a7.toNat) + 99) ∧ ((S5 122 a7.toNat) + 99) < 2147483648 ∧ 0 < (100 : Int) ∧ (100 : Int) < 2147483648) <| some ((((S5 122 a7.toNat) + 99) / 100), S5)) fun (j6 : qS → Option (Int × qS)) => MX4_layRest_l35 n9 u1 p2 p3 p4 j6 n9 S1 x3) fun (j2 : qS → Option (Int × qS)) => MX4_layRest_l3 n9 u1 p2 p3 p4 j2 n9 S 0

def MX4_layCars_l6 (n9 : Nat) (u1 : Nat) (p2 : Int) (p3 : Int)  : Nat → qS → Int → Int → Option (qS)
  | 0, _, _, _ => none
  | f + 1, S1, x2, x3 => qg (qR x2) <| qg (qR p3) <| if p3 ≤ x2 then (some S1) else (qb (MX4_canPair n9 S1 x2 p3 (-1)) fun a7 => qg (qR a7) <| ql (fun (v10 : Int) => qg (qR v10) <| ql (fun (S13 : qS) (x14 : Int) => ql (fun (v16 : Int) => ql (x2 + v16) fun x18 => MX4_layCars_l6 n9 u1 p2 p3 f S13 x18 x14) fun (j17 : Int → Option (qS)) => if v10 = 0 then (j17 1) else (j17 2)) fun (j15 : qS → Int → Option (qS)) => if v10 = 0 then (j15 S1 x3) else (qg (0 ≤ (S1 110 24) ∧ (S1 110 24) < 15) <| ql (q2 S1 126 (S1 110 24).toNat x2) fun S25 => ql (q2 S25 110 24 ((S25 110 24) + 1)) fun S27 => ql ((x2 + 2) - p2) fun x29 => j15 S27 x29)) fun (j11 : Int → Option (qS)) => ql (j11 0) fun (j32 : Option (qS)) => if a7 = 0 then (j32) else (qb (MX4_withCar n9 S1 u1 p2 x2 x3) fun a35 => qb (MX4_place n9 S1 p2 x2 x3) fun a37 => qg (0 ≤ a37 ∧ a37 < 1024) <| qg (qR a35) <| qg (qR (S1 122 a37.toNat)) <| if a35 = (S1 122 a37.toNat) then (j11 1) else (j32)))

def MX4_layCars (n9 : Nat) (S : qS) (u1 : Nat) (p2 : Int) (p3 : Int) : Option (qS) := qg (10 ≤ qk u1) <| MX4_layCars_l6 n9 u1 p2 p3 n9 S p2 0

def MX4_lay_l109 (n9 : Nat) (u1 : Nat)  : Nat → qS → Int → Option (qS)
  | 0, _, _ => none
  | f + 1, S15, x16 => qg (qR x16) <| qg (qR (S15 110 22)) <| if (S15 110 22) ≤ x16 then (some S15) else (qg (0 ≤ x16 ∧ x16 < 31) <| qg (0 ≤ (x16 + 1) ∧ (x16 + 1) < 31) <| qb (MX4_layRest n9 S15 u1 (S15 124 x16.toNat) (S15 124 (x16 + 1).toNat) (-1)) fun a22 => qg (0 ≤ x16 ∧ x16 < 30) <| ql (q2 a22.2 125 x16.toNat a22.1) fun S25 => qg (0 ≤ x16 ∧ x16 < 31) <| qg (0 ≤ (x16 + 1) ∧ (x16 + 1) < 31) <| qb (MX4_layCars n9 S25 u1 (S25 124 x16.toNat) (S25 124 (x16 + 1).toNat)) fun a29 => qg (0 ≤ x16 ∧ x16 < 30) <| ql (q2 a29 110 25 ((a29 110 25) + (a29 125 x16.toNat))) fun S32 => MX4_lay_l109 n9 u1 f S32 (x16 + 1))

def MX4_lay_l21 (u1 : Nat) (x2 : Int) (k97 : qS → Option (qS)) : Nat → qS → Int → Option (qS)
  | 0, _, _ => none
  | f + 1, S35, x36 => qg (qR x36) <| qg (qR x2) <| if x2 ≤ x36 then (k97 S35) else (qg (0 ≤ (35 + x36) ∧ (35 + x36) < (qlen u1)) <| ql (fun (v41 : Int) => qg (0 ≤ x36 ∧ x36 < 31) <| ql (q2 S35 123 x36.toNat ((S35 u1 (35 + x36).toNat) + v41)) fun S44 => ql (fun (S46 : qS) => MX4_lay_l21 u1 x2 k97 f S46 (x36 + 1)) fun (j47 : qS → Option (qS)) => ql (qg (0 ≤ (S44 110 22) ∧ (S44 110 22) < 31) <| ql (q2 S44 124 (S44 110 22).toNat x36) fun S51 => ql (q2 S51 110 22 ((S51 110 22) + 1)) fun S53 => j47 S53) fun (j49 : Option (qS)) => if x36 = 0 then (j49) else (qg (0 ≤ (35 + x36) ∧ (35 + x36) < (qlen u1)) <| qg (0 ≤ (4 : Int) ∧ (4 : Int) < (qlen u1)) <| qg (qR (S44 u1 (35 + x36).toNat)) <| qg (qR (S44 u1 (4 : Int).toNat)) <| if (S44 u1 (35 + x36).toNat) < (S44 u1 (4 : Int).toNat) then (j47 S44) else (j49))) fun (j42 : Int → Option (qS)) => if x36 = 0 then (j42 0) else (qg (0 ≤ (x36 - 1) ∧ (x36 - 1) < 31) <| j42 (S35 123 (x36 - 1).toNat)))

def MX4_lay (n9 : Nat) (S : qS) (u1 : Nat) : Option (qS) := qg (10 ≤ qk u1) <| qg (0 ≤ (0 : Int) ∧ (0 : Int) < (qlen u1)) <| ql (S u1 (0 : Int).toNat) fun x2 => ql (q2 S 110 22 0) fun S4 => ql (q2 S4 110 24 0) fun S6 => ql (q2 S6 110 25 0) fun S8 => ql (fun (S10 : qS) => qg (0 ≤ (S10 110 22) ∧ (S10 110 22) < 31) <| ql (q2 S10 124 (S10 110 22).toNat x2) fun S13 => MX4_lay_l109 n9 u1 n9 S13 0) fun (j11 : qS → Option (qS)) => MX4_lay_l21 u1 x2 j11 n9 S8 0

def MX4_carWeight (n9 : Nat) (S : qS) (u0 : Nat) (p1 : Int) : Option (Int) := qg (10 ≤ qk u0) <| qg (0 ≤ (65 + p1) ∧ (65 + p1) < (qlen u0)) <| qg (0 ≤ ((65 + p1) + 1) ∧ ((65 + p1) + 1) < (qlen u0)) <| some ((S u0 (65 + p1).toNat) + (S u0 ((65 + p1) + 1).toNat))

def MX4_allWeight_l4 (n9 : Nat) (S : qS) (u1 : Nat)  : Nat → Int → Int → Option (Int)
  | 0, _, _ => none
  | f + 1, x1, x2 => qg (qR x2) <| qg (qR (S 110 24)) <| if (S 110 24) ≤ x2 then (some x1) else (qg (0 ≤ x2 ∧ x2 < 15) <| qb (MX4_carWeight n9 S u1 (S 126 x2.toNat)) fun a7 => ql (x1 + a7) fun x9 => MX4_allWeight_l4 n9 S u1 f x9 (x2 + 1))

def MX4_allWeight (n9 : Nat) (S : qS) (u1 : Nat) : Option (Int) := qg (10 ≤ qk u1) <| MX4_allWeight_l4 n9 S u1 n9 0 0

def MX4_trainOf_l2 (S : qS) (p1 : Int)  : Nat → Int → Option (Int)
  | 0, _ => none
  | f + 1, x1 => qg (0 ≤ (x1 + 1) ∧ (x1 + 1) < 31) <| qg (qR (S 124 (x1 + 1).toNat)) <| qg (qR p1) <| if p1 < (S 124 (x1 + 1).toNat) then (some x1) else (MX4_trainOf_l2 S p1 f (x1 + 1))

def MX4_trainOf (n9 : Nat) (S : qS) (p1 : Int) : Option (Int) := MX4_trainOf_l2 S p1 n9 0

def MX4_carOf_l4 (n9 : Nat) (S : qS) (p1 : Int)  : Nat → Int → Int → Option (Int)
  | 0, _, _ => none
  | f + 1, x1, x2 => qg (qR x2) <| qg (qR (S 110 24)) <| if (S 110 24) ≤ x2 then (some x1) else (qg (0 ≤ x2 ∧ x2 < 15) <| qg (qR (p1 - (S 126 x2.toNat))) <| qb (MX4_in n9 S (p1 - (S 126 x2.toNat)) 0 1) fun a8 => qg (qR a8) <| ql (fun (v11 : Int) => MX4_carOf_l4 n9 S p1 f v11 (x2 + 1)) fun (j12 : Int → Option (Int)) => if a8 = 0 then (j12 x1) else (j12 x2))

def MX4_carOf (n9 : Nat) (S : qS) (p1 : Int) : Option (Int) := MX4_carOf_l4 n9 S p1 n9 (-1) 0

def MX4_rollIn (n9 : Nat) (S : qS) (u0 : Nat) (p1 : Int) (p2 : Int) : Option (Int × qS) := qg (10 ≤ qk u0) <| qg (0 ≤ (0 : Int) ∧ (0 : Int) < (qlen u0)) <| ql (S u0 (0 : Int).toNat) fun x2 => qg (0 ≤ (35 + x2) ∧ (35 + x2) < (qlen u0)) <| ql (q2 S u0 (35 + x2).toNat p1) fun S5 => qg (0 ≤ (65 + x2) ∧ (65 + x2) < (qlen u0)) <| ql (q2 S5 u0 (65 + x2).toNat p2) fun S8 => qg (0 ≤ (0 : Int) ∧ (0 : Int) < (qlen u0)) <| qg (0 ≤ (0 : Int) ∧ (0 : Int) < (qlen u0)) <| ql (q2 S8 u0 (0 : Int).toNat ((S8 u0 (0 : Int).toNat) + 1)) fun S12 => some (x2, S12)

def MX4_cutOut (n9 : Nat) (S : qS) (u0 : Nat) (p1 : Int) (p2 : Int) : Option (qS) := qg (10 ≤ qk u0) <| qg (0 ≤ (0 : Int) ∧ (0 : Int) < (qlen u0)) <| qb (MX4_copy n9 S u0 ((35 + p1) + p2) u0 (35 + p1) (((S u0 (0 : Int).toNat) - p1) - p2)) fun a2 => qg (0 ≤ (0 : Int) ∧ (0 : Int) < (qlen u0)) <| qb (MX4_copy n9 a2 u0 ((65 + p1) + p2) u0 (65 + p1) (((a2 u0 (0 : Int).toNat) - p1) - p2)) fun a5 => qg (0 ≤ (0 : Int) ∧ (0 : Int) < (qlen u0)) <| qg (0 ≤ (0 : Int) ∧ (0 : Int) < (qlen u0)) <| ql (q2 a5 u0 (0 : Int).toNat ((a5 u0 (0 : Int).toNat) - p2)) fun S9 => some S9

def MX4_strikeIn (n9 : Nat) (S : qS) (u0 : Nat) (p1 : Int) : Option (Int × qS) := qg (10 ≤ qk u0) <| qg (0 ≤ (35 + p1) ∧ (35 + p1) < (qlen u0)) <| ql (S u0 (35 + p1).toNat) fun x2 => qb (MX4_cutOut n9 S u0 p1 1) fun a4 => qg (0 ≤ (0 : Int) ∧ (0 : Int) < (qlen u0)) <| qg (qR p1) <| qg (qR (a4 u0 (0 : Int).toNat)) <| ql (fun (S9 : qS) => qg (0 ≤ (0 : Int) ∧ (0 : Int) < (qlen u0)) <| some ((S9 u0 (0 : Int).toNat), S9)) fun (j10 : qS → Option (Int × qS)) => if (a4 u0 (0 : Int).toNat) ≤ p1 then (j10 a4) else (qg (0 ≤ (35 + p1) ∧ (35 + p1) < (qlen u0)) <| ql ((a4 u0 (35 + p1).toNat) + x2) fun x15 => qg (qR x15) <| ql (fun (v18 : Int) => qg (0 ≤ (35 + p1) ∧ (35 + p1) < (qlen u0)) <| ql (q2 a4 u0 (35 + p1).toNat v18) fun S21 => j10 S21) fun (j19 : Int → Option (Int × qS)) => if x15 ≤ 60 then (j19 x15) else (j19 60))

def MX4_leaveIn_l17 (n9 : Nat) (u1 : Nat) (a1 : qS) (x4 : Int) (k61 : Int → Option (Int × qS)) : Nat → Int → Int → Option (Int × qS)
  | 0, _, _ => none
  | f + 1, x16, x17 => qg (qR x17) <| qg (qR (a1 110 24)) <| if (a1 110 24) ≤ x17 then (k61 x16) else (qg (0 ≤ x17 ∧ x17 < 15) <| qg (qR (a1 126 x17.toNat)) <| qg (qR x4) <| ql (fun (v24 : Int) => ql (x16 + v24) fun x26 => MX4_leaveIn_l17 n9 u1 a1 x4 k61 f x26 (x17 + 1)) fun (j25 : Int → Option (Int × qS)) => if x4 ≤ (a1 126 x17.toNat) then (j25 0) else (qg (0 ≤ x17 ∧ x17 < 15) <| qb (MX4_carWeight n9 a1 u1 (a1 126 x17.toNat)) fun a31 => j25 a31))

def MX4_leaveIn (n9 : Nat) (S : qS) (u1 : Nat) : Option (Int × qS) := qg (10 ≤ qk u1) <| qb (MX4_lay n9 S u1) fun a1 => qg (0 ≤ (1 : Int) ∧ (1 : Int) < 31) <| ql (a1 124 (1 : Int).toNat) fun x4 => ql (fun (x6 : Int) => qb (MX4_cutOut n9 a1 u1 0 x4) fun a8 => qb (MX4_copy n9 a8 u1 6 u1 5 29) fun a10 => qg (0 ≤ (34 : Int) ∧ (34 : Int) < (qlen u1)) <| ql (q2 a10 u1 (34 : Int).toNat 0) fun S13 => some (x6, S13)) fun (j7 : Int → Option (Int × qS)) => MX4_leaveIn_l17 n9 u1 a1 x4 j7 n9 0 0

def MX4_append (n9 : Nat) (S : qS) (p1 : Int) : Option (Int × qS) := qg (qR p1) <| qb (MX4_in n9 S p1 0 255) fun a2 => qg (qR a2) <| ql (fun (v5 : Int) => qb (MX4_refused n9 S v5) fun a7 => qg (qR a7.1) <| if a7.1 = 0 then (qg (0 ≤ (a7.2 110 2) ∧ (a7.2 110 2) < 120) <| ql (q2 a7.2 111 (a7.2 110 2).toNat p1) fun S12 => ql (q2 S12 110 2 ((S12 110 2) + 1)) fun S14 => some ((S14 110 2), S14)) else (some (0, a7.2))) fun (j6 : Int → Option (Int × qS)) => if a2 = 0 then (j6 1) else (qg (qR (S 110 2)) <| if (S 110 2) = 120 then (j6 2) else (j6 0))

def MX4_clearText (n9 : Nat) (S : qS) : Option (Int × qS) := ql (q2 S 110 0 0) fun S1 => ql (S1 110 2) fun x3 => ql (q2 S1 110 2 0) fun S5 => some (x3, S5)

def MX4_isNext (n9 : Nat) (S : qS) (p1 : Int) : Option (Int) := qg (qR (S 110 3)) <| qg (qR (S 110 2)) <| if (S 110 2) ≤ (S 110 3) then (some 0) else (qg (0 ≤ (S 110 3) ∧ (S 110 3) < 120) <| qg (qR (S 111 (S 110 3).toNat)) <| qg (qR p1) <| if (S 111 (S 110 3).toNat) = p1 then (some 1) else (some 0))

def MX4_digitAt (n9 : Nat) (S : qS) (p1 : Int) : Option (Int) := qg (qR p1) <| qg (qR (S 110 2)) <| if (S 110 2) ≤ p1 then (some (-1)) else (qg (0 ≤ p1 ∧ p1 < 120) <| qg (qR (S 111 p1.toNat)) <| qb (MX4_in n9 S (S 111 p1.toNat) 48 57) fun a6 => qg (qR a6) <| if a6 = 0 then (some (-1)) else (qg (0 ≤ p1 ∧ p1 < 120) <| some ((S 111 p1.toNat) - 48)))

def MX4_accept (n9 : Nat) (S : qS) (p1 : Int) : Option (qS) := qg (qR (S 110 4)) <| ql (fun (v2 : Int) => qg (v2 = 0 ∨ v2 = 1) <| ql (q2 S 110 4 v2) fun S5 => qg (qR (S5 110 4)) <| ql (fun (v8 : Int) => ql (q2 S5 110 3 ((S5 110 3) + v8)) fun S10 => some S10) fun (j9 : Int → Option (qS)) => if (S5 110 4) = 0 then (j9 0) else (j9 1)) fun (j3 : Int → Option (qS)) => ql (j3 0) fun (j15 : Option (qS)) => if (S 110 4) = 0 then (j15) else (qg (qR p1) <| if p1 = 0 then (j15) else (j3 1))

def MX4_digit (n9 : Nat) (S : qS) (p1 : Int) (p2 : Int) : Option (Int × qS) := qb (MX4_digitAt n9 S (S 110 3)) fun a1 => qg (qR a1) <| ql (fun (v4 : Int) => qb (MX4_accept n9 S v4) fun a6 => qg (qR (a6 110 4)) <| if (a6 110 4) = 0 then (some (p1, a6)) else (some (a1, a6))) fun (j5 : Int → Option (Int × qS)) => ql (j5 0) fun (j11 : Option (Int × qS)) => if a1 = (-1) then (j11) else (qg (qR p1) <| qg (qR p2) <| qb (MX4_in n9 S a1 p1 p2) fun a16 => qg (qR a16) <| if a16 = 0 then (j11) else (j5 1))

def MX4_take (n9 : Nat) (S : qS) (p1 : Int) (p2 : Int) : Option (qS) := qg (qR (S 110 7)) <| ql (fun (S2 : qS) => ql (q2 S2 110 7 ((S2 110 7) + 1)) fun S4 => some S4) fun (j3 : qS → Option (qS)) => if 30 ≤ (S 110 7) then (j3 S) else (qg (0 ≤ (S 110 7) ∧ (S 110 7) < 30) <| ql (q2 S 112 (S 110 7).toNat p1) fun S9 => qg (0 ≤ (S9 110 7) ∧ (S9 110 7) < 30) <| ql (q2 S9 113 (S9 110 7).toNat p2) fun S12 => j3 S12)

def MX4_readAxle (n9 : Nat) (S : qS) : Option (qS) := qb (MX4_digit n9 S 0 6) fun a1 => qg (qR a1.1) <| ql (fun (v4 : Int) => ql (fun (v6 : Int) => qb (MX4_digit n9 a1.2 v4 v6) fun a8 => ql ((10 * a1.1) + a8.1) fun x10 => qb (MX4_digit n9 a8.2 0 9) fun a12 => qg (qR a12.1) <| ql (fun (v15 : Int) => qb (MX4_digit n9 a12.2 v15 9) fun a17 => ql ((10 * a12.1) + a17.1) fun x19 => qg (qR (a17.2 110 4)) <| if (a17.2 110 4) = 0 then (some a17.2) else (qb (MX4_take n9 a17.2 x10 x19) fun a23 => qg (0 ≤ (a23 110 11) ∧ (a23 110 11) < 4) <| qg (0 ≤ (a23 110 11) ∧ (a23 110 11) < 4) <| ql (q2 a23 116 (a23 110 11).toNat ((a23 116 (a23 110 11).toNat) + 1)) fun S27 => some S27)) fun (j16 : Int → Option (qS)) => if a12.1 = 0 then (j16 1) else (j16 0)) fun (j7 : Int → Option (qS)) => if a1.1 = 6 then (j7 0) else (j7 9)) fun (j5 : Int → Option (qS)) => if a1.1 = 0 then (j5 1) else (j5 0)

def MX4_openRow (n9 : Nat) (S : qS) : Option (qS) := qb (MX4_digit n9 S 2 9) fun a1 => qg (qR (a1.2 110 11)) <| ql (fun (v4 : Int) => qb (MX4_accept n9 a1.2 v4) fun a6 => qg (qR (a6 110 4)) <| if (a6 110 4) = 0 then (some a6) else (ql (q2 a6 110 11 ((a6 110 11) + 1)) fun S10 => qg (0 ≤ (S10 110 11) ∧ (S10 110 11) < 4) <| ql (q2 S10 114 (S10 110 11).toNat (S10 110 7)) fun S13 => qg (0 ≤ (S13 110 11) ∧ (S13 110 11) < 4) <| ql (q2 S13 115 (S13 110 11).toNat a1.1) fun S16 => qg (0 ≤ (S16 110 11) ∧ (S16 110 11) < 4) <| ql (q2 S16 116 (S16 110 11).toNat 0) fun S19 => some S19)) fun (j5 : Int → Option (qS)) => ql (j5 0) fun (j22 : Option (qS)) => if 3 ≤ (a1.2 110 11) then (j22) else (qb (MX4_isNext n9 a1.2 40) fun a25 => qg (qR a25) <| if a25 = 0 then (j22) else (j5 1))

def MX4_closeRow_l61 (x10 : Int) (x12 : Int) (x15 : Int) (k122 : qS → Option (qS)) : Nat → qS → Int → Option (qS)
  | 0, _, _ => none
  | f + 1, S28, x29 => qg (qR x29) <| qg (qR x15) <| if x15 ≤ x29 then (k122 S28) else (qg (qR (x10 + x29)) <| if 30 ≤ (x10 + x29) then (k122 S28) else (qg (0 ≤ ((x10 + x29) - x12) ∧ ((x10 + x29) - x12) < 30) <| qg (0 ≤ (x10 + x29) ∧ (x10 + x29) < 30) <| ql (q2 S28 112 (x10 + x29).toNat (S28 112 ((x10 + x29) - x12).toNat)) fun S37 => qg (0 ≤ ((x10 + x29) - x12) ∧ ((x10 + x29) - x12) < 30) <| qg (0 ≤ (x10 + x29) ∧ (x10 + x29) < 30) <| ql (q2 S37 113 (x10 + x29).toNat (S37 113 ((x10 + x29) - x12).toNat)) fun S41 => MX4_closeRow_l61 x10 x12 x15 k122 f S41 (x29 + 1)))

def MX4_closeRow (n9 : Nat) (S : qS) : Option (qS) := qg (0 ≤ (S 110 11) ∧ (S 110 11) < 4) <| qg (qR (S 116 (S 110 11).toNat)) <| ql (fun (v3 : Int) => qb (MX4_accept n9 S v3) fun a5 => qg (qR (a5 110 4)) <| if (a5 110 4) = 0 then (some a5) else (qg (0 ≤ (a5 110 11) ∧ (a5 110 11) < 4) <| ql (a5 114 (a5 110 11).toNat) fun x10 => ql ((a5 110 7) - x10) fun x12 => qg (0 ≤ (a5 110 11) ∧ (a5 110 11) < 4) <| ql (x12 * (a5 115 (a5 110 11).toNat)) fun x15 => ql (fun (S17 : qS) => ql (q2 S17 110 7 (x10 + x15)) fun S19 => ql (q2 S19 110 11 ((S19 110 11) - 1)) fun S21 => qg (0 ≤ (S21 110 11) ∧ (S21 110 11) < 4) <| qg (0 ≤ (S21 110 11) ∧ (S21 110 11) < 4) <| ql (q2 S21 116 (S21 110 11).toNat ((S21 116 (S21 110 11).toNat) + 1)) fun S25 => some S25) fun (j18 : qS → Option (qS)) => MX4_closeRow_l61 x10 x12 x15 j18 n9 a5 x12)) fun (j4 : Int → Option (qS)) => if (S 116 (S 110 11).toNat) ≤ 0 then (j4 0) else (j4 1)

def MX4_readPart (n9 : Nat) (S : qS) : Option (qS) := qb (MX4_digitAt n9 S (S 110 3)) fun a1 => qg (qR a1) <| qb (MX4_in n9 S a1 7 9) fun a4 => qg (qR a4) <| ql (fun (v7 : Int) => qg (qR (S 110 11)) <| ql (qg (qR v7) <| if v7 = 0 then (qb (MX4_readAxle n9 S ) fun a13 => some a13) else (qb (MX4_openRow n9 S ) fun a15 => some a15)) fun (j10 : Option (qS)) => if (S 110 11) ≤ 0 then (j10) else (qb (MX4_isNext n9 S 41) fun a19 => qg (qR a19) <| if a19 = 0 then (j10) else (qb (MX4_closeRow n9 S ) fun a23 => some a23))) fun (j8 : Int → Option (qS)) => ql (j8 1) fun (j26 : Option (qS)) => ql (qb (MX4_in n9 S a1 2 6) fun a29 => qg (qR a29) <| ql (j8 0) fun (j32 : Option (qS)) => if a29 = 0 then (j32) else (qg (qR ((S 110 3) + 1)) <| qg (qR (S 110 2)) <| if (S 110 2) ≤ ((S 110 3) + 1) then (j32) else (qg (0 ≤ ((S 110 3) + 1) ∧ ((S 110 3) + 1) < 120) <| qg (qR (S 111 ((S 110 3) + 1).toNat)) <| if (S 111 ((S 110 3) + 1).toNat) = 40 then (j26) else (j32)))) fun (j28 : Option (qS)) => if a4 = 0 then (j28) else (qg (qR (S 110 11)) <| if (S 110 11) < 3 then (j26) else (j28))

def MX4_readText_l30 (n9 : Nat) (k55 : qS → Option (Int × qS)) : Nat → qS → Option (Int × qS)
  | 0, _ => none
  | f + 1, S22 => qg (qR (S22 110 4)) <| if (S22 110 4) = 0 then (k55 S22) else (qg (qR (S22 110 3)) <| qg (qR (S22 110 2)) <| if (S22 110 2) ≤ (S22 110 3) then (k55 S22) else (qb (MX4_readPart n9 S22 ) fun a28 => MX4_readText_l30 n9 k55 f a28))

def MX4_readText (n9 : Nat) (S : qS) : Option (Int × qS) := ql (q2 S 110 3 0) fun S1 => ql (q2 S1 110 4 1) fun S3 => ql (q2 S3 110 7 0) fun S5 => ql (q2 S5 110 11 0) fun S7 => qb (MX4_isNext n9 S7 82) fun a9 => qb (MX4_accept n9 S7 a9) fun a11 => ql (fun (S13 : qS) => qg (qR (S13 110 4)) <| ql (some ((S13 110 3), S13)) fun (j16 : Option (Int × qS)) => if (S13 110 4) = 0 then (j16) else (qg (qR (S13 110 11)) <| if (S13 110 11) = 0 then (some ((-1), S13)) else (j16))) fun (j14 : qS → Option (Int × qS)) => MX4_readText_l30 n9 j14 n9 a11

def MX4_errorPosition (n9 : Nat) (S : qS) : Option (Int × qS) := ql (q2 S 110 0 0) fun S1 => qb (MX4_readText n9 S1 ) fun a3 => some (a3.1, a3.2)

def MX4_axlesTold (n9 : Nat) (S : qS) : Option (Int × qS) := ql (q2 S 110 0 0) fun S1 => qb (MX4_readText n9 S1 ) fun a3 => qg (qR a3.1) <| if a3.1 = (-1) then (some ((a3.2 110 7), a3.2)) else (some ((-1), a3.2))

def MX4_trainWeight_l4 (n9 : Nat) (S : qS) (p1 : Int)  : Nat → Int → Int → Option (Int)
  | 0, _, _ => none
  | f + 1, x1, x2 => qg (qR x2) <| qg (qR (S 110 24)) <| if (S 110 24) ≤ x2 then (some x1) else (qg (0 ≤ x2 ∧ x2 < 15) <| qb (MX4_trainOf n9 S (S 126 x2.toNat)) fun a7 => qg (qR a7) <| qg (qR p1) <| ql (fun (v11 : Int) => ql (x1 + v11) fun x13 => MX4_trainWeight_l4 n9 S p1 f x13 (x2 + 1)) fun (j12 : Int → Option (Int)) => if a7 = p1 then (qg (0 ≤ x2 ∧ x2 < 15) <| qb (MX4_carWeight n9 S 117 (S 126 x2.toNat)) fun a18 => j12 a18) else (j12 0))

def MX4_trainWeight (n9 : Nat) (S : qS) (p1 : Int) : Option (Int) := MX4_trainWeight_l4 n9 S p1 n9 0 0

def MX4_badBills_l4 (n9 : Nat) (S : qS) (p1 : Int)  : Nat → Int → Int → Option (Int)
  | 0, _, _ => none
  | f + 1, x1, x2 => qg (qR x2) <| qg (qR (S 110 22)) <| if (S 110 22) ≤ x2 then (some x1) else (qg (0 ≤ (5 + x2) ∧ (5 + x2) < 95) <| qg (qR (S 117 (5 + x2).toNat)) <| ql (fun (v8 : Int) => ql (x1 + v8) fun x10 => MX4_badBills_l4 n9 S p1 f x10 (x2 + 1)) fun (j9 : Int → Option (Int)) => ql (j9 0) fun (j13 : Option (Int)) => if (S 117 (5 + x2).toNat) ≤ 0 then (j13) else (qg (qR p1) <| ql (j9 1) fun (j17 : Option (Int)) => if p1 = 0 then (qg (0 ≤ (5 + x2) ∧ (5 + x2) < 95) <| qb (MX4_trainWeight n9 S x2) fun a21 => qg (qR a21) <| if (S 117 (5 + x2).toNat) = a21 then (j13) else (j17)) else (j17)))

def MX4_badBills (n9 : Nat) (S : qS) (p1 : Int) : Option (Int) := MX4_badBills_l4 n9 S p1 n9 0 0

def MX4_about (n9 : Nat) (S : qS) (p1 : Int) : Option (Int × qS) := qg (qR p1) <| qb (MX4_in n9 S p1 0 7) fun a2 => qg (qR a2) <| ql (fun (v5 : Int) => qb (MX4_refused n9 S v5) fun a7 => qg (qR a7.1) <| if a7.1 = 0 then (qb (MX4_lay n9 a7.2 117) fun a11 => if p1 = 0 then (qg (0 ≤ (0 : Int) ∧ (0 : Int) < 95) <| some ((a11 117 (0 : Int).toNat), a11)) else if p1 = 1 then (some ((a11 110 22), a11)) else if p1 = 2 then (some ((a11 110 24), a11)) else if p1 = 3 then (qg (0 ≤ (0 : Int) ∧ (0 : Int) < 95) <| some (((a11 117 (0 : Int).toNat) - (2 * (a11 110 24))), a11)) else if p1 = 4 then (qb (MX4_allWeight n9 a11 117) fun a20 => some (a20, a11)) else if p1 = 5 then (some ((a11 110 25), a11)) else if p1 = 6 then (qb (MX4_badBills n9 a11 1) fun a24 => some (a24, a11)) else (qb (MX4_badBills n9 a11 0) fun a26 => some (a26, a11))) else (some (0, a7.2))) fun (j6 : Int → Option (Int × qS)) => if a2 = 0 then (j6 1) else (j6 0)

def MX4_isAxle (n9 : Nat) (S : qS) (p1 : Int) : Option (Int) := qg (qR p1) <| qg (0 ≤ (0 : Int) ∧ (0 : Int) < 95) <| qg (qR ((S 117 (0 : Int).toNat) - 1)) <| qb (MX4_in n9 S p1 0 ((S 117 (0 : Int).toNat) - 1)) fun a4 => qg (a4 = 0 ∨ a4 = 1) <| some a4

def MX4_axle (n9 : Nat) (S : qS) (p1 : Int) (p2 : Int) : Option (Int × qS) := qb (MX4_isAxle n9 S p1) fun a1 => qg (qR a1) <| ql (fun (v4 : Int) => qb (MX4_refused n9 S v4) fun a6 => qg (qR a6.1) <| if a6.1 = 0 then (qb (MX4_lay n9 a6.2 117) fun a10 => qg (qR p2) <| if p2 = 0 then (qg (0 ≤ (35 + p1) ∧ (35 + p1) < 95) <| some ((a10 117 (35 + p1).toNat), a10)) else (if p2 = 1 then (qg (0 ≤ (65 + p1) ∧ (65 + p1) < 95) <| some ((a10 117 (65 + p1).toNat), a10)) else (if p2 = 2 then (qb (MX4_trainOf n9 a10 p1) fun a18 => some (a18, a10)) else (qb (MX4_carOf n9 a10 p1) fun a20 => some (a20, a10))))) else (some (0, a6.2))) fun (j5 : Int → Option (Int × qS)) => if a1 = 0 then (j5 1) else (qg (qR p2) <| qb (MX4_in n9 S p2 0 3) fun a25 => qg (qR a25) <| if a25 = 0 then (j5 2) else (j5 0))

def MX4_speed (n9 : Nat) (S : qS) (p1 : Int) : Option (Int) := qg (0 ≤ p1 ∧ p1 < 15) <| qg (0 ≤ ((35 + (S 126 p1.toNat)) + 1) ∧ ((35 + (S 126 p1.toNat)) + 1) < 95) <| qg (0 ≤ (600 : Int) ∧ (600 : Int) < 2147483648 ∧ 0 < (S 117 ((35 + (S 126 p1.toNat)) + 1).toNat) ∧ (S 117 ((35 + (S 126 p1.toNat)) + 1).toNat) < 2147483648) <| some (600 / (S 117 ((35 + (S 126 p1.toNat)) + 1).toNat))

def MX4_between (n9 : Nat) (S : qS) (p1 : Int) : Option (Int) := qg (qR p1) <| ql (fun (v2 : Int) => qg (qR v2) <| if v2 = 0 then (qg (0 ≤ p1 ∧ p1 < 15) <| qg (0 ≤ (S 126 p1.toNat) ∧ (S 126 p1.toNat) < 31) <| qg (0 ≤ (p1 - 1) ∧ (p1 - 1) < 15) <| qg (0 ≤ ((S 126 (p1 - 1).toNat) + 1) ∧ ((S 126 (p1 - 1).toNat) + 1) < 31) <| some ((S 123 (S 126 p1.toNat).toNat) - (S 123 ((S 126 (p1 - 1).toNat) + 1).toNat))) else (some (-1))) fun (j3 : Int → Option (Int)) => ql (j3 1) fun (j11 : Option (Int)) => if p1 = 0 then (j11) else (qg (0 ≤ (p1 - 1) ∧ (p1 - 1) < 15) <| qb (MX4_trainOf n9 S (S 126 (p1 - 1).toNat)) fun a15 => qg (0 ≤ p1 ∧ p1 < 15) <| qb (MX4_trainOf n9 S (S 126 p1.toNat)) fun a18 => qg (qR a15) <| qg (qR a18) <| if a15 = a18 then (j3 0) else (j11))

def MX4_car (n9 : Nat) (S : qS) (p1 : Int) (p2 : Int) : Option (Int × qS) := qb (MX4_lay n9 S 117) fun a1 => qg (qR p1) <| qg (qR ((a1 110 24) - 1)) <| qb (MX4_in n9 a1 p1 0 ((a1 110 24) - 1)) fun a5 => qg (qR a5) <| ql (fun (v8 : Int) => qb (MX4_refused n9 a1 v8) fun a10 => qg (qR a10.1) <| if a10.1 = 0 then (qg (qR p2) <| if p2 = 0 then (qg (0 ≤ p1 ∧ p1 < 15) <| some ((a10.2 126 p1.toNat), a10.2)) else if p2 = 1 then (qg (0 ≤ p1 ∧ p1 < 15) <| qb (MX4_carWeight n9 a10.2 117 (a10.2 126 p1.toNat)) fun a19 => some (a19, a10.2)) else if p2 = 2 then (qg (0 ≤ p1 ∧ p1 < 15) <| qg (0 ≤ ((35 + (a10.2 126 p1.toNat)) + 1) ∧ ((35 + (a10.2 126 p1.toNat)) + 1) < 95) <| some ((a10.2 117 ((35 + (a10.2 126 p1.toNat)) + 1).toNat), a10.2)) else if p2 = 3 then (qb (MX4_speed n9 a10.2 p1) fun a25 => some (a25, a10.2)) else if p2 = 4 then (qg (0 ≤ p1 ∧ p1 < 15) <| qb (MX4_trainOf n9 a10.2 (a10.2 126 p1.toNat)) fun a29 => some (a29, a10.2)) else (qb (MX4_between n9 a10.2 p1) fun a31 => some (a31, a10.2))) else (some (0, a10.2))) fun (j9 : Int → Option (Int × qS)) => if a5 = 0 then (j9 1) else (qg (qR p2) <| qb (MX4_in n9 a1 p2 0 5) fun a36 => qg (qR a36) <| if a36 = 0 then (j9 2) else (j9 0))

def MX4_carsOf_l4 (n9 : Nat) (S : qS) (p1 : Int)  : Nat → Int → Int → Option (Int)
  | 0, _, _ => none
  | f + 1, x1, x2 => qg (qR x2) <| qg (qR (S 110 24)) <| if (S 110 24) ≤ x2 then (some x1) else (qg (0 ≤ x2 ∧ x2 < 15) <| qb (MX4_trainOf n9 S (S 126 x2.toNat)) fun a7 => qg (qR a7) <| qg (qR p1) <| ql (fun (v11 : Int) => ql (x1 + v11) fun x13 => MX4_carsOf_l4 n9 S p1 f x13 (x2 + 1)) fun (j12 : Int → Option (Int)) => if a7 = p1 then (j12 1) else (j12 0))

def MX4_carsOf (n9 : Nat) (S : qS) (p1 : Int) : Option (Int) := MX4_carsOf_l4 n9 S p1 n9 0 0

def MX4_heaviest_l4 (n9 : Nat) (S : qS) (p1 : Int)  : Nat → Int → Int → Option (Int)
  | 0, _, _ => none
  | f + 1, x1, x2 => qg (qR x2) <| qg (qR (S 110 24)) <| if (S 110 24) ≤ x2 then (some x1) else (qg (0 ≤ x2 ∧ x2 < 15) <| qb (MX4_carWeight n9 S 117 (S 126 x2.toNat)) fun a7 => qg (0 ≤ x2 ∧ x2 < 15) <| qb (MX4_trainOf n9 S (S 126 x2.toNat)) fun a10 => qg (qR a10) <| qg (qR p1) <| ql (fun (v14 : Int) => MX4_heaviest_l4 n9 S p1 f v14 (x2 + 1)) fun (j15 : Int → Option (Int)) => ql (j15 x1) fun (j17 : Option (Int)) => if a10 = p1 then (qg (qR a7) <| qg (qR x1) <| if a7 ≤ x1 then (j17) else (j15 a7)) else (j17))

def MX4_heaviest (n9 : Nat) (S : qS) (p1 : Int) : Option (Int) := MX4_heaviest_l4 n9 S p1 n9 (-1) 0

def MX4_speeds_l9 (n9 : Nat) (S : qS) (p1 : Int) (k81 : Int → Int → Option (Int)) : Nat → Int → Int → Int → Option (Int)
  | 0, _, _, _ => none
  | f + 1, x7, x8, x9 => qg (qR x9) <| qg (qR (S 110 24)) <| if (S 110 24) ≤ x9 then (k81 x7 x8) else (qg (0 ≤ x9 ∧ x9 < 15) <| qb (MX4_trainOf n9 S (S 126 x9.toNat)) fun a14 => qg (qR a14) <| qg (qR p1) <| ql (fun (x18 : Int) (x19 : Int) => MX4_speeds_l9 n9 S p1 k81 f x18 x19 (x9 + 1)) fun (j20 : Int → Int → Option (Int)) => if a14 = p1 then (qb (MX4_speed n9 S x9) fun a23 => qg (qR a23) <| qg (qR x7) <| ql (fun (v27 : Int) => qb (MX4_speed n9 S x9) fun a29 => qg (qR a29) <| qg (qR x8) <| ql (fun (v33 : Int) => j20 v27 v33) fun (j34 : Int → Option (Int)) => if x8 ≤ a29 then (j34 x8) else (qb (MX4_speed n9 S x9) fun a37 => j34 a37)) fun (j28 : Int → Option (Int)) => if a23 ≤ x7 then (j28 x7) else (qb (MX4_speed n9 S x9) fun a41 => j28 a41)) else (j20 x7 x8))

def MX4_speeds (n9 : Nat) (S : qS) (p1 : Int) : Option (Int) := ql (fun (x1 : Int) (x2 : Int) => qg (qR x1) <| if x1 = (-1) then (some (-1)) else (some (x1 - x2))) fun (j3 : Int → Int → Option (Int)) => MX4_speeds_l9 n9 S p1 j3 n9 (-1) 601 0

def MX4_train (n9 : Nat) (S : qS) (p1 : Int) (p2 : Int) : Option (Int × qS) := qb (MX4_lay n9 S 117) fun a1 => qg (qR p1) <| qg (qR ((a1 110 22) - 1)) <| qb (MX4_in n9 a1 p1 0 ((a1 110 22) - 1)) fun a5 => qg (qR a5) <| ql (fun (v8 : Int) => qb (MX4_refused n9 a1 v8) fun a10 => qg (qR a10.1) <| if a10.1 = 0 then (qg (qR p2) <| if p2 = 0 then (qg (0 ≤ p1 ∧ p1 < 31) <| some ((a10.2 124 p1.toNat), a10.2)) else if p2 = 1 then (qg (0 ≤ (p1 + 1) ∧ (p1 + 1) < 31) <| qg (0 ≤ p1 ∧ p1 < 31) <| some (((a10.2 124 (p1 + 1).toNat) - (a10.2 124 p1.toNat)), a10.2)) else if p2 = 2 then (qb (MX4_carsOf n9 a10.2 p1) fun a21 => some (a21, a10.2)) else if p2 = 3 then (qb (MX4_trainWeight n9 a10.2 p1) fun a24 => some (a24, a10.2)) else if p2 = 4 then (qg (0 ≤ p1 ∧ p1 < 30) <| some ((a10.2 125 p1.toNat), a10.2)) else if p2 = 5 then (qb (MX4_heaviest n9 a10.2 p1) fun a29 => some (a29, a10.2)) else if p2 = 6 then (qb (MX4_speeds n9 a10.2 p1) fun a32 => some (a32, a10.2)) else (qg (0 ≤ (5 + p1) ∧ (5 + p1) < 95) <| qg (qR (a10.2 117 (5 + p1).toNat)) <| if (a10.2 117 (5 + p1).toNat) ≤ 0 then (some ((-1), a10.2)) else (qg (0 ≤ (5 + p1) ∧ (5 + p1) < 95) <| some ((a10.2 117 (5 + p1).toNat), a10.2)))) else (some (0, a10.2))) fun (j9 : Int → Option (Int × qS)) => if a5 = 0 then (j9 1) else (qg (qR p2) <| qb (MX4_in n9 a1 p2 0 7) fun a41 => qg (qR a41) <| if a41 = 0 then (j9 2) else (j9 0))

def MX4_setting (n9 : Nat) (S : qS) (p1 : Int) : Option (Int × qS) := qg (qR p1) <| qb (MX4_in n9 S p1 0 3) fun a2 => qg (qR a2) <| ql (fun (v5 : Int) => qb (MX4_refused n9 S v5) fun a7 => qg (qR a7.1) <| if a7.1 = 0 then (qg (0 ≤ (1 + p1) ∧ (1 + p1) < 95) <| some ((a7.2 117 (1 + p1).toNat), a7.2)) else (some (0, a7.2))) fun (j6 : Int → Option (Int × qS)) => if a2 = 0 then (j6 1) else (j6 0)

def MX4_isPause (n9 : Nat) (S : qS) (p0 : Int) : Option (Int) := qg (qR p0) <| qb (MX4_in n9 S p0 1 60) fun a2 => qg (a2 = 0 ∨ a2 = 1) <| some a2

def MX4_isWeight (n9 : Nat) (S : qS) (p0 : Int) : Option (Int) := qg (qR p0) <| qb (MX4_in n9 S p0 1 99) fun a2 => qg (a2 = 0 ∨ a2 = 1) <| some a2

def MX4_roll (n9 : Nat) (S : qS) (p1 : Int) (p2 : Int) : Option (Int × qS) := qb (MX4_isPause n9 S p1) fun a1 => qg (qR a1) <| ql (fun (v4 : Int) => qg (qR v4) <| ql (fun (v7 : Int) => qb (MX4_refused n9 S v7) fun a9 => qg (qR a9.1) <| if a9.1 = 0 then (qb (MX4_remember n9 a9.2 ) fun a13 => qb (MX4_rollIn n9 a13 117 p1 p2) fun a15 => some (a15.1, a15.2)) else (some (0, a9.2))) fun (j8 : Int → Option (Int × qS)) => if v4 = 0 then (j8 1) else (qg (0 ≤ (0 : Int) ∧ (0 : Int) < 95) <| qg (qR (S 117 (0 : Int).toNat)) <| if (S 117 (0 : Int).toNat) = 30 then (j8 2) else (j8 0))) fun (j5 : Int → Option (Int × qS)) => ql (j5 0) fun (j23 : Option (Int × qS)) => if a1 = 0 then (j23) else (qb (MX4_isWeight n9 S p2) fun a26 => qg (qR a26) <| if a26 = 0 then (j23) else (j5 1))

def MX4_record_l54 (n9 : Nat) (k88 : qS → Option (Int × qS)) : Nat → qS → Int → Option (Int × qS)
  | 0, _, _ => none
  | f + 1, S19, x20 => qg (qR x20) <| qg (qR (S19 110 7)) <| if (S19 110 7) ≤ x20 then (k88 S19) else (qg (0 ≤ x20 ∧ x20 < 30) <| qg (0 ≤ x20 ∧ x20 < 30) <| qb (MX4_rollIn n9 S19 117 (S19 112 x20.toNat) (S19 113 x20.toNat)) fun a26 => MX4_record_l54 n9 k88 f a26.2 (x20 + 1))

def MX4_record (n9 : Nat) (S : qS) : Option (Int × qS) := qb (MX4_readText n9 S ) fun a1 => qg (qR a1.1) <| ql (fun (v4 : Int) => qg (qR v4) <| ql (fun (v7 : Int) => qb (MX4_refused n9 a1.2 v7) fun a9 => qg (qR a9.1) <| if a9.1 = 0 then (qb (MX4_remember n9 a9.2 ) fun a13 => ql (fun (S15 : qS) => qg (0 ≤ (0 : Int) ∧ (0 : Int) < 95) <| some ((S15 117 (0 : Int).toNat), S15)) fun (j16 : qS → Option (Int × qS)) => MX4_record_l54 n9 j16 n9 a13 0) else (some (0, a9.2))) fun (j8 : Int → Option (Int × qS)) => if v4 = 0 then (j8 1) else (j8 0)) fun (j5 : Int → Option (Int × qS)) => ql (j5 0) fun (j31 : Option (Int × qS)) => if a1.1 = (-1) then (qg (0 ≤ (0 : Int) ∧ (0 : Int) < 95) <| qg (qR ((a1.2 117 (0 : Int).toNat) + (a1.2 110 7))) <| if 30 < ((a1.2 117 (0 : Int).toNat) + (a1.2 110 7)) then (j31) else (j5 1)) else (j31)

def MX4_strike (n9 : Nat) (S : qS) (p1 : Int) : Option (Int × qS) := qb (MX4_isAxle n9 S p1) fun a1 => qg (qR a1) <| ql (fun (v4 : Int) => qb (MX4_refused n9 S v4) fun a6 => qg (qR a6.1) <| if a6.1 = 0 then (qb (MX4_remember n9 a6.2 ) fun a10 => qb (MX4_strikeIn n9 a10 117 p1) fun a12 => some (a12.1, a12.2)) else (some (0, a6.2))) fun (j5 : Int → Option (Int × qS)) => if a1 = 0 then (j5 1) else (j5 0)

def MX4_weigh (n9 : Nat) (S : qS) (p1 : Int) (p2 : Int) : Option (Int × qS) := qb (MX4_isAxle n9 S p1) fun a1 => qg (qR a1) <| ql (fun (v4 : Int) => qb (MX4_refused n9 S v4) fun a6 => qg (qR a6.1) <| if a6.1 = 0 then (qb (MX4_remember n9 a6.2 ) fun a10 => qg (0 ≤ (65 + p1) ∧ (65 + p1) < 95) <| ql (a10 117 (65 + p1).toNat) fun x13 => qg (0 ≤ (65 + p1) ∧ (65 + p1) < 95) <| ql (q2 a10 117 (65 + p1).toNat p2) fun S16 => some (x13, S16)) else (some (0, a6.2))) fun (j5 : Int → Option (Int × qS)) => if a1 = 0 then (j5 1) else (qb (MX4_isWeight n9 S p2) fun a20 => qg (qR a20) <| if a20 = 0 then (j5 2) else (j5 0))

def MX4_bill (n9 : Nat) (S : qS) (p1 : Int) (p2 : Int) : Option (Int × qS) := qg (qR p1) <| qb (MX4_in n9 S p1 0 29) fun a2 => qg (qR a2) <| ql (fun (v5 : Int) => qb (MX4_refused n9 S v5) fun a7 => qg (qR a7.1) <| if a7.1 = 0 then (qb (MX4_remember n9 a7.2 ) fun a11 => qg (0 ≤ (5 + p1) ∧ (5 + p1) < 95) <| ql (a11 117 (5 + p1).toNat) fun x14 => qg (0 ≤ (5 + p1) ∧ (5 + p1) < 95) <| ql (q2 a11 117 (5 + p1).toNat p2) fun S17 => qg (qR x14) <| if x14 ≤ 0 then (some ((-1), S17)) else (some (x14, S17))) else (some (0, a7.2))) fun (j6 : Int → Option (Int × qS)) => ql (j6 1) fun (j22 : Option (Int × qS)) => if a2 = 0 then (j22) else (qg (qR p2) <| qb (MX4_in n9 S p2 0 9999) fun a26 => qg (qR a26) <| if a26 = 0 then (j22) else (j6 0))

def MX4_isSetting (n9 : Nat) (S : qS) (p0 : Int) (p1 : Int) : Option (Int) := qg (qR p0) <| ql (some 1) fun (j2 : Option (Int)) => ql (ql (ql (if p0 = 3 then (qg (qR p1) <| qb (MX4_in n9 S p1 2 60) fun a9 => qg (qR a9) <| if a9 = 0 then (some 0) else (j2)) else (some 0)) fun (j6 : Option (Int)) => if p0 = 2 then (qg (qR p1) <| qb (MX4_in n9 S p1 0 60) fun a16 => qg (qR a16) <| if a16 = 0 then (j6) else (j2)) else (j6)) fun (j5 : Option (Int)) => if p0 = 1 then (qg (qR p1) <| qb (MX4_in n9 S p1 1 40) fun a23 => qg (qR a23) <| if a23 = 0 then (j5) else (j2)) else (j5)) fun (j4 : Option (Int)) => if p0 = 0 then (qg (qR p1) <| qb (MX4_in n9 S p1 1 20) fun a30 => qg (qR a30) <| if a30 = 0 then (j4) else (j2)) else (j4)

def MX4_set (n9 : Nat) (S : qS) (p1 : Int) (p2 : Int) : Option (Int × qS) := qb (MX4_isSetting n9 S p1 p2) fun a1 => qg (qR a1) <| ql (fun (v4 : Int) => qb (MX4_refused n9 S v4) fun a6 => qg (qR a6.1) <| if a6.1 = 0 then (qb (MX4_remember n9 a6.2 ) fun a10 => qg (0 ≤ (1 + p1) ∧ (1 + p1) < 95) <| ql (a10 117 (1 + p1).toNat) fun x13 => qg (0 ≤ (1 + p1) ∧ (1 + p1) < 95) <| ql (q2 a10 117 (1 + p1).toNat p2) fun S16 => some (x13, S16)) else (some (0, a6.2))) fun (j5 : Int → Option (Int × qS)) => if a1 = 0 then (j5 1) else (j5 0)

def MX4_leave (n9 : Nat) (S : qS) : Option (Int × qS) := qg (0 ≤ (0 : Int) ∧ (0 : Int) < 95) <| qg (qR (S 117 (0 : Int).toNat)) <| ql (fun (v3 : Int) => qb (MX4_refused n9 S v3) fun a5 => qg (qR a5.1) <| if a5.1 = 0 then (qb (MX4_remember n9 a5.2 ) fun a9 => qb (MX4_leaveIn n9 a9 117) fun a11 => some (a11.1, a11.2)) else (some (0, a5.2))) fun (j4 : Int → Option (Int × qS)) => if (S 117 (0 : Int).toNat) = 0 then (j4 1) else (j4 0)

def MX4_undo (n9 : Nat) (S : qS) : Option (Int × qS) := qg (qR (S 110 15)) <| ql (fun (v2 : Int) => qb (MX4_refused n9 S v2) fun a4 => qg (qR a4.1) <| if a4.1 = 0 then (ql (q2 a4.2 110 15 ((a4.2 110 15) - 1)) fun S8 => qb (MX4_copy n9 S8 119 (95 * (S8 110 15)) 117 0 95) fun a10 => some ((a10 110 15), a10)) else (some (0, a4.2))) fun (j3 : Int → Option (Int × qS)) => if (S 110 15) = 0 then (j3 1) else (j3 0)

def MX4_without (n9 : Nat) (S : qS) (p1 : Int) : Option (Int × qS) := qb (MX4_isAxle n9 S p1) fun a1 => qg (qR a1) <| ql (fun (v4 : Int) => qb (MX4_refused n9 S v4) fun a6 => qg (qR a6.1) <| if a6.1 = 0 then (qb (MX4_tryIt n9 a6.2 ) fun a10 => qb (MX4_strikeIn n9 a10 118 p1) fun a12 => qb (MX4_lay n9 a12.2 118) fun a14 => qb (MX4_allWeight n9 a14 118) fun a16 => some (a16, a14)) else (some (0, a6.2))) fun (j5 : Int → Option (Int × qS)) => if a1 = 0 then (j5 1) else (j5 0)

def MX4_suspect_l22 (n9 : Nat)  : Nat → qS → Int → Int → Int → Option (Int × qS)
  | 0, _, _, _, _ => none
  | f + 1, S7, x8, x9, x10 => qg (0 ≤ (0 : Int) ∧ (0 : Int) < 95) <| qg (qR x10) <| qg (qR (S7 117 (0 : Int).toNat)) <| if (S7 117 (0 : Int).toNat) ≤ x10 then (some (x9, S7)) else (qb (MX4_tryIt n9 S7 ) fun a15 => qb (MX4_strikeIn n9 a15 118 x10) fun a17 => qb (MX4_lay n9 a17.2 118) fun a19 => qg (qR (a19 110 25)) <| qg (qR x8) <| ql (fun (v23 : Int) => ql (fun (v25 : Int) => MX4_suspect_l22 n9 f a19 v25 v23 (x10 + 1)) fun (j26 : Int → Option (Int × qS)) => if x8 ≤ (a19 110 25) then (j26 x8) else (j26 (a19 110 25))) fun (j24 : Int → Option (Int × qS)) => if x8 ≤ (a19 110 25) then (j24 x9) else (j24 x10))

def MX4_suspect (n9 : Nat) (S : qS) : Option (Int × qS) := ql (q2 S 110 0 0) fun S1 => qb (MX4_lay n9 S1 117) fun a3 => ql (a3 110 25) fun x5 => MX4_suspect_l22 n9 n9 a3 x5 (-1) 0

def MX4_bestBase_l11 (n9 : Nat)  : Nat → qS → Int → Int → Int → Option (Int × qS)
  | 0, _, _, _, _ => none
  | f + 1, S3, x4, x5, x6 => qg (qR x6) <| if 20 < x6 then (some (x4, S3)) else (qb (MX4_tryIt n9 S3 ) fun a9 => qg (0 ≤ (1 : Int) ∧ (1 : Int) < 95) <| ql (q2 a9 118 (1 : Int).toNat x6) fun S12 => qb (MX4_lay n9 S12 118) fun a14 => qg (qR x4) <| ql (fun (v17 : Int) => qg (qR v17) <| ql (fun (v20 : Int) => ql (fun (v22 : Int) => MX4_bestBase_l11 n9 f a14 v20 v22 (x6 + 1)) fun (j23 : Int → Option (Int × qS)) => if v17 = 0 then (j23 x5) else (j23 (a14 110 25))) fun (j21 : Int → Option (Int × qS)) => if v17 = 0 then (j21 x4) else (j21 x6)) fun (j18 : Int → Option (Int × qS)) => ql (j18 1) fun (j29 : Option (Int × qS)) => if x4 = (-1) then (j29) else (qg (qR (a14 110 25)) <| qg (qR x5) <| if x5 ≤ (a14 110 25) then (j18 0) else (j29)))

def MX4_bestBase (n9 : Nat) (S : qS) : Option (Int × qS) := ql (q2 S 110 0 0) fun S1 => MX4_bestBase_l11 n9 n9 S1 (-1) 0 1

def MX4_sureness (n9 : Nat) (S : qS) (p1 : Int) : Option (Int × qS) := qb (MX4_isAxle n9 S p1) fun a1 => qg (qR a1) <| ql (fun (v4 : Int) => qb (MX4_refused n9 S v4) fun a6 => qg (qR a6.1) <| if a6.1 = 0 then (qb (MX4_lay n9 a6.2 117) fun a10 => qb (MX4_trainOf n9 a10 p1) fun a12 => qg (0 ≤ a12 ∧ a12 < 31) <| qg (0 ≤ (a12 + 1) ∧ (a12 + 1) < 31) <| qb (MX4_layRest n9 a10 117 (a10 124 a12.toNat) (a10 124 (a12 + 1).toNat) p1) fun a16 => qg (0 ≤ a12 ∧ a12 < 30) <| some ((a16.1 - (a16.2 125 a12.toNat)), a16.2)) else (some (0, a6.2))) fun (j5 : Int → Option (Int × qS)) => if a1 = 0 then (j5 1) else (j5 0)

def MX4_plans_l52 (p1 : Int) (a10 : Int × qS) (k81 : Int → Option (Int × qS)) : Nat → Int → Int → Int → Option (Int × qS)
  | 0, _, _, _ => none
  | f + 1, x22, x23, x24 => qg (0 ≤ (p1 + 1) ∧ (p1 + 1) < 31) <| qg (qR x24) <| qg (qR (a10.2 124 (p1 + 1).toNat)) <| if (a10.2 124 (p1 + 1).toNat) ≤ x24 then (k81 x22) else (ql (x22 + x23) fun x29 => MX4_plans_l52 p1 a10 k81 f x29 x22 (x24 + 1))

def MX4_plans (n9 : Nat) (S : qS) (p1 : Int) : Option (Int × qS) := qb (MX4_lay n9 S 117) fun a1 => qg (qR p1) <| qg (qR ((a1 110 22) - 1)) <| qb (MX4_in n9 a1 p1 0 ((a1 110 22) - 1)) fun a5 => qg (qR a5) <| ql (fun (v8 : Int) => qb (MX4_refused n9 a1 v8) fun a10 => qg (qR a10.1) <| if a10.1 = 0 then (qg (0 ≤ p1 ∧ p1 < 31) <| ql ((a10.2 124 p1.toNat) + 1) fun x15 => ql (fun (x17 : Int) => qg (qR x17) <| if x17 ≤ 999999 then (some (x17, a10.2)) else (some (999999, a10.2))) fun (j18 : Int → Option (Int × qS)) => MX4_plans_l52 p1 a10 j18 n9 1 1 x15) else (some (0, a10.2))) fun (j9 : Int → Option (Int × qS)) => if a5 = 0 then (j9 1) else (j9 0)

def MX4_heavy_l30 (n9 : Nat) (p1 : Int) (a8 : qS)  : Nat → Int → Int → Option (Int × qS)
  | 0, _, _ => none
  | f + 1, x10, x11 => qg (qR x11) <| qg (qR (a8 110 24)) <| if (a8 110 24) ≤ x11 then (some (x10, a8)) else (qg (0 ≤ x11 ∧ x11 < 15) <| qb (MX4_carWeight n9 a8 117 (a8 126 x11.toNat)) fun a16 => qg (qR a16) <| qg (qR p1) <| ql (fun (v20 : Int) => ql (qior x10 v20) fun x22 => MX4_heavy_l30 n9 p1 a8 f x22 (x11 + 1)) fun (j21 : Int → Option (Int × qS)) => if a16 < p1 then (j21 0) else (qg (0 ≤ x11 ∧ x11 < 15) <| j21 (qishl 3 (a8 126 x11.toNat))))

def MX4_heavy (n9 : Nat) (S : qS) (p1 : Int) : Option (Int × qS) := qg (qR p1) <| ql (fun (v2 : Int) => qb (MX4_refused n9 S v2) fun a4 => qg (qR a4.1) <| if a4.1 = 0 then (qb (MX4_lay n9 a4.2 117) fun a8 => MX4_heavy_l30 n9 p1 a8 n9 0 0) else (some (0, a4.2))) fun (j3 : Int → Option (Int × qS)) => if 0 ≤ p1 then (j3 0) else (j3 1)

def MX4_rolls (n9 : Nat) (S : qS) (p1 : Int) (p2 : Int) : Option (Int × qS) := qb (MX4_isPause n9 S p1) fun a1 => qg (qR a1) <| if a1 = 0 then (some (0, S)) else (qb (MX4_isWeight n9 S p2) fun a5 => qg (qR a5) <| if a5 = 0 then (some (0, S)) else (qg (0 ≤ (0 : Int) ∧ (0 : Int) < 95) <| qg (qR (S 118 (0 : Int).toNat)) <| if (S 118 (0 : Int).toNat) = 30 then (some (0, S)) else (qb (MX4_rollIn n9 S 118 p1 p2) fun a12 => some (1, a12.2))))

def MX4_strikes (n9 : Nat) (S : qS) (p1 : Int) : Option (Int × qS) := qg (0 ≤ (0 : Int) ∧ (0 : Int) < 95) <| qg (qR p1) <| qg (qR (S 118 (0 : Int).toNat)) <| if p1 < (S 118 (0 : Int).toNat) then (qb (MX4_strikeIn n9 S 118 p1) fun a5 => some (1, a5.2)) else (some (0, S))

def MX4_weighs (n9 : Nat) (S : qS) (p1 : Int) (p2 : Int) : Option (Int × qS) := qg (0 ≤ (0 : Int) ∧ (0 : Int) < 95) <| qg (qR p1) <| qg (qR (S 118 (0 : Int).toNat)) <| if (S 118 (0 : Int).toNat) ≤ p1 then (some (0, S)) else (qb (MX4_isWeight n9 S p2) fun a5 => qg (qR a5) <| if a5 = 0 then (some (0, S)) else (qg (0 ≤ (65 + p1) ∧ (65 + p1) < 95) <| ql (q2 S 118 (65 + p1).toNat p2) fun S10 => some (1, S10)))

def MX4_sets (n9 : Nat) (S : qS) (p1 : Int) (p2 : Int) : Option (Int × qS) := qb (MX4_isSetting n9 S p1 p2) fun a1 => qg (qR a1) <| if a1 = 0 then (some (0, S)) else (qg (0 ≤ (1 + p1) ∧ (1 + p1) < 95) <| ql (q2 S 118 (1 + p1).toNat p2) fun S6 => some (1, S6))

def MX4_leaves (n9 : Nat) (S : qS) : Option (Int × qS) := qg (0 ≤ (0 : Int) ∧ (0 : Int) < 95) <| qg (qR (S 118 (0 : Int).toNat)) <| if (S 118 (0 : Int).toNat) = 0 then (some (0, S)) else (qb (MX4_leaveIn n9 S 118) fun a4 => some (1, a4.2))

def MX4_does (n9 : Nat) (S : qS) (p1 : Int) : Option (Int × qS) := qg (0 ≤ p1 ∧ p1 < 2147483648 ∧ 0 < (10000 : Int) ∧ (10000 : Int) < 2147483648) <| ql (p1 / 10000) fun x2 => qg (0 ≤ p1 ∧ p1 < 2147483648 ∧ 0 < (100 : Int) ∧ (100 : Int) < 2147483648) <| qg (0 ≤ (p1 / 100) ∧ (p1 / 100) < 2147483648 ∧ 0 < (100 : Int) ∧ (100 : Int) < 2147483648) <| ql ((p1 / 100) % 100) fun x6 => qg (0 ≤ p1 ∧ p1 < 2147483648 ∧ 0 < (100 : Int) ∧ (100 : Int) < 2147483648) <| ql (p1 % 100) fun x9 => qb (MX4_lay n9 S 118) fun a11 => qg (qR x2) <| if x2 = 1 then (qb (MX4_rolls n9 a11 x6 x9) fun a15 => qg (a15.1 = 0 ∨ a15.1 = 1) <| some (a15.1, a15.2)) else if x2 = 2 then (qg (qR x9) <| if x9 = 0 then (qb (MX4_strikes n9 a11 x6) fun a21 => qg (qR a21.1) <| if a21.1 = 0 then (some (0, a21.2)) else (some (1, a21.2))) else (some (0, a11))) else if x2 = 3 then (qb (MX4_weighs n9 a11 x6 x9) fun a26 => qg (a26.1 = 0 ∨ a26.1 = 1) <| some (a26.1, a26.2)) else if x2 = 4 then (qg (0 ≤ p1 ∧ p1 < 2147483648 ∧ 0 < (10 : Int) ∧ (10 : Int) < 2147483648) <| qg (qR (p1 % 10)) <| if (p1 % 10) = 0 then (qg (0 ≤ x6 ∧ x6 < 2147483648 ∧ 0 < (10 : Int) ∧ (10 : Int) < 2147483648) <| qg (0 ≤ p1 ∧ p1 < 2147483648 ∧ 0 < (10 : Int) ∧ (10 : Int) < 2147483648) <| qg (0 ≤ (p1 / 10) ∧ (p1 / 10) < 2147483648 ∧ 0 < (100 : Int) ∧ (100 : Int) < 2147483648) <| qb (MX4_sets n9 a11 (x6 / 10) ((p1 / 10) % 100)) fun a36 => qg (qR a36.1) <| if a36.1 = 0 then (some (0, a36.2)) else (some (1, a36.2))) else (some (0, a11))) else if x2 = 5 then (qg (0 ≤ p1 ∧ p1 < 2147483648 ∧ 0 < (10000 : Int) ∧ (10000 : Int) < 2147483648) <| qg (qR (p1 % 10000)) <| if (p1 % 10000) = 0 then (qb (MX4_leaves n9 a11 ) fun a44 => qg (qR a44.1) <| if a44.1 = 0 then (some (0, a44.2)) else (some (1, a44.2))) else (some (0, a11))) else if x2 = 6 then (qg (qR x6) <| if x6 = 0 then (qg (qR (a11 110 24)) <| qg (qR x9) <| if (a11 110 24) < x9 then (some (0, a11)) else (some (1, a11))) else (some (0, a11))) else if x2 = 7 then (qg (qR x6) <| if x6 = 0 then (qg (0 ≤ (0 : Int) ∧ (0 : Int) < 95) <| qg (qR ((a11 118 (0 : Int).toNat) - (2 * (a11 110 24)))) <| qg (qR x9) <| if x9 < ((a11 118 (0 : Int).toNat) - (2 * (a11 110 24))) then (some (0, a11)) else (some (1, a11))) else (some (0, a11))) else if x2 = 8 then (qb (MX4_allWeight n9 a11 118) fun a62 => qg (0 ≤ p1 ∧ p1 < 2147483648 ∧ 0 < (10000 : Int) ∧ (10000 : Int) < 2147483648) <| qg (qR a62) <| qg (qR (p1 % 10000)) <| if a62 < (p1 % 10000) then (some (0, a11)) else (some (1, a11))) else if x2 = 9 then (qg (0 ≤ (0 : Int) ∧ (0 : Int) < 95) <| qg (qR x6) <| qg (qR (a11 118 (0 : Int).toNat)) <| if (a11 118 (0 : Int).toNat) ≤ x6 then (some (0, a11)) else (qg (qR x9) <| if 2 ≤ x9 then (some (0, a11)) else (qb (MX4_carOf n9 a11 x6) fun a75 => qg (qR a75) <| ql (fun (v78 : Int) => ql (fun (v80 : Int) => qg (qR v78) <| qg (qR v80) <| if v78 = v80 then (some (1, a11)) else (some (0, a11))) fun (j81 : Int → Option (Int × qS)) => if x9 = 1 then (j81 1) else (j81 0)) fun (j79 : Int → Option (Int × qS)) => if a75 = (-1) then (j79 0) else (j79 1)))) else (some (0, a11))

def MX4_runScript_l62 (n9 : Nat) (p1 : Int) (p2 : Int)  : Nat → qS → Int → Option (Int × qS)
  | 0, _, _ => none
  | f + 1, S13, x14 => qg (qR x14) <| qg (qR p1) <| if p1 ≤ x14 then (some ((-1), S13)) else (qb (MX4_tenTo n9 S13 (5 * ((p1 - 1) - x14))) fun a18 => qg (0 ≤ p2 ∧ p2 < 9223372036854775808 ∧ 0 < a18 ∧ a18 < 9223372036854775808) <| qg (0 ≤ (p2 / a18) ∧ (p2 / a18) < 9223372036854775808 ∧ 0 < (100000 : Int) ∧ (100000 : Int) < 9223372036854775808) <| qb (MX4_does n9 S13 ((p2 / a18) % 100000)) fun a22 => qg (qR a22.1) <| if a22.1 = 0 then (some (x14, a22.2)) else (MX4_runScript_l62 n9 p1 p2 f a22.2 (x14 + 1)))

def MX4_runScript (n9 : Nat) (S : qS) (p1 : Int) (p2 : Int) : Option (Int × qS) := qg (qR p1) <| qb (MX4_in n9 S p1 1 3) fun a2 => qg (qR a2) <| ql (fun (v5 : Int) => qb (MX4_refused n9 S v5) fun a7 => qg (qR a7.1) <| if a7.1 = 0 then (qb (MX4_tryIt n9 a7.2 ) fun a11 => MX4_runScript_l62 n9 p1 p2 n9 a11 0) else (some (0, a7.2))) fun (j6 : Int → Option (Int × qS)) => ql (j6 1) fun (j27 : Option (Int × qS)) => if a2 = 0 then (j27) else (ql (fun (v30 : Int) => qb (MX4_tenTo n9 S v30) fun a32 => qb (MX4_in n9 S p2 0 (a32 - 1)) fun a34 => qg (qR a34) <| if a34 = 0 then (j27) else (j6 0)) fun (j31 : Int → Option (Int × qS)) => if a2 = 0 then (j31 0) else (j31 (5 * p1)))

def MX4_pauseOf (n9 : Nat) (S : qS) (p1 : Int) : Option (Int) := qg (0 ≤ p1 ∧ p1 < 2147483648 ∧ 0 < (8 : Int) ∧ (8 : Int) < 2147483648) <| qg (qR (p1 % 8)) <| if (p1 % 8) = 0 then (qg (0 ≤ p1 ∧ p1 < 2147483648 ∧ 0 < (2048 : Int) ∧ (2048 : Int) < 2147483648) <| qg (0 ≤ (p1 / 2048) ∧ (p1 / 2048) < 2147483648 ∧ 0 < (60 : Int) ∧ (60 : Int) < 2147483648) <| some (1 + ((p1 / 2048) % 60))) else (qg (0 ≤ p1 ∧ p1 < 2147483648 ∧ 0 < (2 : Int) ∧ (2 : Int) < 2147483648) <| qg (qR (p1 % 2)) <| ql (fun (v8 : Int) => qg (qR v8) <| if v8 ≤ 60 then (some v8) else (some 60)) fun (j9 : Int → Option (Int)) => if (p1 % 2) = 1 then (qg (0 ≤ (1 : Int) ∧ (1 : Int) < 95) <| j9 (S 118 (1 : Int).toNat)) else (qg (0 ≤ (2 : Int) ∧ (2 : Int) < 95) <| qg (0 ≤ p1 ∧ p1 < 2147483648 ∧ 0 < (2048 : Int) ∧ (2048 : Int) < 2147483648) <| qg (0 ≤ (p1 / 2048) ∧ (p1 / 2048) < 2147483648 ∧ 0 < (4 : Int) ∧ (4 : Int) < 2147483648) <| j9 ((S 118 (2 : Int).toNat) + ((p1 / 2048) % 4))))

def MX4_simulate_l40 (n9 : Nat) (p3 : Int) (k135 : qS → Option (Int × qS)) : Nat → qS → Int → Int → Int → Option (Int × qS)
  | 0, _, _, _, _ => none
  | f + 1, S22, x23, x24, x25 => qg (qR x25) <| qg (qR p3) <| if p3 ≤ x25 then (k135 S22) else (ql ((x23 * 6364136223846793005) + 1442695040888963407) fun x29 => ql (qlushr x29 33) fun x31 => qg (0 ≤ x31 ∧ x31 < 2147483648 ∧ 0 < (8 : Int) ∧ (8 : Int) < 2147483648) <| qg (0 ≤ (x31 / 8) ∧ (x31 / 8) < 2147483648 ∧ 0 < (2 : Int) ∧ (2 : Int) < 2147483648) <| qg (qR ((x31 / 8) % 2)) <| ql (fun (v36 : Int) => qg (0 ≤ (0 : Int) ∧ (0 : Int) < 95) <| qg (qR (S22 118 (0 : Int).toNat)) <| ql (fun (S40 : qS) => qb (MX4_pauseOf n9 S40 x31) fun a42 => qb (MX4_rollIn n9 S40 118 a42 v36) fun a44 => MX4_simulate_l40 n9 p3 k135 f a44.2 x29 v36 (x25 + 1)) fun (j41 : qS → Option (Int × qS)) => if (S22 118 (0 : Int).toNat) = 30 then (qb (MX4_leaveIn n9 S22 118) fun a48 => j41 a48.2) else (j41 S22)) fun (j37 : Int → Option (Int × qS)) => if ((x31 / 8) % 2) = 0 then (qg (0 ≤ x31 ∧ x31 < 2147483648 ∧ 0 < (16 : Int) ∧ (16 : Int) < 2147483648) <| qg (0 ≤ (x31 / 16) ∧ (x31 / 16) < 2147483648 ∧ 0 < (99 : Int) ∧ (99 : Int) < 2147483648) <| j37 (1 + ((x31 / 16) % 99))) else (j37 x24))

def MX4_simulate (n9 : Nat) (S : qS) (p1 : Int) (p3 : Int) : Option (Int × qS) := qg (qR p3) <| qb (MX4_in n9 S p3 1 60) fun a2 => qg (qR a2) <| ql (fun (v5 : Int) => qb (MX4_refused n9 S v5) fun a7 => qg (qR a7.1) <| if a7.1 = 0 then (qb (MX4_tryIt n9 a7.2 ) fun a11 => ql (fun (S13 : qS) => qb (MX4_lay n9 S13 118) fun a15 => qb (MX4_allWeight n9 a15 118) fun a17 => qg (qR a17) <| if a17 ≤ 999 then (some (((1000 * (a15 110 24)) + a17), a15)) else (some (((1000 * (a15 110 24)) + 999), a15))) fun (j14 : qS → Option (Int × qS)) => MX4_simulate_l40 n9 p3 j14 n9 a11 p1 40 0) else (some (0, a7.2))) fun (j6 : Int → Option (Int × qS)) => if a2 = 0 then (j6 1) else (j6 0)

def MX4_save (n9 : Nat) (S : qS) (p1 : Int) : Option (Int × qS) := qg (qR p1) <| qb (MX4_in n9 S p1 0 1) fun a2 => qg (qR a2) <| ql (fun (v5 : Int) => qb (MX4_refused n9 S v5) fun a7 => qg (qR a7.1) <| if a7.1 = 0 then (qb (MX4_copy n9 a7.2 117 0 120 (95 * p1) 95) fun a11 => qg (0 ≤ p1 ∧ p1 < 2) <| ql (q2 a11 121 p1.toNat 1) fun S14 => qg (0 ≤ (0 : Int) ∧ (0 : Int) < 95) <| some ((S14 117 (0 : Int).toNat), S14)) else (some (0, a7.2))) fun (j6 : Int → Option (Int × qS)) => if a2 = 0 then (j6 1) else (j6 0)

def MX4_restore (n9 : Nat) (S : qS) (p1 : Int) : Option (Int × qS) := qg (qR p1) <| qb (MX4_in n9 S p1 0 1) fun a2 => qg (qR a2) <| ql (fun (v5 : Int) => qb (MX4_refused n9 S v5) fun a7 => qg (qR a7.1) <| if a7.1 = 0 then (qb (MX4_copy n9 a7.2 120 (95 * p1) 117 0 95) fun a11 => ql (q2 a11 110 15 0) fun S13 => qg (0 ≤ (0 : Int) ∧ (0 : Int) < 95) <| some ((S13 117 (0 : Int).toNat), S13)) else (some (0, a7.2))) fun (j6 : Int → Option (Int × qS)) => if a2 = 0 then (j6 1) else (qg (0 ≤ p1 ∧ p1 < 2) <| qg (qR (S 121 p1.toNat)) <| if (S 121 p1.toNat) = 0 then (j6 2) else (j6 0))
