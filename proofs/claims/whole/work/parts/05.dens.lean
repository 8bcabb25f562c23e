def d_X8_isSheet (v0 : Int32) (M : Mem) : Option Int32 :=
  (if v0 < 0 then (some (0 : Int32)) else (if (4 : Int32) ≤ v0 then (some (0 : Int32)) else (some (1 : Int32))))

def d_X8_isLane (v0 : Int32) (M : Mem) : Option Int32 :=
  (if v0 < 0 then (some (0 : Int32)) else (if (2 : Int32) < v0 then (some (0 : Int32)) else (some (1 : Int32))))

def d_X5_hasNothing (o0 : Nat) (M : Mem) : Option Int32 :=
  (if (M o0 1) = (-9 : Int32) then (some (1 : Int32)) else (some (0 : Int32)))

def d_X5_faultOfCells (o0 : Nat) (v1 : Int32) (v2 : Int32) (M : Mem) : Option Int32 :=
  (if v1 < 0 then (some (3 : Int32)) else (if (M o0 2) < v1 then (some (3 : Int32)) else (if v2 < 0 then (some (3 : Int32)) else (if v2 ≤ ((M o0 2) - v1) then (some (0 : Int32)) else (some (3 : Int32))))))

def d_X5_faultAsRow (o0 : Nat) (v1 : Int32) (v2 : Int32) (v3 : Int32) (M : Mem) : Option Int32 :=
  (bd1 (d_X5_hasNothing o0 M) (fun (r1 : Int32) => (if r1 = 0 then (if (M o0 1) = v1 then (if 0 ≤ v3 then (bd1 (d_X5_faultOfCells o0 v2 v3 M) (fun (r5 : Int32) => (some r5))) else (some (4 : Int32))) else (some (2 : Int32))) else (some (1 : Int32)))))

def d_X8_faulted (v1 : Int32) (M : Mem) : Option (Int32 × Mem) :=
  (lm (mu M 0 8 v1) (fun (M1 : Mem) => (some (((-10 : Int32) - v1), M1))))

def d_X5_at (o0 : Nat) (v1 : Int32) (M : Mem) : Option Int32 :=
  (if v1 < 0 then (some (0 : Int32)) else (if (M o0 2) ≤ v1 then (some (0 : Int32)) else (if inB v1 60 = true then (some (M (o0 + 1) v1.toNatClampNeg)) else none)))

def d_X7_digit (o0 : Nat) (v1 : Int32) (M : Mem) : Option Int32 :=
  (bd1 (d_X5_at o0 v1 M) (fun (r1 : Int32) => (some (r1 - (48 : Int32)))))

def d_X7_headLength (v0 : Int32) (M : Mem) : Option Int32 :=
  (if (2 : Int32) = 0 then none else (some ((2 : Int32) + ((v0 * (v0 - (1 : Int32))) / (2 : Int32)))))

def d_X7_kindOf (v0 : Int32) (M : Mem) : Option Int32 :=
  (if v0 = (98 : Int32) then (some (0 : Int32)) else (if v0 = (109 : Int32) then (some (1 : Int32)) else (if v0 = (112 : Int32) then (some (2 : Int32)) else (some (-9 : Int32)))))

def d_X7_tellsFootman (v0 : Int32) (v1 : Int32) (v2 : Int32) (M : Mem) : Option Int32 :=
  (if v1 = (0 : Int32) then (if v0 = (59 : Int32) then (some (1 : Int32)) else (some (0 : Int32))) else (if v1 = (1 : Int32) then (bd1 (d_X7_kindOf v0 M) (fun (r6 : Int32) => (if r6 = (-9 : Int32) then (some (0 : Int32)) else (some (1 : Int32))))) else (if v1 = (2 : Int32) then (if v0 < (48 : Int32) then (some (0 : Int32)) else (if ((48 : Int32) + v2) ≤ v0 then (some (0 : Int32)) else (some (1 : Int32)))) else (if v1 = (3 : Int32) then (if v0 < (48 : Int32) then (some (0 : Int32)) else (if ((48 : Int32) + v2) ≤ v0 then (some (0 : Int32)) else (some (1 : Int32)))) else (if v0 < (49 : Int32) then (some (0 : Int32)) else (if (57 : Int32) < v0 then (some (0 : Int32)) else (some (1 : Int32))))))))

def d_X7_goesOn (o0 : Nat) (v1 : Int32) (v2 : Int32) (M : Mem) : Option Int32 :=
  (bd1 (d_X5_at o0 (v1 + v2) M) (fun (r1 : Int32) => (if v2 = 0 then (if r1 = (116 : Int32) then (some (1 : Int32)) else (some (0 : Int32))) else (if v2 = (1 : Int32) then (if r1 < (50 : Int32) then (some (0 : Int32)) else (if (54 : Int32) < r1 then (some (0 : Int32)) else (some (1 : Int32)))) else (bd1 (d_X7_digit o0 (v1 + (1 : Int32)) M) (fun (r4 : Int32) => (bd1 (d_X7_headLength r4 M) (fun (r5 : Int32) => (lm (v2 - r5) (fun (x6 : Int32) => (if 0 ≤ x6 then (if (25 : Int32) ≤ x6 then (some (0 : Int32)) else (if (5 : Int32) = 0 then none else (bd1 (d_X7_tellsFootman r1 (x6 - x6 / (5 : Int32) * (5 : Int32)) r4 M) (fun (r9 : Int32) => (if r9 = 0 then (some (0 : Int32)) else (some (1 : Int32))))))) else (if r1 < (48 : Int32) then (some (0 : Int32)) else (if (57 : Int32) < r1 then (some (0 : Int32)) else (some (1 : Int32)))))))))))))))

def d_X7_isWhole (o0 : Nat) (v1 : Int32) (v2 : Int32) (M : Mem) : Option Int32 :=
  (if (2 : Int32) ≤ v2 then (bd1 (d_X7_digit o0 (v1 + (1 : Int32)) M) (fun (r2 : Int32) => (bd1 (d_X7_headLength r2 M) (fun (r3 : Int32) => (lm (v2 - r3) (fun (x4 : Int32) => (if x4 < (5 : Int32) then (some (0 : Int32)) else (if (5 : Int32) = 0 then none else (if (x4 - x4 / (5 : Int32) * (5 : Int32)) = 0 then (some (1 : Int32)) else (some (0 : Int32))))))))))) else (some (0 : Int32)))

def dX7_firstFault_2l (o0 : Nat) (v1 : Int32) (v2 : Int32) (M : Mem) (k2_24 : Option Int32) : Nat → Int32 → Option Int32
  | 0, _ => none
  | f + 1, v3 =>
  (if v2 ≤ v3 then (k2_24) else (bd1 (d_X7_goesOn o0 v1 v3 M) (fun (r2 : Int32) => (if r2 = 0 then (some v3) else ((dX7_firstFault_2l o0 v1 v2 M k2_24 f) (v3 + (1 : Int32)))))))
def d_X7_firstFault (o0 : Nat) (v1 : Int32) (v2 : Int32) (M : Mem) : Option Int32 :=
  (dX7_firstFault_2l o0 v1 v2 M (bd1 (d_X7_isWhole o0 v1 v2 M) (fun (r4 : Int32) => (if r4 = 0 then (some v2) else (some (-9 : Int32))))) FU (0 : Int32) )

def dX6_renew_16l    : Nat → Int32 → Mem → Option Mem
  | 0, _, _ => none
  | f + 1, v2, M =>
  (if (36 : Int32) ≤ v2 then (some M) else (if inB v2 36 = true then (lm (mu M 3 v2.toNatClampNeg (0 : Int32)) (fun (M3 : Mem) => ((dX6_renew_16l    f) (v2 + (1 : Int32)) M3))) else none))
def d_X6_renew (v1 : Int32) (M : Mem) : Option Mem :=
  (lm (mu M 2 3 (if (0 : Int32) < (if (6 : Int32) < v1 then (6 : Int32) else v1) then (if (6 : Int32) < v1 then (6 : Int32) else v1) else (0 : Int32))) (fun (M1 : Mem) => (dX6_renew_16l    FU (0 : Int32) M1)))

def d_X6_has (v1 : Int32) (M : Mem) : Option Int32 :=
  (if v1 < 0 then (some (0 : Int32)) else (if (M 2 3) ≤ v1 then (some (0 : Int32)) else (some (1 : Int32))))

def d_X6_hasTwo (v1 : Int32) (v2 : Int32) (M : Mem) : Option Int32 :=
  (bd1 (d_X6_has v1 M) (fun (r1 : Int32) => (if r1 = 0 then (some (0 : Int32)) else (bd1 (d_X6_has v2 M) (fun (r3 : Int32) => (if r3 = 0 then (some (0 : Int32)) else (if v1 = v2 then (some (0 : Int32)) else (some (1 : Int32)))))))))

def d_X6_lay (v1 : Int32) (v2 : Int32) (v3 : Int32) (M : Mem) : Option Mem :=
  (bd1 (d_X6_hasTwo v1 v2 M) (fun (r1 : Int32) => (if r1 = 0 then (some M) else (if inB ((v1 * (6 : Int32)) + v2) 36 = true then (lm (mu M 3 ((v1 * (6 : Int32)) + v2).toNatClampNeg v3) (fun (M3 : Mem) => (if inB ((v2 * (6 : Int32)) + v1) 36 = true then (lm (mu M3 3 ((v2 * (6 : Int32)) + v1).toNatClampNeg v3) (fun (M4 : Mem) => (some M4))) else none))) else none))))

def d_X6_length (v1 : Int32) (v2 : Int32) (M : Mem) : Option Int32 :=
  (bd1 (d_X6_has v1 M) (fun (r1 : Int32) => (if r1 = 0 then (some (0 : Int32)) else (bd1 (d_X6_has v2 M) (fun (r3 : Int32) => (if r3 = 0 then (some (0 : Int32)) else (if inB ((v1 * (6 : Int32)) + v2) 36 = true then (some (M 3 ((v1 * (6 : Int32)) + v2).toNatClampNeg)) else none)))))))

def dX6_shortenBy_12l (v1 : Int32) (v2 : Int32)  (k12_80 : Mem → Option Mem) : Nat → Int32 → Mem → Option Mem
  | 0, _, _ => none
  | f + 1, v3, M =>
  (if (M 2 3) ≤ v3 then (k12_80  M) else (if inB ((v2 * (6 : Int32)) + v1) 36 = true then (if inB ((v1 * (6 : Int32)) + v3) 36 = true then (lm ((M 4 ((v2 * (6 : Int32)) + v1).toNatClampNeg) + (M 4 ((v1 * (6 : Int32)) + v3).toNatClampNeg)) (fun (x3 : Int32) => (if inB ((v2 * (6 : Int32)) + v3) 36 = true then (if (M 4 ((v2 * (6 : Int32)) + v3).toNatClampNeg) ≤ x3 then ((dX6_shortenBy_12l v1 v2  k12_80 f) (v3 + (1 : Int32)) M) else (if inB ((v2 * (6 : Int32)) + v3) 36 = true then (lm (mu M 4 ((v2 * (6 : Int32)) + v3).toNatClampNeg x3) (fun (M5 : Mem) => ((dX6_shortenBy_12l v1 v2  k12_80 f) (v3 + (1 : Int32)) M5))) else none)) else none))) else none) else none))
def dX6_shortenBy_2l (v1 : Int32)   : Nat → Int32 → Mem → Option Mem
  | 0, _, _ => none
  | f + 1, v2, M =>
  (if (M 2 3) ≤ v2 then (some M) else (dX6_shortenBy_12l v1 v2  (fun  (M6 : Mem) => ((dX6_shortenBy_2l v1   f) (v2 + (1 : Int32)) M6)) FU (0 : Int32) M))
def d_X6_shortenBy (v1 : Int32) (M : Mem) : Option Mem :=
  (dX6_shortenBy_2l v1   FU (0 : Int32) M)

def dX6_measure_56j (rec12 : Int32 → Mem → Option Mem) (v1 : Int32) (v2 : Int32) (s0 : Int32) (s1 : Int32) (M : Mem) : Option Mem :=
  (if inB s1 36 = true then (lm (mu M 4 s1.toNatClampNeg s0) (fun (M6 : Mem) => (rec12 (v2 + (1 : Int32)) M6))) else none)
def dX6_measure_12l (v1 : Int32)  (k12_63 : Mem → Option Mem) : Nat → Int32 → Mem → Option Mem
  | 0, _, _ => none
  | f + 1, v2, M =>
  (if (M 2 3) ≤ v2 then (k12_63  M) else (bd1 (d_X6_length v1 v2 M) (fun (r3 : Int32) => (if v1 = v2 then (dX6_measure_56j (dX6_measure_12l v1  k12_63 f) v1 v2 (0 : Int32) ((v1 * (6 : Int32)) + v2) M) else (if r3 = 0 then (dX6_measure_56j (dX6_measure_12l v1  k12_63 f) v1 v2 (1000000 : Int32) ((v1 * (6 : Int32)) + v2) M) else (dX6_measure_56j (dX6_measure_12l v1  k12_63 f) v1 v2 r3 ((v1 * (6 : Int32)) + v2) M))))))
def dX6_measure_2l   (k2_69 : Mem → Option Mem) : Nat → Int32 → Mem → Option Mem
  | 0, _, _ => none
  | f + 1, v1, M =>
  (if (M 2 3) ≤ v1 then (k2_69  M) else (dX6_measure_12l v1  (fun  (M7 : Mem) => ((dX6_measure_2l   k2_69 f) (v1 + (1 : Int32)) M7)) FU (0 : Int32) M))
def dX6_measure_71l    : Nat → Int32 → Mem → Option Mem
  | 0, _, _ => none
  | f + 1, v1, M =>
  (if (M 2 3) ≤ v1 then (some M) else (bd1 (d_X6_shortenBy v1 M) (fun (M10 : Mem) => ((dX6_measure_71l    f) (v1 + (1 : Int32)) M10))))
def d_X6_measure  (M : Mem) : Option Mem :=
  (dX6_measure_2l   (fun  (M8 : Mem) => (dX6_measure_71l    FU (0 : Int32) M8)) FU (0 : Int32) M)

def d_X0_add (o0 : Nat) (v1 : Int32) (v2 : Int32) (v3 : Int32) (v4 : Int32) (M : Mem) : Option Mem :=
  (if (M o0 1) < (6 : Int32) then (if inB (M o0 1) 6 = true then (lm (mu M ((ft o0) (M o0 1).toNatClampNeg) 0 v1) (fun (M4 : Mem) => (lm (mu M4 ((ft o0) (M o0 1).toNatClampNeg) 1 v2) (fun (M5 : Mem) => (lm (mu M5 ((ft o0) (M o0 1).toNatClampNeg) 2 v3) (fun (M6 : Mem) => (lm (mu M6 ((ft o0) (M o0 1).toNatClampNeg) 3 v4) (fun (M7 : Mem) => (lm (mu M7 ((ft o0) (M o0 1).toNatClampNeg) 4 (0 : Int32)) (fun (M8 : Mem) => (lm (mu M8 ((ft o0) (M o0 1).toNatClampNeg) 5 (0 : Int32)) (fun (M9 : Mem) => (lm (mu M9 o0 1 ((M9 o0 1) + (1 : Int32))) (fun (M10 : Mem) => (some M10))))))))))))))) else none) else (some M))

def dX7_take_34l (o0 : Nat) (v1 : Int32) (v2 : Int32) (o4 : Nat) (v6 : Int32)  (k34_66 : Int32 → Mem → Option Mem) : Nat → Int32 → Int32 → Mem → Option Mem
  | 0, _, _, _ => none
  | f + 1, v5 , v7, M =>
  (if (M 2 3) ≤ v7 then (k34_66 v5 M) else (bd1 (d_X7_digit o0 v5 M) (fun (r7 : Int32) => (bd1 (d_X6_lay v6 v7 r7 M) (fun (M8 : Mem) => ((dX7_take_34l o0 v1 v2 o4 v6  k34_66 f) (v5 + (1 : Int32)) (v7 + (1 : Int32)) M8))))))
def dX7_take_19l (o0 : Nat) (v1 : Int32) (v2 : Int32) (o4 : Nat)  (k19_72 : Int32 → Mem → Option Mem) : Nat → Int32 → Int32 → Mem → Option Mem
  | 0, _, _, _ => none
  | f + 1, v5 , v6, M =>
  (if (M 2 3) ≤ v6 then (k19_72 v5 M) else (lm (v6 + (1 : Int32)) (fun (x5 : Int32) => (dX7_take_34l o0 v1 v2 o4 v6  (fun (w9 : Int32) (M10 : Mem) => ((dX7_take_19l o0 v1 v2 o4  k19_72 f) w9 (v6 + (1 : Int32)) M10)) FU v5 x5 M))))
def dX7_take_82l (o0 : Nat) (v1 : Int32) (v2 : Int32) (o4 : Nat)   : Nat → Int32 → Mem → Option Mem
  | 0, _, _ => none
  | f + 1, v5, M =>
  (if (v1 + v2) < (v5 + (5 : Int32)) then (some M) else (bd1 (d_X5_at o0 (v5 + (1 : Int32)) M) (fun (r16 : Int32) => (bd1 (d_X7_kindOf r16 M) (fun (r17 : Int32) => (bd1 (d_X7_digit o0 (v5 + (2 : Int32)) M) (fun (r18 : Int32) => (bd1 (d_X7_digit o0 (v5 + (3 : Int32)) M) (fun (r19 : Int32) => (bd1 (d_X7_digit o0 (v5 + (4 : Int32)) M) (fun (r20 : Int32) => (bd1 (d_X0_add o4 r17 r18 r19 r20 M) (fun (M21 : Mem) => ((dX7_take_82l o0 v1 v2 o4   f) (v5 + (5 : Int32)) M21))))))))))))))
def d_X7_take (o0 : Nat) (v1 : Int32) (v2 : Int32) (o4 : Nat) (M : Mem) : Option Mem :=
  (bd1 (d_X7_digit o0 (v1 + (1 : Int32)) M) (fun (r1 : Int32) => (bd1 (d_X6_renew r1 M) (fun (M2 : Mem) => (lm (v1 + (2 : Int32)) (fun (x3 : Int32) => (dX7_take_19l o0 v1 v2 o4  (fun (w11 : Int32) (M12 : Mem) => (bd1 (d_X6_measure  M12) (fun (M13 : Mem) => (lm (mu M13 o4 1 (0 : Int32)) (fun (M14 : Mem) => (dX7_take_82l o0 v1 v2 o4   FU w11 M14)))))) FU x3 (0 : Int32) M2)))))))

def d_X8_town (v1 : Int32) (v2 : Int32) (v3 : Int32) (v4 : Int32) (M : Mem) : Option (Int32 × Mem) :=
  (lm (mu M 0 8 (0 : Int32)) (fun (M1 : Mem) => (bd1 (d_X8_isSheet v1 M1) (fun (r2 : Int32) => (if r2 = 0 then (some ((-1 : Int32), M1)) else (bd1 (d_X8_isLane v2 M1) (fun (r4 : Int32) => (if r4 = 0 then (some ((-2 : Int32), M1)) else (if inB v1 4 = true then (bd1 (d_X5_faultAsRow (shd v1.toNatClampNeg) v2 v3 v4 M1) (fun (r8 : Int32) => (if r8 = 0 then (bd1 (d_X7_firstFault (shd v1.toNatClampNeg) v3 v4 M1) (fun (r10 : Int32) => (if r10 = (-9 : Int32) then (bd1 (d_X7_take (shd v1.toNatClampNeg) v3 v4 6 M1) (fun (M12 : Mem) => (lm (mu M12 25 3 (0 : Int32)) (fun (M13 : Mem) => (lm (mu M13 0 6 (0 : Int32)) (fun (M14 : Mem) => (some ((M14 6 1), M14)))))))) else (some (((-100 : Int32) - r10), M1))))) else (bd2 (d_X8_faulted r8 M1) (fun (r15 : Int32) (M16 : Mem) => (some (r15, M16))))))) else none)))))))))

def d_X0_has (o0 : Nat) (v1 : Int32) (M : Mem) : Option Int32 :=
  (if v1 < 0 then (some (0 : Int32)) else (if (M o0 1) ≤ v1 then (some (0 : Int32)) else (some (1 : Int32))))

def d_X8_paceOf (v0 : Int32) (v1 : Int32) (M : Mem) : Option Int32 :=
  (if v0 = (0 : Int32) then (some v1) else (if v0 = (1 : Int32) then (some (v1 + (1 : Int32))) else (if (2 : Int32) = 0 then none else (some ((v1 + (1 : Int32)) / (2 : Int32))))))

def d_X2_pace (o0 : Nat) (M : Mem) : Option Int32 :=
  (bd1 (d_X8_paceOf (M o0 0) (M o0 3) M) (fun (r1 : Int32) => (some r1)))

def d_X6_distance (v1 : Int32) (v2 : Int32) (M : Mem) : Option Int32 :=
  (bd1 (d_X6_has v1 M) (fun (r1 : Int32) => (if r1 = 0 then (some (-9 : Int32)) else (bd1 (d_X6_has v2 M) (fun (r3 : Int32) => (if r3 = 0 then (some (-9 : Int32)) else (if inB ((v1 * (6 : Int32)) + v2) 36 = true then (lm (M 4 ((v1 * (6 : Int32)) + v2).toNatClampNeg) (fun (x5 : Int32) => (if (1000000 : Int32) ≤ x5 then (some (-9 : Int32)) else (some x5)))) else none)))))))

def d_X2_hasArrived (o0 : Nat) (M : Mem) : Option Int32 :=
  (bd1 (d_X6_distance (M o0 1) (M o0 2) M) (fun (r1 : Int32) => (if r1 = (-9 : Int32) then (some (0 : Int32)) else (if (M o0 4) < r1 then (some (0 : Int32)) else (some (1 : Int32))))))

def d_X8_ofFootman (v1 : Int32) (v2 : Int32) (M : Mem) : Option Int32 :=
  (bd1 (d_X0_has 6 v1 M) (fun (r1 : Int32) => (if r1 = 0 then (some (-1 : Int32)) else (if inB v1 6 = true then (if v2 = (0 : Int32) then (some (M ((ft 6) v1.toNatClampNeg) 0)) else (if v2 = (1 : Int32) then (some (M ((ft 6) v1.toNatClampNeg) 1)) else (if v2 = (2 : Int32) then (some (M ((ft 6) v1.toNatClampNeg) 2)) else (if v2 = (3 : Int32) then (some (M ((ft 6) v1.toNatClampNeg) 3)) else (if v2 = (4 : Int32) then (bd1 (d_X2_pace ((ft 6) v1.toNatClampNeg) M) (fun (r10 : Int32) => (some r10))) else (if v2 = (5 : Int32) then (some (M ((ft 6) v1.toNatClampNeg) 4)) else (if v2 = (6 : Int32) then (if (M ((ft 6) v1.toNatClampNeg) 5) = 0 then (some (0 : Int32)) else (some (1 : Int32))) else (if v2 = (7 : Int32) then (bd1 (d_X2_hasArrived ((ft 6) v1.toNatClampNeg) M) (fun (r15 : Int32) => (if r15 = 0 then (some (0 : Int32)) else (some (1 : Int32))))) else (some (-2 : Int32)))))))))) else none))))

def d_X8_street (v1 : Int32) (v2 : Int32) (M : Mem) : Option Int32 :=
  (bd1 (d_X6_hasTwo v1 v2 M) (fun (r1 : Int32) => (if r1 = 0 then (some (-1 : Int32)) else (bd1 (d_X6_length v1 v2 M) (fun (r3 : Int32) => (some r3))))))

def d_X8_pave (v1 : Int32) (v2 : Int32) (v3 : Int32) (M : Mem) : Option (Int32 × Mem) :=
  (bd1 (d_X6_hasTwo v1 v2 M) (fun (r1 : Int32) => (if r1 = 0 then (some ((-1 : Int32), M)) else (if v3 < 0 then (some ((-2 : Int32), M)) else (if v3 ≤ (9 : Int32) then (bd1 (d_X6_length v1 v2 M) (fun (r5 : Int32) => (bd1 (d_X6_lay v1 v2 v3 M) (fun (M6 : Mem) => (bd1 (d_X6_measure  M6) (fun (M7 : Mem) => (some (r5, M7)))))))) else (some ((-2 : Int32), M)))))))

def d_X8_far (v1 : Int32) (v2 : Int32) (M : Mem) : Option Int32 :=
  (bd1 (d_X6_has v1 M) (fun (r1 : Int32) => (if r1 = 0 then (some (-1 : Int32)) else (bd1 (d_X6_has v2 M) (fun (r3 : Int32) => (if r3 = 0 then (some (-1 : Int32)) else (bd1 (d_X6_distance v1 v2 M) (fun (r5 : Int32) => (some r5)))))))))

def d_X8_hasTown  (M : Mem) : Option Int32 :=
  (if (M 2 3) ≤ 0 then (some (0 : Int32)) else (some (1 : Int32)))

def dX0_countArrived_4l (o0 : Nat) (M : Mem)  : Nat → Int32 → Int32 → Option Int32
  | 0, _, _ => none
  | f + 1, v2 , v3 =>
  (if (M o0 1) ≤ v3 then (some v2) else (if inB v3 6 = true then (bd1 (d_X2_hasArrived ((ft o0) v3.toNatClampNeg) M) (fun (r4 : Int32) => (if r4 = 0 then ((dX0_countArrived_4l o0 M  f) v2 (v3 + (1 : Int32))) else ((dX0_countArrived_4l o0 M  f) (v2 + (1 : Int32)) (v3 + (1 : Int32)))))) else none))
def d_X0_countArrived (o0 : Nat) (M : Mem) : Option Int32 :=
  (dX0_countArrived_4l o0 M  FU (0 : Int32) (0 : Int32) )

def dX0_passDay_2l (o0 : Nat)   : Nat → Int32 → Mem → Option Mem
  | 0, _, _ => none
  | f + 1, v2, M =>
  (if (M o0 1) ≤ v2 then (some M) else (if inB v2 6 = true then (if (M ((ft o0) v2.toNatClampNeg) 5) = 0 then (bd1 (d_X2_hasArrived ((ft o0) v2.toNatClampNeg) M) (fun (r5 : Int32) => (if r5 = 0 then (bd1 (d_X2_pace ((ft o0) v2.toNatClampNeg) M) (fun (r7 : Int32) => (lm (mu M ((ft o0) v2.toNatClampNeg) 4 ((M ((ft o0) v2.toNatClampNeg) 4) + r7)) (fun (M8 : Mem) => ((dX0_passDay_2l o0   f) (v2 + (1 : Int32)) M8))))) else ((dX0_passDay_2l o0   f) (v2 + (1 : Int32)) M)))) else ((dX0_passDay_2l o0   f) (v2 + (1 : Int32)) M)) else none))
def d_X0_passDay (o0 : Nat) (M : Mem) : Option Mem :=
  (dX0_passDay_2l o0   FU (0 : Int32) M)

def dX8_days_38l (v1 : Int32) (v2 : Int32)  (k38_60 : Mem → Option (Int32 × Mem)) : Nat → Int32 → Mem → Option (Int32 × Mem)
  | 0, _, _ => none
  | f + 1, v3, M =>
  (if v1 ≤ v3 then (k38_60  M) else (bd1 (d_X0_passDay 6 M) (fun (M7 : Mem) => ((dX8_days_38l v1 v2  k38_60 f) (v3 + (1 : Int32)) M7))))
def d_X8_days (v1 : Int32) (M : Mem) : Option (Int32 × Mem) :=
  (if v1 < (1 : Int32) then (some ((-2 : Int32), M)) else (if v1 ≤ (99 : Int32) then (bd1 (d_X8_hasTown  M) (fun (r3 : Int32) => (if r3 = 0 then (some ((-3 : Int32), M)) else (bd1 (d_X0_countArrived 6 M) (fun (r5 : Int32) => (dX8_days_38l v1 r5  (fun  (M8 : Mem) => (lm (mu M8 0 6 ((M8 0 6) + v1)) (fun (M9 : Mem) => (bd1 (d_X0_countArrived 6 M9) (fun (r10 : Int32) => (some ((r10 - r5), M9))))))) FU (0 : Int32) M)))))) else (some ((-2 : Int32), M))))

def d_X0_turn (o0 : Nat) (v1 : Int32) (v2 : Int32) (M : Mem) : Option (Int32 × Mem) :=
  (bd1 (d_X0_has o0 v1 M) (fun (r1 : Int32) => (if r1 = 0 then (some ((0 : Int32), M)) else (if inB v1 6 = true then (if (M ((ft o0) v1.toNatClampNeg) 5) = v2 then (some ((0 : Int32), M)) else (if inB v1 6 = true then (if isZ v2 = true then (lm (mu M ((ft o0) v1.toNatClampNeg) 5 v2) (fun (M9 : Mem) => (some ((1 : Int32), M9)))) else none) else none)) else none))))

def dX0_sitters_4l (o0 : Nat) (M : Mem)  : Nat → Int32 → Int32 → Option Int32
  | 0, _, _ => none
  | f + 1, v1 , v2 =>
  (if (M o0 1) ≤ v2 then (some v1) else (if inB v2 6 = true then (if (M ((ft o0) v2.toNatClampNeg) 5) = 0 then ((dX0_sitters_4l o0 M  f) v1 (v2 + (1 : Int32))) else (lm (v1 ||| ((1 : Int32) <<< (v2 &&& 31))) (fun (x5 : Int32) => ((dX0_sitters_4l o0 M  f) x5 (v2 + (1 : Int32)))))) else none))
def d_X0_sitters (o0 : Nat) (M : Mem) : Option Int32 :=
  (dX0_sitters_4l o0 M  FU (0 : Int32) (0 : Int32) )

def d_J6_bitCount_0f7a4 (v0 : Int32) (M : Mem) : Option Int32 :=
  (lm (v0 - (((v0.toUInt32 >>> ((1 : Int32).toUInt32 &&& Int32.toUInt32 31)).toInt32) &&& (1431655765 : Int32))) (fun (x1 : Int32) => (lm ((x1 &&& (858993459 : Int32)) + (((x1.toUInt32 >>> ((2 : Int32).toUInt32 &&& Int32.toUInt32 31)).toInt32) &&& (858993459 : Int32))) (fun (x2 : Int32) => (lm ((x2 + ((x2.toUInt32 >>> ((4 : Int32).toUInt32 &&& Int32.toUInt32 31)).toInt32)) &&& (252645135 : Int32)) (fun (x3 : Int32) => (lm (x3 + ((x3.toUInt32 >>> ((8 : Int32).toUInt32 &&& Int32.toUInt32 31)).toInt32)) (fun (x4 : Int32) => (lm (x4 + ((x4.toUInt32 >>> ((16 : Int32).toUInt32 &&& Int32.toUInt32 31)).toInt32)) (fun (x5 : Int32) => (some (x5 &&& (63 : Int32)))))))))))))

def d_X8_sit (v1 : Int32) (M : Mem) : Option (Int32 × Mem) :=
  (bd1 (d_X0_has 6 v1 M) (fun (r1 : Int32) => (if r1 = 0 then (some ((-1 : Int32), M)) else (bd2 (d_X0_turn 6 v1 (1 : Int32) M) (fun (r3 : Int32) (M4 : Mem) => (if r3 = 0 then (some ((-3 : Int32), M4)) else (bd1 (d_X0_sitters 6 M4) (fun (r6 : Int32) => (bd1 (d_J6_bitCount_0f7a4 r6 M4) (fun (r7 : Int32) => (some (r7, M4))))))))))))

def d_X8_rise (v1 : Int32) (M : Mem) : Option (Int32 × Mem) :=
  (bd1 (d_X0_has 6 v1 M) (fun (r1 : Int32) => (if r1 = 0 then (some ((-1 : Int32), M)) else (bd2 (d_X0_turn 6 v1 (0 : Int32) M) (fun (r3 : Int32) (M4 : Mem) => (if r3 = 0 then (some ((-3 : Int32), M4)) else (bd1 (d_X0_sitters 6 M4) (fun (r6 : Int32) => (bd1 (d_J6_bitCount_0f7a4 r6 M4) (fun (r7 : Int32) => (some (r7, M4))))))))))))

def d_X8_isKind (v0 : Int32) (M : Mem) : Option Int32 :=
  (if v0 < 0 then (some (0 : Int32)) else (if (2 : Int32) < v0 then (some (0 : Int32)) else (some (1 : Int32))))

def d_X8_give (v1 : Int32) (v2 : Int32) (v3 : Int32) (v4 : Int32) (M : Mem) : Option (Int32 × Mem) :=
  (bd1 (d_X8_isKind v1 M) (fun (r1 : Int32) => (if r1 = 0 then (some ((-2 : Int32), M)) else (if v4 < (1 : Int32) then (some ((-2 : Int32), M)) else (if v4 ≤ (9 : Int32) then (bd1 (d_X6_has v2 M) (fun (r5 : Int32) => (if r5 = 0 then (some ((-1 : Int32), M)) else (bd1 (d_X6_has v3 M) (fun (r7 : Int32) => (if r7 = 0 then (some ((-1 : Int32), M)) else (if (M 6 1) < (6 : Int32) then (bd1 (d_X0_add 6 v1 v2 v3 v4 M) (fun (M10 : Mem) => (some (((M10 6 1) - (1 : Int32)), M10)))) else (some ((-4 : Int32), M))))))))) else (some ((-2 : Int32), M)))))))

def dX4_canTell_9j  (v0 : Int32)  (M : Mem) : Option Int32 :=
  (if v0 < (10 : Int32) then (some (0 : Int32)) else (if (16 : Int32) ≤ v0 then (some (0 : Int32)) else (some (1 : Int32))))
def d_X4_canTell (v0 : Int32) (M : Mem) : Option Int32 :=
  (if v0 < 0 then (dX4_canTell_9j  v0  M) else (if v0 ≤ (4 : Int32) then (some (1 : Int32)) else (dX4_canTell_9j  v0  M)))

def dX4_refusal_70j (rec3 : Int32 → Option Int32) (o0 : Nat) (v1 : Int32) (v2 : Int32) (o3 : Nat) (v4 : Int32) (v5 : Int32) (v6 : Int32)  (M : Mem) : Option Int32 :=
  (if v6 = (2 : Int32) then (rec3 (v4 + (1 : Int32))) else (bd1 (d_X0_has o3 v5 M) (fun (r8 : Int32) => (if r8 = 0 then (some (-1 : Int32)) else (rec3 (v4 + (1 : Int32)))))))
def dX4_refusal_3l (o0 : Nat) (v1 : Int32) (v2 : Int32) (o3 : Nat) (M : Mem)  : Nat → Int32 → Option Int32
  | 0, _ => none
  | f + 1, v4 =>
  (if v2 ≤ v4 then (some (0 : Int32)) else (bd1 (d_X5_at o0 (v1 + ((2 : Int32) * v4)) M) (fun (r2 : Int32) => (bd1 (d_X5_at o0 ((v1 + ((2 : Int32) * v4)) + (1 : Int32)) M) (fun (r3 : Int32) => (if r3 < 0 then (some (-2 : Int32)) else (if r3 ≤ (2 : Int32) then (if r3 = (2 : Int32) then (if r2 < 0 then (some (-2 : Int32)) else (if r2 ≤ (9 : Int32) then (dX4_refusal_70j (dX4_refusal_3l o0 v1 v2 o3 M  f) o0 v1 v2 o3 v4 r2 r3  M) else (some (-2 : Int32)))) else (dX4_refusal_70j (dX4_refusal_3l o0 v1 v2 o3 M  f) o0 v1 v2 o3 v4 r2 r3  M)) else (some (-2 : Int32)))))))))
def d_X4_refusal (o0 : Nat) (v1 : Int32) (v2 : Int32) (o3 : Nat) (M : Mem) : Option Int32 :=
  (dX4_refusal_3l o0 v1 v2 o3 M  FU (0 : Int32) )

def d_X2_copyFrom (o0 : Nat) (o1 : Nat) (M : Mem) : Option Mem :=
  (lm (mu M o0 0 (M o1 0)) (fun (M1 : Mem) => (lm (mu M1 o0 1 (M1 o1 1)) (fun (M2 : Mem) => (lm (mu M2 o0 2 (M2 o1 2)) (fun (M3 : Mem) => (lm (mu M3 o0 3 (M3 o1 3)) (fun (M4 : Mem) => (lm (mu M4 o0 4 (M4 o1 4)) (fun (M5 : Mem) => (if isZ (M5 o1 5) = true then (lm (mu M5 o0 5 (M5 o1 5)) (fun (M7 : Mem) => (some M7))) else none)))))))))))

def dX0_copyFrom_10l (o0 : Nat) (o1 : Nat)   : Nat → Int32 → Mem → Option Mem
  | 0, _, _ => none
  | f + 1, v2, M =>
  (if (M o0 1) ≤ v2 then (some M) else (if inB v2 6 = true then (if inB v2 6 = true then (bd1 (d_X2_copyFrom ((ft o0) v2.toNatClampNeg) ((ft o1) v2.toNatClampNeg) M) (fun (M7 : Mem) => ((dX0_copyFrom_10l o0 o1   f) (v2 + (1 : Int32)) M7))) else none) else none))
def d_X0_copyFrom (o0 : Nat) (o1 : Nat) (M : Mem) : Option Mem :=
  (lm (mu M o0 1 (M o1 1)) (fun (M1 : Mem) => (dX0_copyFrom_10l o0 o1   FU (0 : Int32) M1)))

def d_X0_allArrived (o0 : Nat) (M : Mem) : Option Int32 :=
  (bd1 (d_X0_countArrived o0 M) (fun (r1 : Int32) => (if r1 = (M o0 1) then (some (1 : Int32)) else (some (0 : Int32)))))

def dX0_walkedTogether_4l (o0 : Nat) (M : Mem)  : Nat → Int32 → Int32 → Option Int32
  | 0, _, _ => none
  | f + 1, v1 , v2 =>
  (if (M o0 1) ≤ v2 then (some v1) else (if inB v2 6 = true then (lm (v1 + (M ((ft o0) v2.toNatClampNeg) 4)) (fun (x4 : Int32) => ((dX0_walkedTogether_4l o0 M  f) x4 (v2 + (1 : Int32))))) else none))
def d_X0_walkedTogether (o0 : Nat) (M : Mem) : Option Int32 :=
  (dX0_walkedTogether_4l o0 M  FU (0 : Int32) (0 : Int32) )

def dX4_passDays_2l (v1 : Int32)   : Nat → Int32 → Mem → Option Mem
  | 0, _, _ => none
  | f + 1, v3, M =>
  (if v1 ≤ v3 then (some M) else (bd1 (d_X0_passDay 15 M) (fun (M2 : Mem) => (lm (mu M2 14 2 ((M2 14 2) + (1 : Int32))) (fun (M3 : Mem) => (if (M3 14 3) = (-9 : Int32) then (bd1 (d_X0_allArrived 15 M3) (fun (r5 : Int32) => (if r5 = 0 then ((dX4_passDays_2l v1   f) (v3 + (1 : Int32)) M3) else (lm (mu M3 14 3 (M3 14 2)) (fun (M7 : Mem) => ((dX4_passDays_2l v1   f) (v3 + (1 : Int32)) M7)))))) else ((dX4_passDays_2l v1   f) (v3 + (1 : Int32)) M3)))))))
def d_X4_passDays (v1 : Int32) (M : Mem) : Option Mem :=
  (dX4_passDays_2l v1   FU (0 : Int32) M)

def dX4_play_130j (rec56 : Int32 → Mem → Option Mem) (o1 : Nat) (v2 : Int32) (v3 : Int32) (v6 : Int32) (s0 : Int32) (s1 : Int32) (M : Mem) : Option Mem :=
  (bd2 (d_X0_turn 15 s1 s0 M) (fun (r15 : Int32) (M16 : Mem) => (if r15 = 0 then (lm (mu M16 14 1 v6) (fun (M18 : Mem) => (rec56 (v6 + (1 : Int32)) M18))) else (rec56 (v6 + (1 : Int32)) M16))))
def dX4_play_56l (o1 : Nat) (v2 : Int32) (v3 : Int32)   : Nat → Int32 → Mem → Option Mem
  | 0, _, _ => none
  | f + 1, v6, M =>
  (if v3 ≤ v6 then (some M) else (if (M 14 1) = (-9 : Int32) then (bd1 (d_X5_at o1 (v2 + ((2 : Int32) * v6)) M) (fun (r11 : Int32) => (bd1 (d_X5_at o1 ((v2 + ((2 : Int32) * v6)) + (1 : Int32)) M) (fun (r12 : Int32) => (if r12 = (2 : Int32) then (bd1 (d_X4_passDays r11 M) (fun (M19 : Mem) => ((dX4_play_56l o1 v2 v3   f) (v6 + (1 : Int32)) M19))) else (if r12 = 0 then (dX4_play_130j (dX4_play_56l o1 v2 v3   f) o1 v2 v3 v6 (1 : Int32) r11 M) else (dX4_play_130j (dX4_play_56l o1 v2 v3   f) o1 v2 v3 v6 (0 : Int32) r11 M))))))) else (some M)))
def dX4_play_39j  (o1 : Nat) (v2 : Int32) (v3 : Int32) (s0 : Int32) (M : Mem) : Option Mem :=
  (lm (mu M 14 3 s0) (fun (M6 : Mem) => (bd1 (d_X0_walkedTogether 15 M6) (fun (r7 : Int32) => (lm (mu M6 14 4 r7) (fun (M8 : Mem) => (dX4_play_56l o1 v2 v3   FU (0 : Int32) M8)))))))
def d_X4_play (o1 : Nat) (v2 : Int32) (v3 : Int32) (o4 : Nat) (M : Mem) : Option Mem :=
  (bd1 (d_X0_copyFrom 15 o4 M) (fun (M1 : Mem) => (lm (mu M1 14 1 (-9 : Int32)) (fun (M2 : Mem) => (lm (mu M2 14 2 (0 : Int32)) (fun (M3 : Mem) => (bd1 (d_X0_allArrived 15 M3) (fun (r4 : Int32) => (if r4 = 0 then (dX4_play_39j  o1 v2 v3 (-9 : Int32) M3) else (dX4_play_39j  o1 v2 v3 (0 : Int32) M3))))))))))

def d_X4_told (v1 : Int32) (M : Mem) : Option Int32 :=
  (if v1 = (1 : Int32) then (some (M 14 1)) else (if (M 14 1) = (-9 : Int32) then (if v1 = (0 : Int32) then (bd1 (d_X0_countArrived 15 M) (fun (r8 : Int32) => (some r8))) else (if v1 = (1 : Int32) then (bd1 (d_X0_has 15 (v1 - (10 : Int32)) M) (fun (r10 : Int32) => (if r10 = 0 then (some (-9 : Int32)) else (if inB (v1 - (10 : Int32)) 6 = true then (some (M ((ft 15) (v1 - (10 : Int32)).toNatClampNeg) 4)) else none)))) else (if v1 = (2 : Int32) then (bd1 (d_X0_sitters 15 M) (fun (r15 : Int32) => (some r15))) else (if v1 = (3 : Int32) then (bd1 (d_X0_walkedTogether 15 M) (fun (r17 : Int32) => (some (r17 - (M 14 4))))) else (if v1 = (4 : Int32) then (some (M 14 3)) else (bd1 (d_X0_has 15 (v1 - (10 : Int32)) M) (fun (r3 : Int32) => (if r3 = 0 then (some (-9 : Int32)) else (if inB (v1 - (10 : Int32)) 6 = true then (some (M ((ft 15) (v1 - (10 : Int32)).toNatClampNeg) 4)) else none))))))))) else (some ((-100 : Int32) - (M 14 1)))))

def d_X8_season (v1 : Int32) (v2 : Int32) (v3 : Int32) (v4 : Int32) (v5 : Int32) (M : Mem) : Option (Int32 × Mem) :=
  (lm (mu M 0 8 (0 : Int32)) (fun (M1 : Mem) => (bd1 (d_X8_isSheet v1 M1) (fun (r2 : Int32) => (if r2 = 0 then (some ((-1 : Int32), M1)) else (bd1 (d_X8_isLane v2 M1) (fun (r4 : Int32) => (if r4 = 0 then (some ((-2 : Int32), M1)) else (if v4 < 0 then (some ((-2 : Int32), M1)) else (if (20 : Int32) < v4 then (some ((-2 : Int32), M1)) else (bd1 (d_X4_canTell v5 M1) (fun (r8 : Int32) => (if r8 = 0 then (some ((-2 : Int32), M1)) else (bd1 (d_X8_hasTown  M1) (fun (r10 : Int32) => (if r10 = 0 then (some ((-3 : Int32), M1)) else (if inB v1 4 = true then (bd1 (d_X5_faultAsRow (shd v1.toNatClampNeg) v2 v3 ((2 : Int32) * v4) M1) (fun (r14 : Int32) => (if r14 = 0 then (bd1 (d_X4_refusal (shd v1.toNatClampNeg) v3 v4 6 M1) (fun (r16 : Int32) => (if r16 = 0 then (bd1 (d_X4_play (shd v1.toNatClampNeg) v3 v4 6 M1) (fun (M18 : Mem) => (bd1 (d_X4_told v5 M18) (fun (r19 : Int32) => (some (r19, M18)))))) else (some (r16, M1))))) else (bd2 (d_X8_faulted r14 M1) (fun (r20 : Int32) (M21 : Mem) => (some (r20, M21))))))) else none)))))))))))))))))

def dX6_nextOnWay_10l (v1 : Int32) (v2 : Int32) (v3 : Int32) (M : Mem)  : Nat → Int32 → Option Int32
  | 0, _ => none
  | f + 1, v4 =>
  (if (M 2 3) ≤ v4 then (some (-9 : Int32)) else (bd1 (d_X6_length v1 v4 M) (fun (r3 : Int32) => (bd1 (d_X6_distance v4 v2 M) (fun (r4 : Int32) => (if r3 ≤ 0 then ((dX6_nextOnWay_10l v1 v2 v3 M  f) (v4 + (1 : Int32))) else (if v3 = (-9 : Int32) then ((dX6_nextOnWay_10l v1 v2 v3 M  f) (v4 + (1 : Int32))) else (if r4 = (-9 : Int32) then ((dX6_nextOnWay_10l v1 v2 v3 M  f) (v4 + (1 : Int32))) else (if (r3 + r4) = v3 then (some v4) else ((dX6_nextOnWay_10l v1 v2 v3 M  f) (v4 + (1 : Int32))))))))))))
def d_X6_nextOnWay (v1 : Int32) (v2 : Int32) (M : Mem) : Option Int32 :=
  (bd1 (d_X6_distance v1 v2 M) (fun (r1 : Int32) => (dX6_nextOnWay_10l v1 v2 r1 M  FU (0 : Int32) )))

def dX6_cornersOnWay_5l (v2 : Int32) (M : Mem)  : Nat → Int32 → Int32 → Option Int32
  | 0, _, _ => none
  | f + 1, v3 , v4 =>
  (if v4 = v2 then (some v3) else (if (6 : Int32) < v3 then (some v3) else (bd1 (d_X6_nextOnWay v4 v2 M) (fun (r3 : Int32) => (if r3 = (-9 : Int32) then (some (-9 : Int32)) else ((dX6_cornersOnWay_5l v2 M  f) (v3 + (1 : Int32)) r3))))))
def d_X6_cornersOnWay (v1 : Int32) (v2 : Int32) (M : Mem) : Option Int32 :=
  (dX6_cornersOnWay_5l v2 M  FU (1 : Int32) v1 )

def dX6_cornerOnWay_20l (v2 : Int32) (v3 : Int32) (M : Mem)  : Nat → Int32 → Int32 → Option Int32
  | 0, _, _ => none
  | f + 1, v4 , v5 =>
  (if v3 ≤ v5 then (some v4) else (if v4 = (-9 : Int32) then (some v4) else (bd1 (d_X6_nextOnWay v4 v2 M) (fun (r5 : Int32) => ((dX6_cornerOnWay_20l v2 v3 M  f) r5 (v5 + (1 : Int32)))))))
def d_X6_cornerOnWay (v1 : Int32) (v2 : Int32) (v3 : Int32) (M : Mem) : Option Int32 :=
  (bd1 (d_X6_distance v1 v2 M) (fun (r1 : Int32) => (if r1 = (-9 : Int32) then (some (-9 : Int32)) else (dX6_cornerOnWay_20l v2 v3 M  FU v1 (0 : Int32) ))))

def d_X8_way (v1 : Int32) (v2 : Int32) (v3 : Int32) (M : Mem) : Option Int32 :=
  (bd1 (d_X6_has v1 M) (fun (r1 : Int32) => (if r1 = 0 then (some (-1 : Int32)) else (bd1 (d_X6_has v2 M) (fun (r3 : Int32) => (if r3 = 0 then (some (-1 : Int32)) else (if v3 < (-1 : Int32) then (some (-2 : Int32)) else (if v3 < (6 : Int32) then (if v3 = (-1 : Int32) then (bd1 (d_X6_cornersOnWay v1 v2 M) (fun (r9 : Int32) => (some r9))) else (bd1 (d_X6_cornerOnWay v1 v2 v3 M) (fun (r8 : Int32) => (some r8)))) else (some (-2 : Int32))))))))))

def d_X8_round (v1 : Int32) (v2 : Int32) (M : Mem) : Option Int32 :=
  (bd1 (d_X0_has 6 v1 M) (fun (r1 : Int32) => (if r1 = 0 then (some (-1 : Int32)) else (bd1 (d_X6_has v2 M) (fun (r3 : Int32) => (if r3 = 0 then (some (-1 : Int32)) else (if inB v1 6 = true then (bd1 (d_X6_distance (M ((ft 6) v1.toNatClampNeg) 1) (M ((ft 6) v1.toNatClampNeg) 2) M) (fun (r7 : Int32) => (bd1 (d_X6_distance (M ((ft 6) v1.toNatClampNeg) 1) v2 M) (fun (r8 : Int32) => (bd1 (d_X6_distance v2 (M ((ft 6) v1.toNatClampNeg) 2) M) (fun (r9 : Int32) => (if r7 = (-9 : Int32) then (some (-9 : Int32)) else (if r8 = (-9 : Int32) then (some (-9 : Int32)) else (if r9 = (-9 : Int32) then (some (-9 : Int32)) else (some ((r8 + r9) - r7))))))))))) else none)))))))

def d_X8_daysFor (v0 : Int32) (v1 : Int32) (M : Mem) : Option Int32 :=
  (if 0 < v0 then (if (1 : Int32) ≤ v1 then (if v1 = 0 then none else (some (((v0 + v1) - (1 : Int32)) / v1))) else (some (1000000 : Int32))) else (some (0 : Int32)))

def d_X8_kept (v1 : Int32) (M : Mem) : Option Int32 :=
  (bd1 (d_X0_has 6 v1 M) (fun (r1 : Int32) => (if r1 = 0 then (some (-1 : Int32)) else (if inB v1 6 = true then (bd1 (d_X2_hasArrived ((ft 6) v1.toNatClampNeg) M) (fun (r5 : Int32) => (if r5 = 0 then (bd1 (d_X6_distance (M ((ft 6) v1.toNatClampNeg) 1) (M ((ft 6) v1.toNatClampNeg) 2) M) (fun (r7 : Int32) => (if (M ((ft 6) v1.toNatClampNeg) 5) = 0 then (if r7 = (-9 : Int32) then (some (-9 : Int32)) else (bd1 (d_X2_pace ((ft 6) v1.toNatClampNeg) M) (fun (r10 : Int32) => (bd1 (d_X8_daysFor (r7 - (M ((ft 6) v1.toNatClampNeg) 4)) r10 M) (fun (r11 : Int32) => (some r11)))))) else (some (-9 : Int32))))) else (some (0 : Int32))))) else none))))

def dX6_farthestFrom_4l (v1 : Int32) (M : Mem)  : Nat → Int32 → Int32 → Option Int32
  | 0, _, _ => none
  | f + 1, v2 , v3 =>
  (if (M 2 3) ≤ v3 then (some v2) else (bd1 (d_X6_distance v1 v3 M) (fun (r2 : Int32) => (if r2 = (-9 : Int32) then (some (-9 : Int32)) else (lm (if v2 < r2 then r2 else v2) (fun (x4 : Int32) => ((dX6_farthestFrom_4l v1 M  f) x4 (v3 + (1 : Int32)))))))))
def d_X6_farthestFrom (v1 : Int32) (M : Mem) : Option Int32 :=
  (dX6_farthestFrom_4l v1 M  FU (0 : Int32) (0 : Int32) )

def dX6_middleCorner_8l  (M : Mem)  : Nat → Int32 → Int32 → Int32 → Option Int32
  | 0, _, _, _ => none
  | f + 1, v1 , v2 , v3 =>
  (if (M 2 3) ≤ v3 then (some v1) else (bd1 (d_X6_farthestFrom v3 M) (fun (r2 : Int32) => (if r2 = (-9 : Int32) then ((dX6_middleCorner_8l  M  f) v1 v2 (v3 + (1 : Int32))) else (if v2 ≤ r2 then ((dX6_middleCorner_8l  M  f) v1 v2 (v3 + (1 : Int32))) else ((dX6_middleCorner_8l  M  f) v3 r2 (v3 + (1 : Int32))))))))
def d_X6_middleCorner  (M : Mem) : Option Int32 :=
  (dX6_middleCorner_8l  M  FU (-9 : Int32) (1000000 : Int32) (0 : Int32) )

def d_X8_middle (v1 : Int32) (M : Mem) : Option Int32 :=
  (bd1 (d_X8_hasTown  M) (fun (r1 : Int32) => (if r1 = 0 then (some (-3 : Int32)) else (if v1 < 0 then (some (-2 : Int32)) else (if v1 ≤ (1 : Int32) then (bd1 (d_X6_middleCorner  M) (fun (r5 : Int32) => (if r5 = (-9 : Int32) then (some r5) else (if v1 = 0 then (some r5) else (bd1 (d_X6_farthestFrom r5 M) (fun (r8 : Int32) => (some r8))))))) else (some (-2 : Int32)))))))

def dX6_joinGroups_2l (v1 : Int32) (v2 : Int32)   : Nat → Int32 → Mem → Option Mem
  | 0, _, _ => none
  | f + 1, v3, M =>
  (if (M 2 3) ≤ v3 then (some M) else (if inB v3 6 = true then (if (M 5 v3.toNatClampNeg) = v2 then (if inB v3 6 = true then (lm (mu M 5 v3.toNatClampNeg v1) (fun (M3 : Mem) => ((dX6_joinGroups_2l v1 v2   f) (v3 + (1 : Int32)) M3))) else none) else ((dX6_joinGroups_2l v1 v2   f) (v3 + (1 : Int32)) M)) else none))
def d_X6_joinGroups (v1 : Int32) (v2 : Int32) (M : Mem) : Option Mem :=
  (dX6_joinGroups_2l v1 v2   FU (0 : Int32) M)

def dX6_joinBy_22l (v1 : Int32) (v4 : Int32)  (k22_93 : Int32 → Int32 → Mem → Option (Int32 × Mem)) : Nat → Int32 → Int32 → Int32 → Mem → Option (Int32 × Mem)
  | 0, _, _, _, _ => none
  | f + 1, v2 , v3 , v5, M =>
  (if (M 2 3) ≤ v5 then (k22_93 v2 v3 M) else (bd1 (d_X6_length v4 v5 M) (fun (r4 : Int32) => (if r4 = v1 then (if inB v4 6 = true then (if inB v5 6 = true then (if (M 5 v4.toNatClampNeg) = (M 5 v5.toNatClampNeg) then ((dX6_joinBy_22l v1 v4  k22_93 f) v2 (v3 + (1 : Int32)) (v5 + (1 : Int32)) M) else (if inB v4 6 = true then (if inB v5 6 = true then (bd1 (d_X6_joinGroups (M 5 v4.toNatClampNeg) (M 5 v5.toNatClampNeg) M) (fun (M7 : Mem) => (lm (v2 ||| ((1 : Int32) <<< (v3 &&& 31))) (fun (x8 : Int32) => ((dX6_joinBy_22l v1 v4  k22_93 f) x8 (v3 + (1 : Int32)) (v5 + (1 : Int32)) M7))))) else none) else none)) else none) else none) else ((dX6_joinBy_22l v1 v4  k22_93 f) v2 (v3 + (1 : Int32)) (v5 + (1 : Int32)) M)))))
def dX6_joinBy_7l (v1 : Int32)   : Nat → Int32 → Int32 → Int32 → Mem → Option (Int32 × Mem)
  | 0, _, _, _, _ => none
  | f + 1, v2 , v3 , v4, M =>
  (if (M 2 3) ≤ v4 then (some (v2, M)) else (lm (v4 + (1 : Int32)) (fun (x2 : Int32) => (dX6_joinBy_22l v1 v4  (fun (w9 : Int32) (w10 : Int32) (M11 : Mem) => ((dX6_joinBy_7l v1   f) w9 w10 (v4 + (1 : Int32)) M11)) FU v2 v3 x2 M))))
def d_X6_joinBy (v1 : Int32) (M : Mem) : Option (Int32 × Mem) :=
  (dX6_joinBy_7l v1   FU (0 : Int32) (0 : Int32) (0 : Int32) M)

def dX6_leastTree_2l   (k2_23 : Mem → Option (Int32 × Mem)) : Nat → Int32 → Mem → Option (Int32 × Mem)
  | 0, _, _ => none
  | f + 1, v1, M =>
  (if (M 2 3) ≤ v1 then (k2_23  M) else (if inB v1 6 = true then (lm (mu M 5 v1.toNatClampNeg v1) (fun (M2 : Mem) => ((dX6_leastTree_2l   k2_23 f) (v1 + (1 : Int32)) M2))) else none))
def dX6_leastTree_27l   (k27_47 : Int32 → Mem → Option (Int32 × Mem)) : Nat → Int32 → Int32 → Mem → Option (Int32 × Mem)
  | 0, _, _, _ => none
  | f + 1, v1 , v2, M =>
  (if (9 : Int32) < v2 then (k27_47 v1 M) else (bd2 (d_X6_joinBy v2 M) (fun (r5 : Int32) (M6 : Mem) => (lm (v1 ||| r5) (fun (x7 : Int32) => ((dX6_leastTree_27l   k27_47 f) x7 (v2 + (1 : Int32)) M6))))))
def d_X6_leastTree  (M : Mem) : Option (Int32 × Mem) :=
  (dX6_leastTree_2l   (fun  (M3 : Mem) => (dX6_leastTree_27l   (fun (w8 : Int32) (M9 : Mem) => (bd1 (d_J6_bitCount_0f7a4 w8 M9) (fun (r10 : Int32) => (if r10 = ((M9 2 3) - (1 : Int32)) then (some (w8, M9)) else (some ((-9 : Int32), M9)))))) FU (0 : Int32) (1 : Int32) M3)) FU (0 : Int32) M)

def dX6_lengthOf_22l (v1 : Int32) (v4 : Int32) (M : Mem) (k22_60 : Int32 → Int32 → Option Int32) : Nat → Int32 → Int32 → Int32 → Option Int32
  | 0, _, _, _ => none
  | f + 1, v2 , v3 , v5 =>
  (if (M 2 3) ≤ v5 then (k22_60 v2 v3) else (if ((v1 >>> (v3 &&& 31)) &&& (1 : Int32)) = (1 : Int32) then (bd1 (d_X6_length v4 v5 M) (fun (r5 : Int32) => (lm (v2 + r5) (fun (x6 : Int32) => ((dX6_lengthOf_22l v1 v4 M k22_60 f) x6 (v3 + (1 : Int32)) (v5 + (1 : Int32))))))) else ((dX6_lengthOf_22l v1 v4 M k22_60 f) v2 (v3 + (1 : Int32)) (v5 + (1 : Int32)))))
def dX6_lengthOf_7l (v1 : Int32) (M : Mem)  : Nat → Int32 → Int32 → Int32 → Option Int32
  | 0, _, _, _ => none
  | f + 1, v2 , v3 , v4 =>
  (if (M 2 3) ≤ v4 then (some v2) else (lm (v4 + (1 : Int32)) (fun (x2 : Int32) => (dX6_lengthOf_22l v1 v4 M (fun (w7 : Int32) (w8 : Int32) => ((dX6_lengthOf_7l v1 M  f) w7 w8 (v4 + (1 : Int32)))) FU v2 v3 x2 ))))
def d_X6_lengthOf (v1 : Int32) (M : Mem) : Option Int32 :=
  (dX6_lengthOf_7l v1 M  FU (0 : Int32) (0 : Int32) (0 : Int32) )

def d_X8_tree (v1 : Int32) (M : Mem) : Option (Int32 × Mem) :=
  (bd1 (d_X8_hasTown  M) (fun (r1 : Int32) => (if r1 = 0 then (some ((-3 : Int32), M)) else (if v1 < 0 then (some ((-2 : Int32), M)) else (if v1 ≤ (1 : Int32) then (bd2 (d_X6_leastTree  M) (fun (r5 : Int32) (M6 : Mem) => (if r5 = (-9 : Int32) then (some (r5, M6)) else (if v1 = (1 : Int32) then (some (r5, M6)) else (bd1 (d_X6_lengthOf r5 M6) (fun (r9 : Int32) => (some (r9, M6)))))))) else (some ((-2 : Int32), M)))))))

def d_X2_daysTo (o0 : Nat) (v1 : Int32) (M : Mem) : Option Int32 :=
  (bd1 (d_X6_distance (M o0 1) v1 M) (fun (r1 : Int32) => (if r1 = (-9 : Int32) then (some (1000000 : Int32)) else (bd1 (d_X2_pace o0 M) (fun (r3 : Int32) => (bd1 (d_X8_daysFor r1 r3 M) (fun (r4 : Int32) => (some r4))))))))

def d_X1_arrivalWith (v1 : Int32) (v2 : Int32) (o3 : Nat) (M : Mem) : Option Int32 :=
  (bd1 (d_J6_bitCount_0f7a4 v1 M) (fun (r1 : Int32) => (bd1 (d_X0_has o3 r1 M) (fun (r2 : Int32) => (if r2 = 0 then (some (1000000 : Int32)) else (bd1 (d_X0_has o3 v2 M) (fun (r4 : Int32) => (if r4 = 0 then (some (1000000 : Int32)) else (if inB r1 6 = true then (if inB v2 6 = true then (bd1 (d_X2_daysTo ((ft o3) r1.toNatClampNeg) (M ((ft o3) v2.toNatClampNeg) 2) M) (fun (r10 : Int32) => (if inB (v1 ||| ((1 : Int32) <<< (v2 &&& 31))) 64 = true then (some (if r10 < (M 24 (v1 ||| ((1 : Int32) <<< (v2 &&& 31))).toNatClampNeg) then (M 24 (v1 ||| ((1 : Int32) <<< (v2 &&& 31))).toNatClampNeg) else r10)) else none))) else none) else none)))))))))

def dX1_weigh_38l (o1 : Nat) (v4 : Int32)  (k38_90 : Mem → Option Mem) : Nat → Int32 → Mem → Option Mem
  | 0, _, _ => none
  | f + 1, v5, M =>
  (if (M o1 1) ≤ v5 then (k38_90  M) else (if ((v4 >>> (v5 &&& 31)) &&& (1 : Int32)) = 0 then (if inB v4 64 = true then (bd1 (d_X1_arrivalWith v4 v5 o1 M) (fun (r8 : Int32) => (if inB v4 64 = true then (lm (mu M 24 v4.toNatClampNeg (if r8 < (M 24 v4.toNatClampNeg) then r8 else (M 24 v4.toNatClampNeg))) (fun (M9 : Mem) => ((dX1_weigh_38l o1 v4  k38_90 f) (v5 + (1 : Int32)) M9))) else none))) else none) else ((dX1_weigh_38l o1 v4  k38_90 f) (v5 + (1 : Int32)) M)))
def dX1_weigh_21l (o1 : Nat)   : Nat → Int32 → Mem → Option Mem
  | 0, _, _ => none
  | f + 1, v4, M =>
  (if v4 < 0 then (some M) else (if inB v4 64 = true then (lm (mu M 24 v4.toNatClampNeg (1000000 : Int32)) (fun (M5 : Mem) => (dX1_weigh_38l o1 v4  (fun  (M10 : Mem) => ((dX1_weigh_21l o1   f) (v4 + (-1 : Int32)) M10)) FU (0 : Int32) M5))) else none))
def d_X1_weigh (o1 : Nat) (M : Mem) : Option Mem :=
  (lm (((1 : Int32) <<< ((M o1 1) &&& 31)) - (1 : Int32)) (fun (x1 : Int32) => (if inB x1 64 = true then (lm (mu M 24 x1.toNatClampNeg (0 : Int32)) (fun (M2 : Mem) => (lm (x1 - (1 : Int32)) (fun (x3 : Int32) => (dX1_weigh_21l o1   FU x3 M2))))) else none)))

def d_X1_lastArrival  (M : Mem) : Option Int32 :=
  (if inB (0 : Int32) 64 = true then (if (1000000 : Int32) ≤ (M 24 (0 : Int32).toNatClampNeg) then (some (-9 : Int32)) else (if inB (0 : Int32) 64 = true then (some (M 24 (0 : Int32).toNatClampNeg)) else none)) else none)

def dX1_leastGoal_85j (rec7 : Int32 → Int32 → Option Int32) (v1 : Int32) (o2 : Nat) (v5 : Int32)  (M : Mem) : Option Int32 :=
  (rec7 v5 (v5 + (1 : Int32)))
def dX1_leastGoal_30j (rec7 : Int32 → Int32 → Option Int32) (v1 : Int32) (o2 : Nat) (v4 : Int32) (v5 : Int32) (s0 : Int32) (M : Mem) : Option Int32 :=
  (if s0 = 0 then (rec7 v4 (v5 + (1 : Int32))) else (bd1 (d_X1_arrivalWith v1 v5 o2 M) (fun (r4 : Int32) => (if inB (0 : Int32) 64 = true then (if (M 24 (0 : Int32).toNatClampNeg) < r4 then (rec7 v4 (v5 + (1 : Int32))) else (if v4 = (-9 : Int32) then (dX1_leastGoal_85j rec7 v1 o2 v5  M) else (if inB v5 6 = true then (if inB v4 6 = true then (if (M ((ft o2) v4.toNatClampNeg) 2) ≤ (M ((ft o2) v5.toNatClampNeg) 2) then (rec7 v4 (v5 + (1 : Int32))) else (dX1_leastGoal_85j rec7 v1 o2 v5  M)) else none) else none))) else none))))
def dX1_leastGoal_7l (v1 : Int32) (o2 : Nat) (M : Mem)  : Nat → Int32 → Int32 → Option Int32
  | 0, _, _ => none
  | f + 1, v4 , v5 =>
  (if (M o2 1) ≤ v5 then (some v4) else (if ((v1 >>> (v5 &&& 31)) &&& (1 : Int32)) = 0 then (dX1_leastGoal_30j (dX1_leastGoal_7l v1 o2 M  f) v1 o2 v4 v5 (1 : Int32) M) else (dX1_leastGoal_30j (dX1_leastGoal_7l v1 o2 M  f) v1 o2 v4 v5 (0 : Int32) M)))
def d_X1_leastGoal (v1 : Int32) (o2 : Nat) (M : Mem) : Option Int32 :=
  (dX1_leastGoal_7l v1 o2 M  FU (-9 : Int32) (0 : Int32) )

def dX1_goalOf_32l (v1 : Int32) (o2 : Nat) (M : Mem)  : Nat → Int32 → Int32 → Int32 → Option Int32
  | 0, _, _, _ => none
  | f + 1, v4 , v5 , v6 =>
  (if v1 < v6 then (some v5) else (bd1 (d_X1_leastGoal v4 o2 M) (fun (r5 : Int32) => (if r5 = (-9 : Int32) then (some (-9 : Int32)) else (lm (v4 ||| ((1 : Int32) <<< (r5 &&& 31))) (fun (x7 : Int32) => (if inB r5 6 = true then (lm (M ((ft o2) r5.toNatClampNeg) 2) (fun (x10 : Int32) => ((dX1_goalOf_32l v1 o2 M  f) x7 x10 (v6 + (1 : Int32))))) else none)))))))
def d_X1_goalOf (v1 : Int32) (o2 : Nat) (M : Mem) : Option Int32 :=
  (bd1 (d_X0_has o2 v1 M) (fun (r1 : Int32) => (if r1 = 0 then (some (-9 : Int32)) else (if inB (0 : Int32) 64 = true then (if (M 24 (0 : Int32).toNatClampNeg) < (1000000 : Int32) then (dX1_goalOf_32l v1 o2 M  FU (0 : Int32) (-9 : Int32) (0 : Int32) ) else (some (-9 : Int32))) else none))))

def d_X8_errands (v1 : Int32) (M : Mem) : Option (Int32 × Mem) :=
  (bd1 (d_X8_hasTown  M) (fun (r1 : Int32) => (if r1 = 0 then (some ((-3 : Int32), M)) else (if v1 < (-1 : Int32) then (some ((-2 : Int32), M)) else (if v1 < (6 : Int32) then (bd1 (d_X1_weigh 6 M) (fun (M5 : Mem) => (if v1 = (-1 : Int32) then (bd1 (d_X1_lastArrival  M5) (fun (r8 : Int32) => (some (r8, M5)))) else (bd1 (d_X1_goalOf v1 6 M5) (fun (r7 : Int32) => (some (r7, M5))))))) else (some ((-2 : Int32), M)))))))

def d_X3_add (v1 : Int32) (v2 : Int32) (v3 : Int32) (M : Mem) : Option Mem :=
  (if (8 : Int32) ≤ (M 25 3) then (some M) else (if inB (M 25 3) 8 = true then (lm (mu M 26 (M 25 3).toNatClampNeg v1) (fun (M2 : Mem) => (if inB (M2 25 3) 8 = true then (lm (mu M2 27 (M2 25 3).toNatClampNeg v2) (fun (M3 : Mem) => (if inB (M3 25 3) 8 = true then (lm (mu M3 28 (M3 25 3).toNatClampNeg v3) (fun (M4 : Mem) => (lm (mu M4 25 3 ((M4 25 3) + (1 : Int32))) (fun (M5 : Mem) => (some M5))))) else none))) else none))) else none))

def d_X8_reading (v1 : Int32) (v2 : Int32) (v3 : Int32) (M : Mem) : Option (Int32 × Mem) :=
  (bd1 (d_X0_has 6 v1 M) (fun (r1 : Int32) => (if r1 = 0 then (some ((-1 : Int32), M)) else (if v2 < 0 then (some ((-2 : Int32), M)) else (if (99 : Int32) < v2 then (some ((-2 : Int32), M)) else (if v3 < 0 then (some ((-2 : Int32), M)) else (if v3 ≤ (999 : Int32) then (if (M 25 3) < (8 : Int32) then (bd1 (d_X3_add v1 v2 v3 M) (fun (M8 : Mem) => (some (((M8 25 3) - (1 : Int32)), M8)))) else (some ((-4 : Int32), M))) else (some ((-2 : Int32), M)))))))))

def d_X8_back (v1 : Int32) (M : Mem) : Option (Int32 × Mem) :=
  (if v1 < 0 then (some ((-2 : Int32), M)) else (if v1 ≤ (M 25 3) then (lm (mu M 25 3 ((M 25 3) - v1)) (fun (M3 : Mem) => (some ((M3 25 3), M3)))) else (some ((-2 : Int32), M))))

def dX3_allAreSo_52j (rec3 : Int32 → Option Int32) (o1 : Nat) (v2 : Int32) (v3 : Int32) (v4 : Int32) (s0 : Int32) (M : Mem) : Option Int32 :=
  (if inB v4 8 = true then (if inB v4 8 = true then (if (s0 * (M 27 v4.toNatClampNeg)) = (M 28 v4.toNatClampNeg) then (rec3 (v4 + (1 : Int32))) else (some (0 : Int32))) else none) else none)
def dX3_allAreSo_3l (o1 : Nat) (v2 : Int32) (v3 : Int32) (M : Mem)  : Nat → Int32 → Option Int32
  | 0, _ => none
  | f + 1, v4 =>
  (if (M 25 3) ≤ v4 then (some (1 : Int32)) else (if inB v4 8 = true then (lm (M 26 v4.toNatClampNeg) (fun (x2 : Int32) => (bd1 (d_X0_has o1 x2 M) (fun (r3 : Int32) => (if r3 = 0 then (some (0 : Int32)) else (if x2 = v2 then (dX3_allAreSo_52j (dX3_allAreSo_3l o1 v2 v3 M  f) o1 v2 v3 v4 v3 M) else (if inB x2 6 = true then (bd1 (d_X2_pace ((ft o1) x2.toNatClampNeg) M) (fun (r8 : Int32) => (dX3_allAreSo_52j (dX3_allAreSo_3l o1 v2 v3 M  f) o1 v2 v3 v4 r8 M))) else none))))))) else none))
def d_X3_allAreSo (o1 : Nat) (v2 : Int32) (v3 : Int32) (M : Mem) : Option Int32 :=
  (dX3_allAreSo_3l o1 v2 v3 M  FU (0 : Int32) )

def dX8_calves_31l (v1 : Int32) (v2 : Int32) (M : Mem)  : Nat → Int32 → Int32 → Option Int32
  | 0, _, _ => none
  | f + 1, v3 , v4 =>
  (if (9 : Int32) < v4 then (some v3) else (bd1 (d_X8_paceOf v2 v4 M) (fun (r7 : Int32) => (bd1 (d_X3_allAreSo 6 v1 r7 M) (fun (r8 : Int32) => (if r8 = 0 then ((dX8_calves_31l v1 v2 M  f) v3 (v4 + (1 : Int32))) else (lm (v3 ||| ((1 : Int32) <<< (v4 &&& 31))) (fun (x10 : Int32) => ((dX8_calves_31l v1 v2 M  f) x10 (v4 + (1 : Int32)))))))))))
def d_X8_calves (v1 : Int32) (M : Mem) : Option Int32 :=
  (bd1 (d_X0_has 6 v1 M) (fun (r1 : Int32) => (if r1 = 0 then (some (-1 : Int32)) else (if inB v1 6 = true then (lm (M ((ft 6) v1.toNatClampNeg) 0) (fun (x5 : Int32) => (dX8_calves_31l v1 x5 M  FU (0 : Int32) (1 : Int32) ))) else none))))

def dX8_kinds_31l (v1 : Int32) (v2 : Int32) (M : Mem)  : Nat → Int32 → Int32 → Option Int32
  | 0, _, _ => none
  | f + 1, v3 , v4 =>
  (if (2 : Int32) < v4 then (some v3) else (bd1 (d_X8_paceOf v4 v2 M) (fun (r7 : Int32) => (bd1 (d_X3_allAreSo 6 v1 r7 M) (fun (r8 : Int32) => (if r8 = 0 then ((dX8_kinds_31l v1 v2 M  f) v3 (v4 + (1 : Int32))) else (lm (v3 ||| ((1 : Int32) <<< (v4 &&& 31))) (fun (x10 : Int32) => ((dX8_kinds_31l v1 v2 M  f) x10 (v4 + (1 : Int32)))))))))))
def d_X8_kinds (v1 : Int32) (M : Mem) : Option Int32 :=
  (bd1 (d_X0_has 6 v1 M) (fun (r1 : Int32) => (if r1 = 0 then (some (-1 : Int32)) else (if inB v1 6 = true then (lm (M ((ft 6) v1.toNatClampNeg) 3) (fun (x5 : Int32) => (dX8_kinds_31l v1 x5 M  FU (0 : Int32) (0 : Int32) ))) else none))))

def dX8_commonPart_2l (v0 : Int32) (v1 : Int32) (M : Mem)  : Nat → Int32 → Option Int32
  | 0, _ => none
  | f + 1, v2 =>
  (if v2 ≤ (1 : Int32) then (some (1 : Int32)) else (if v2 = 0 then none else (if (v0 - v0 / v2 * v2) = 0 then (if v2 = 0 then none else (if (v1 - v1 / v2 * v2) = 0 then (some v2) else ((dX8_commonPart_2l v0 v1 M  f) (v2 + (-1 : Int32))))) else ((dX8_commonPart_2l v0 v1 M  f) (v2 + (-1 : Int32))))))
def d_X8_commonPart (v0 : Int32) (v1 : Int32) (M : Mem) : Option Int32 :=
  (dX8_commonPart_2l v0 v1 M  FU v1 )

def dX8_odds_51l (v2 : Int32) (v3 : Int32) (o4 : Nat) (M : Mem) (k51_97 : Int32 → Option Int64) : Nat → Int32 → Int32 → Option Int64
  | 0, _, _ => none
  | f + 1, v5 , v6 =>
  (if (M 2 3) ≤ v6 then (k51_97 v5) else (if v6 = (M o4 1) then ((dX8_odds_51l v2 v3 o4 M k51_97 f) v5 (v6 + (1 : Int32))) else (bd1 (d_X2_daysTo o4 v6 M) (fun (r11 : Int32) => (if v2 < r11 then ((dX8_odds_51l v2 v3 o4 M k51_97 f) v5 (v6 + (1 : Int32))) else ((dX8_odds_51l v2 v3 o4 M k51_97 f) (v5 + (1 : Int32)) (v6 + (1 : Int32))))))))
def d_X8_odds (v1 : Int32) (v2 : Int32) (v3 : Int32) (M : Mem) : Option Int64 :=
  (bd1 (d_X0_has 6 v1 M) (fun (r1 : Int32) => (if r1 = 0 then (some (-9223372036854775808 : Int64)) else (if v2 < 0 then (some (-9223372036854775808 : Int64)) else (if (99 : Int32) < v2 then (some (-9223372036854775808 : Int64)) else (if v3 < 0 then (some (-9223372036854775808 : Int64)) else (if v3 ≤ (1 : Int32) then (if inB v1 6 = true then (dX8_odds_51l v2 v3 ((ft 6) v1.toNatClampNeg) M (fun (w13 : Int32) => (lm ((M 2 3) - (1 : Int32)) (fun (x14 : Int32) => (bd1 (d_X8_commonPart w13 x14 M) (fun (r15 : Int32) => (if v3 = 0 then (if r15 = 0 then none else (some ((w13 / r15).toInt64))) else (if r15 = 0 then none else (some ((x14 / r15).toInt64))))))))) FU (0 : Int32) (0 : Int32) ) else none) else (some (-9223372036854775808 : Int64)))))))))

def dX5_renew_21l (o0 : Nat)   : Nat → Int32 → Mem → Option Mem
  | 0, _, _ => none
  | f + 1, v3, M =>
  (if (M o0 2) ≤ v3 then (some M) else (if inB v3 60 = true then (lm (mu M (o0 + 1) v3.toNatClampNeg (0 : Int32)) (fun (M4 : Mem) => ((dX5_renew_21l o0   f) (v3 + (1 : Int32)) M4))) else none))
def d_X5_renew (o0 : Nat) (v1 : Int32) (v2 : Int32) (M : Mem) : Option Mem :=
  (lm (mu M o0 1 v1) (fun (M1 : Mem) => (lm (mu M1 o0 2 (if (0 : Int32) < (if (60 : Int32) < v2 then (60 : Int32) else v2) then (if (60 : Int32) < v2 then (60 : Int32) else v2) else (0 : Int32))) (fun (M2 : Mem) => (dX5_renew_21l o0   FU (0 : Int32) M2)))))

def d_X8_sheet (v1 : Int32) (v2 : Int32) (v3 : Int32) (M : Mem) : Option (Int32 × Mem) :=
  (lm (mu M 0 8 (0 : Int32)) (fun (M1 : Mem) => (bd1 (d_X8_isSheet v1 M1) (fun (r2 : Int32) => (if r2 = 0 then (some ((-1 : Int32), M1)) else (bd1 (d_X8_isLane v2 M1) (fun (r4 : Int32) => (if r4 = 0 then (some ((-2 : Int32), M1)) else (if v3 ≤ (60 : Int32) then (if 0 ≤ v3 then (if inB v1 4 = true then (bd1 (d_X5_renew (shd v1.toNatClampNeg) v2 v3 M1) (fun (M10 : Mem) => (some ((1 : Int32), M10)))) else none) else (bd2 (d_X8_faulted (4 : Int32) M1) (fun (r11 : Int32) (M12 : Mem) => (some (r11, M12))))) else (some ((-2 : Int32), M1)))))))))))

def d_X5_clear (o0 : Nat) (M : Mem) : Option Mem :=
  (lm (mu M o0 1 (-9 : Int32)) (fun (M1 : Mem) => (lm (mu M1 o0 2 (0 : Int32)) (fun (M2 : Mem) => (some M2)))))

def dX8_lose_26j  (v1 : Int32) (s0 : Int32) (M : Mem) : Option (Int32 × Mem) :=
  (if inB v1 4 = true then (bd1 (d_X5_clear (shd v1.toNatClampNeg) M) (fun (M9 : Mem) => (some (s0, M9)))) else none)
def d_X8_lose (v1 : Int32) (M : Mem) : Option (Int32 × Mem) :=
  (bd1 (d_X8_isSheet v1 M) (fun (r1 : Int32) => (if r1 = 0 then (some ((-1 : Int32), M)) else (if inB v1 4 = true then (bd1 (d_X5_hasNothing (shd v1.toNatClampNeg) M) (fun (r5 : Int32) => (if r5 = 0 then (dX8_lose_26j  v1 (1 : Int32) M) else (dX8_lose_26j  v1 (0 : Int32) M)))) else none))))

def d_X5_cut (o0 : Nat) (v1 : Int32) (M : Mem) : Option Int32 :=
  (if (M o0 1) = (0 : Int32) then (some v1.toInt8.toInt32) else (if (M o0 1) = (1 : Int32) then (some v1.toInt16.toInt32) else (some v1)))

def d_X5_set (o0 : Nat) (v1 : Int32) (v2 : Int32) (M : Mem) : Option Mem :=
  (if v1 < 0 then (some M) else (if (M o0 2) ≤ v1 then (some M) else (bd1 (d_X5_cut o0 v2 M) (fun (r3 : Int32) => (if inB v1 60 = true then (lm (mu M (o0 + 1) v1.toNatClampNeg r3) (fun (M4 : Mem) => (some M4))) else none)))))

def d_X8_put (v1 : Int32) (v2 : Int32) (v3 : Int32) (M : Mem) : Option (Int32 × Mem) :=
  (lm (mu M 0 8 (0 : Int32)) (fun (M1 : Mem) => (bd1 (d_X8_isSheet v1 M1) (fun (r2 : Int32) => (if r2 = 0 then (some ((-1 : Int32), M1)) else (if inB v1 4 = true then (bd1 (d_X5_hasNothing (shd v1.toNatClampNeg) M1) (fun (r6 : Int32) => (if r6 = 0 then (if inB v1 4 = true then (bd1 (d_X5_faultOfCells (shd v1.toNatClampNeg) v2 (1 : Int32) M1) (fun (r10 : Int32) => (if r10 = 0 then (if inB v1 4 = true then (bd1 (d_X5_set (shd v1.toNatClampNeg) v2 v3 M1) (fun (M14 : Mem) => (some ((1 : Int32), M14)))) else none) else (bd2 (d_X8_faulted r10 M1) (fun (r15 : Int32) (M16 : Mem) => (some (r15, M16))))))) else none) else (bd2 (d_X8_faulted (1 : Int32) M1) (fun (r17 : Int32) (M18 : Mem) => (some (r17, M18))))))) else none))))))

def d_X8_cell (v1 : Int32) (v2 : Int32) (v3 : Int32) (M : Mem) : Option (Int64 × Mem) :=
  (lm (mu M 0 8 (0 : Int32)) (fun (M1 : Mem) => (bd1 (d_X8_isSheet v1 M1) (fun (r2 : Int32) => (if r2 = 0 then (some ((-9223372036854775808 : Int64), M1)) else (bd1 (d_X8_isLane v3 M1) (fun (r4 : Int32) => (if r4 = 0 then (some ((-9223372036854775808 : Int64), M1)) else (if inB v1 4 = true then (bd1 (d_X5_faultAsRow (shd v1.toNatClampNeg) v3 v2 (1 : Int32) M1) (fun (r8 : Int32) => (lm (mu M1 0 8 r8) (fun (M9 : Mem) => (if (M9 0 8) = 0 then (if inB v1 4 = true then (bd1 (d_X5_at (shd v1.toNatClampNeg) v2 M9) (fun (r13 : Int32) => (some (r13.toInt64, M9)))) else none) else (some ((-9223372036854775808 : Int64), M9))))))) else none)))))))))

def dX8_copy_53j    (M : Mem) : Option (Int32 × Mem) :=
  (bd2 (d_X8_faulted (1 : Int32) M) (fun (r12 : Int32) (M13 : Mem) => (some (r12, M13))))
def dX8_copy_101j    (M : Mem) : Option (Int32 × Mem) :=
  (bd2 (d_X8_faulted (3 : Int32) M) (fun (r19 : Int32) (M20 : Mem) => (some (r19, M20))))
def d_X8_copy (v1 : Int32) (v2 : Int32) (v3 : Int32) (v4 : Int32) (v5 : Int32) (M : Mem) : Option (Int32 × Mem) :=
  (lm (mu M 0 8 (0 : Int32)) (fun (M1 : Mem) => (bd1 (d_X8_isSheet v1 M1) (fun (r2 : Int32) => (if r2 = 0 then (some ((-1 : Int32), M1)) else (bd1 (d_X8_isSheet v3 M1) (fun (r4 : Int32) => (if r4 = 0 then (some ((-1 : Int32), M1)) else (if inB v1 4 = true then (if inB v3 4 = true then (bd1 (d_X5_hasNothing (shd v1.toNatClampNeg) M1) (fun (r10 : Int32) => (if r10 = 0 then (bd1 (d_X5_hasNothing (shd v3.toNatClampNeg) M1) (fun (r14 : Int32) => (if r14 = 0 then (if (M1 (shd v1.toNatClampNeg) 1) = (M1 (shd v3.toNatClampNeg) 1) then (bd1 (d_X5_faultOfCells (shd v1.toNatClampNeg) v2 v5 M1) (fun (r17 : Int32) => (if r17 = 0 then (bd1 (d_X5_faultOfCells (shd v3.toNatClampNeg) v4 v5 M1) (fun (r21 : Int32) => (if r21 = 0 then (if cpB v2 v4 v5 60 60 = true then (lm (mcp M1 ((shd v1.toNatClampNeg) + 1) ((shd v3.toNatClampNeg) + 1) v2.toNatClampNeg v4.toNatClampNeg v5.toNatClampNeg) (fun (M23 : Mem) => (some (v5, M23)))) else none) else (dX8_copy_101j    M1)))) else (dX8_copy_101j    M1)))) else (bd2 (d_X8_faulted (2 : Int32) M1) (fun (r24 : Int32) (M25 : Mem) => (some (r24, M25))))) else (dX8_copy_53j    M1)))) else (dX8_copy_53j    M1)))) else none) else none)))))))))

def d_X8_leave (v1 : Int32) (M : Mem) : Option Mem :=
  (lm (mu M 0 7 (((31 : Int32) * (M 0 7)) + v1)) (fun (M1 : Mem) => (some M1)))

def d_X8_tellBoy (o1 : Nat) (M : Mem) : Option (Int32 × Mem) :=
  (bd1 (d_X8_leave (1 : Int32) M) (fun (M1 : Mem) => (some ((M1 o1 3), M1))))

def d_X8_tellMan (o1 : Nat) (M : Mem) : Option (Int32 × Mem) :=
  (bd1 (d_X8_leave (2 : Int32) M) (fun (M1 : Mem) => (bd2 (d_X8_tellBoy o1 M1) (fun (r2 : Int32) (M3 : Mem) => (some ((r2 + (100 : Int32)), M3))))))

def d_X8_tellPair (o1 : Nat) (M : Mem) : Option (Int32 × Mem) :=
  (bd1 (d_X8_leave (3 : Int32) M) (fun (M1 : Mem) => (bd2 (d_X8_tellMan o1 M1) (fun (r2 : Int32) (M3 : Mem) => (bd2 (d_X8_tellBoy o1 M3) (fun (r4 : Int32) (M5 : Mem) => (some ((r2 + r4), M5))))))))

def d_X8_tell (v1 : Int32) (M : Mem) : Option (Int32 × Mem) :=
  (bd1 (d_X0_has 6 v1 M) (fun (r1 : Int32) => (if r1 = 0 then (some ((-1 : Int32), M)) else (if inB v1 6 = true then (if (M ((ft 6) v1.toNatClampNeg) 0) = (0 : Int32) then (bd2 (d_X8_tellBoy ((ft 6) v1.toNatClampNeg) M) (fun (r8 : Int32) (M9 : Mem) => (some (r8, M9)))) else (if (M ((ft 6) v1.toNatClampNeg) 0) = (1 : Int32) then (bd2 (d_X8_tellMan ((ft 6) v1.toNatClampNeg) M) (fun (r11 : Int32) (M12 : Mem) => (some (r11, M12)))) else (bd2 (d_X8_tellPair ((ft 6) v1.toNatClampNeg) M) (fun (r5 : Int32) (M6 : Mem) => (some (r5, M6)))))) else none))))

def d_X8_ring (v1 : Int32) (M : Mem) : Option (Int32 × Mem) :=
  (bd1 (d_X0_has 6 v1 M) (fun (r1 : Int32) => (if r1 = 0 then (some ((-1 : Int32), M)) else (if inB v1 6 = true then (if (M ((ft 6) v1.toNatClampNeg) 0) = (2 : Int32) then (bd1 (d_X8_leave (5 : Int32) M) (fun (M7 : Mem) => (some ((60 : Int32), M7)))) else (bd1 (d_X8_leave (4 : Int32) M) (fun (M6 : Mem) => (some (v1, M6))))) else none))))

def d_X8_as (v1 : Int32) (v2 : Int32) (M : Mem) : Option (Int32 × Mem) :=
  (lm (mu M 0 8 (0 : Int32)) (fun (M1 : Mem) => (bd1 (d_X0_has 6 v1 M1) (fun (r2 : Int32) => (if r2 = 0 then (some ((-1 : Int32), M1)) else (bd1 (d_X8_isKind v2 M1) (fun (r4 : Int32) => (if r4 = 0 then (some ((-2 : Int32), M1)) else (if inB v1 6 = true then (if (M1 ((ft 6) v1.toNatClampNeg) 0) < v2 then (bd2 (d_X8_faulted (2 : Int32) M1) (fun (r9 : Int32) (M10 : Mem) => (some (r9, M10)))) else (some ((1 : Int32), M1))) else none)))))))))

def d_X8_trace  (M : Mem) : Option Int32 :=
  (some (M 0 7))

def d_X8_fault  (M : Mem) : Option Int32 :=
  (some (M 0 8))

def d_X8_many (v1 : Int32) (M : Mem) : Option Int32 :=
  (if v1 = (0 : Int32) then (some (M 6 1)) else (if v1 = (1 : Int32) then (some (M 2 3)) else (if v1 = (2 : Int32) then (some (M 0 6)) else (if v1 = (3 : Int32) then (bd1 (d_X0_countArrived 6 M) (fun (r5 : Int32) => (some r5))) else (if v1 = (4 : Int32) then (some (M 25 3)) else (some (-2 : Int32)))))))

def d_X9_in (v0 : Int64) (v2 : Int64) (v4 : Int64) (M : Mem) : Option Int32 :=
  (if (lg_cmp v0 v2) < 0 then (some (0 : Int32)) else (if 0 < (lg_cmp v0 v4) then (some (0 : Int32)) else (some (1 : Int32))))

def d_X9_lost  (M : Mem) : Option Int64 :=
  (some (-9223372036854775808 : Int64))

def d_X9_isIn (v0 : Int32) (v1 : Int32) (M : Mem) : Option Int32 :=
  (if ((v0 >>> (v1 &&& 31)) &&& (1 : Int32)) = (1 : Int32) then (some (1 : Int32)) else (some (0 : Int32)))

def dX9_bits_4l  (M : Mem)  : Nat → Int32 → Int32 → Option Int32
  | 0, _, _ => none
  | f + 1, v1 , v2 =>
  (if v2 ≤ 0 then (some v1) else (lm (v1 + (v2 &&& (1 : Int32))) (fun (x2 : Int32) => (lm (v2 >>> ((1 : Int32) &&& 31)) (fun (x3 : Int32) => ((dX9_bits_4l  M  f) x2 x3))))))
def d_X9_bits (v0 : Int32) (M : Mem) : Option Int32 :=
  (dX9_bits_4l  M  FU (0 : Int32) v0 )

def dX9_share_6l (v0 : Int64) (v2 : Int64) (v4 : Int32) (M : Mem) (k6_31 : Int64 → Option Int64) : Nat → Int64 → Int64 → Option Int64
  | 0, _, _ => none
  | f + 1, v5 , v7 =>
  (if (lg_cmp v7 (0 : Int64)) = 0 then (k6_31 v5) else (if v7 = 0 then none else (lm (v5 - v5 / v7 * v7) (fun (x2 : Int64) => ((dX9_share_6l v0 v2 v4 M k6_31 f) v7 x2)))))
def d_X9_share (v0 : Int64) (v2 : Int64) (v4 : Int32) (M : Mem) : Option Int64 :=
  (dX9_share_6l v0 v2 v4 M (fun (w3 : Int64) => (if v4 = 0 then (if w3 = 0 then none else (some (v0 / w3))) else (if w3 = 0 then none else (some (v2 / w3))))) FU v0 v2 )

def d_X9_refused (v1 : Int32) (M : Mem) : Option (Int32 × Mem) :=
  (lm (mu M 0 0 (0 : Int32)) (fun (M1 : Mem) => (some (v1, M1))))

def d_X9_failed (v1 : Int32) (M : Mem) : Option (Int32 × Mem) :=
  (lm (mu M 0 0 v1) (fun (M1 : Mem) => (some (((-10 : Int32) - v1), M1))))

def d_X9_failedLong (v1 : Int32) (M : Mem) : Option (Int64 × Mem) :=
  (lm (mu M 0 0 v1) (fun (M1 : Mem) => (bd1 (d_X9_lost  M1) (fun (r2 : Int64) => (some (r2, M1))))))

def d_X9_noFootman (v1 : Int32) (M : Mem) : Option Int32 :=
  (bd1 (d_X9_in v1.toInt64 (0 : Int64) (((M 0 2).toInt64) - (1 : Int64)) M) (fun (r1 : Int32) => (if r1 = 0 then (some (1 : Int32)) else (some (0 : Int32)))))

def d_X9_noCorner (v1 : Int32) (M : Mem) : Option Int32 :=
  (bd1 (d_X9_in v1.toInt64 (0 : Int64) (((M 0 1).toInt64) - (1 : Int64)) M) (fun (r1 : Int32) => (if r1 = 0 then (some (1 : Int32)) else (some (0 : Int32)))))

def d_X9_codeAt (v1 : Int32) (v2 : Int32) (M : Mem) : Option Int32 :=
  (if v2 ≤ (M 0 12) then (some (-9 : Int32)) else (if inB (v1 + (M 0 12)) 240 = true then (some (M 23 (v1 + (M 0 12)).toNatClampNeg)) else none))

def dX9_figure_49j  (v6 : Int32) (v7 : Int32) (s0 : Int32) (s1 : Int32) (M : Mem) : Option (Int32 × Mem) :=
  (lm (mu M 0 12 (s1 + s0)) (fun (M5 : Mem) => (if v7 = 0 then (some ((-9 : Int32), M5)) else (some (v6, M5)))))
def dX9_figure_18j  (v4 : Int32) (v5 : Int32) (s0 : Int32) (M : Mem) : Option (Int32 × Mem) :=
  (bd1 (d_X9_in s0.toInt64 v4.toInt64 v5.toInt64 M) (fun (r3 : Int32) => (if r3 = 0 then (dX9_figure_49j  s0 r3 (0 : Int32) (M 0 12) M) else (dX9_figure_49j  s0 r3 (1 : Int32) (M 0 12) M))))
def d_X9_figure (v1 : Int32) (v2 : Int32) (v3 : Int32) (v4 : Int32) (v5 : Int32) (M : Mem) : Option (Int32 × Mem) :=
  (if 0 ≤ v3 then (bd1 (d_X9_codeAt v1 v2 M) (fun (r2 : Int32) => (dX9_figure_18j  v4 v5 (r2 - (48 : Int32)) M))) else (dX9_figure_18j  v4 v5 (-9 : Int32) M))

def dX9_readsStreets_59l (v1 : Int32) (v2 : Int32) (v4 : Int32)  (k59_149 : Int32 → Mem → Option (Int32 × Mem)) : Nat → Int32 → Int32 → Mem → Option (Int32 × Mem)
  | 0, _, _, _ => none
  | f + 1, v3 , v5, M =>
  (if v3 = 0 then (k59_149 v3 M) else (if (M 0 13) ≤ v5 then (k59_149 v3 M) else (bd2 (d_X9_figure v1 v2 (0 : Int32) (0 : Int32) (9 : Int32) M) (fun (r11 : Int32) (M12 : Mem) => (if inB (((6 : Int32) * v4) + v5) 36 = true then (lm (mu M12 8 (((6 : Int32) * v4) + v5).toNatClampNeg r11) (fun (M13 : Mem) => (if inB (((6 : Int32) * v4) + v5) 36 = true then (if inB (((6 : Int32) * v5) + v4) 36 = true then (lm (mu M13 8 (((6 : Int32) * v5) + v4).toNatClampNeg (M13 8 (((6 : Int32) * v4) + v5).toNatClampNeg)) (fun (M14 : Mem) => (if inB (((6 : Int32) * v4) + v5) 36 = true then (if (M14 8 (((6 : Int32) * v4) + v5).toNatClampNeg) < 0 then ((dX9_readsStreets_59l v1 v2 v4  k59_149 f) (0 : Int32) (v5 + (1 : Int32)) M14) else ((dX9_readsStreets_59l v1 v2 v4  k59_149 f) (1 : Int32) (v5 + (1 : Int32)) M14)) else none))) else none) else none))) else none)))))
def dX9_readsStreets_30l (v1 : Int32) (v2 : Int32)   : Nat → Int32 → Int32 → Mem → Option (Int32 × Mem)
  | 0, _, _, _ => none
  | f + 1, v3 , v4, M =>
  (if (M 0 13) ≤ v4 then (if isZ v3 = true then (some (v3, M)) else none) else (if inB (((6 : Int32) * v4) + v4) 36 = true then (lm (mu M 8 (((6 : Int32) * v4) + v4).toNatClampNeg (0 : Int32)) (fun (M7 : Mem) => (lm (v4 + (1 : Int32)) (fun (x8 : Int32) => (dX9_readsStreets_59l v1 v2 v4  (fun (w16 : Int32) (M17 : Mem) => ((dX9_readsStreets_30l v1 v2   f) w16 (v4 + (1 : Int32)) M17)) FU v3 x8 M7))))) else none))
def dX9_readsStreets_26j  (v1 : Int32) (v2 : Int32) (s0 : Int32) (M : Mem) : Option (Int32 × Mem) :=
  (dX9_readsStreets_30l v1 v2   FU s0 (0 : Int32) M)
def d_X9_readsStreets (v1 : Int32) (v2 : Int32) (M : Mem) : Option (Int32 × Mem) :=
  (bd2 (d_X9_figure v1 v2 (0 : Int32) (2 : Int32) (6 : Int32) M) (fun (r1 : Int32) (M2 : Mem) => (lm (mu M2 0 13 r1) (fun (M3 : Mem) => (if (M3 0 13) ≤ 0 then (dX9_readsStreets_26j  v1 v2 (0 : Int32) M3) else (dX9_readsStreets_26j  v1 v2 (1 : Int32) M3))))))

def dX9_readsFootman_143j  (v4 : Int32) (v5 : Int32) (v6 : Int32) (s0 : Int32) (s1 : Int32) (M : Mem) : Option (Int32 × Mem) :=
  (if inB s1 6 = true then (lm (mu M 9 s1.toNatClampNeg s0) (fun (M16 : Mem) => (if inB (M16 0 14) 6 = true then (lm (mu M16 10 (M16 0 14).toNatClampNeg v4) (fun (M17 : Mem) => (if inB (M17 0 14) 6 = true then (lm (mu M17 11 (M17 0 14).toNatClampNeg v5) (fun (M18 : Mem) => (if inB (M18 0 14) 6 = true then (lm (mu M18 12 (M18 0 14).toNatClampNeg v6) (fun (M19 : Mem) => (lm (mu M19 0 14 ((M19 0 14) + (1 : Int32))) (fun (M20 : Mem) => (if v6 < 0 then (some ((0 : Int32), M20)) else (some ((1 : Int32), M20))))))) else none))) else none))) else none))) else none)
def dX9_readsFootman_58j  (v1 : Int32) (v2 : Int32) (v3 : Int32)  (M : Mem) : Option (Int32 × Mem) :=
  (lm (mu M 0 12 ((M 0 12) + (1 : Int32))) (fun (M7 : Mem) => (bd2 (d_X9_figure v1 v2 (0 : Int32) (0 : Int32) ((M7 0 13) - (1 : Int32)) M7) (fun (r8 : Int32) (M9 : Mem) => (bd2 (d_X9_figure v1 v2 r8 (0 : Int32) ((M9 0 13) - (1 : Int32)) M9) (fun (r10 : Int32) (M11 : Mem) => (bd2 (d_X9_figure v1 v2 r10 (1 : Int32) (9 : Int32) M11) (fun (r12 : Int32) (M13 : Mem) => (if v3 = (98 : Int32) then (dX9_readsFootman_143j  r8 r10 r12 (0 : Int32) (M13 0 14) M13) else (if v3 = (109 : Int32) then (dX9_readsFootman_143j  r8 r10 r12 (1 : Int32) (M13 0 14) M13) else (dX9_readsFootman_143j  r8 r10 r12 (2 : Int32) (M13 0 14) M13)))))))))))
def d_X9_readsFootman (v1 : Int32) (v2 : Int32) (M : Mem) : Option (Int32 × Mem) :=
  (if (M 0 14) = (5 : Int32) then (some ((0 : Int32), M)) else (bd1 (d_X9_codeAt v1 v2 M) (fun (r2 : Int32) => (if r2 = (59 : Int32) then (lm (mu M 0 12 ((M 0 12) + (1 : Int32))) (fun (M4 : Mem) => (bd1 (d_X9_codeAt v1 v2 M4) (fun (r5 : Int32) => (if r5 = (98 : Int32) then (dX9_readsFootman_58j  v1 v2 r5  M4) else (if r5 = (109 : Int32) then (dX9_readsFootman_58j  v1 v2 r5  M4) else (if r5 = (112 : Int32) then (dX9_readsFootman_58j  v1 v2 r5  M4) else (some ((0 : Int32), M4))))))))) else (some ((0 : Int32), M))))))

def dX9_readsTown_60j (rec40 : Int32 → Mem → Option (Int32 × Mem)) (v1 : Int32) (v2 : Int32)  (M : Mem) : Option (Int32 × Mem) :=
  (bd2 (d_X9_readsFootman v1 v2 M) (fun (r11 : Int32) (M12 : Mem) => (rec40 r11 M12)))
def dX9_readsTown_40l (v1 : Int32) (v2 : Int32)   : Nat → Int32 → Mem → Option (Int32 × Mem)
  | 0, _, _ => none
  | f + 1, v3, M =>
  (if v3 = 0 then (if isZ v3 = true then (some (v3, M)) else none) else (if (M 0 14) < (1 : Int32) then (dX9_readsTown_60j (dX9_readsTown_40l v1 v2   f) v1 v2  M) else (if v2 ≤ (M 0 12) then (if isZ v3 = true then (some (v3, M)) else none) else (dX9_readsTown_60j (dX9_readsTown_40l v1 v2   f) v1 v2  M))))
def d_X9_readsTown (v1 : Int32) (v2 : Int32) (M : Mem) : Option (Int32 × Mem) :=
  (lm (mu M 0 12 (0 : Int32)) (fun (M1 : Mem) => (lm (mu M1 0 14 (0 : Int32)) (fun (M2 : Mem) => (bd1 (d_X9_codeAt v1 v2 M2) (fun (r3 : Int32) => (if r3 = (116 : Int32) then (lm (mu M2 0 12 ((M2 0 12) + (1 : Int32))) (fun (M5 : Mem) => (bd2 (d_X9_readsStreets v1 v2 M5) (fun (r6 : Int32) (M7 : Mem) => (dX9_readsTown_40l v1 v2   FU r6 M7))))) else (some ((0 : Int32), M2)))))))))

def d_X9_isBeyond (v0 : Int32) (v1 : Int64) (v3 : Int32) (M : Mem) : Option Int32 :=
  (if v0 < 0 then (some (1 : Int32)) else (if (lg_cmp v1 (0 : Int64)) < 0 then (some (1 : Int32)) else (if (lg_cmp (v0.toInt64 + v1) v3.toInt64) ≤ 0 then (some (0 : Int32)) else (some (1 : Int32)))))

def dX9_cellsBarred_25j  (v1 : Int32) (v3 : Int32) (v4 : Int64)  (M : Mem) : Option (Int32 × Mem) :=
  (if inB v1 4 = true then (if 0 ≤ (M 21 v1.toNatClampNeg) then (if 0 ≤ (lg_cmp v4 (0 : Int64)) then (if inB v1 4 = true then (bd1 (d_X9_isBeyond v3 v4 (M 21 v1.toNatClampNeg) M) (fun (r4 : Int32) => (if r4 = 0 then (some ((0 : Int32), M)) else (bd2 (d_X9_failed (3 : Int32) M) (fun (r6 : Int32) (M7 : Mem) => (some (r6, M7))))))) else none) else (bd2 (d_X9_failed (4 : Int32) M) (fun (r8 : Int32) (M9 : Mem) => (some (r8, M9))))) else (bd2 (d_X9_failed (1 : Int32) M) (fun (r10 : Int32) (M11 : Mem) => (some (r10, M11))))) else none)
def d_X9_cellsBarred (v1 : Int32) (v2 : Int32) (v3 : Int32) (v4 : Int64) (M : Mem) : Option (Int32 × Mem) :=
  (if inB v1 4 = true then (if (M 21 v1.toNatClampNeg) < 0 then (dX9_cellsBarred_25j  v1 v3 v4  M) else (if inB v1 4 = true then (if (M 22 v1.toNatClampNeg) = v2 then (dX9_cellsBarred_25j  v1 v3 v4  M) else (bd2 (d_X9_failed (2 : Int32) M) (fun (r13 : Int32) (M14 : Mem) => (some (r13, M14))))) else none)) else none)

def d_X9_noSheet (v0 : Int32) (M : Mem) : Option Int32 :=
  (bd1 (d_X9_in v0.toInt64 (0 : Int64) (3 : Int64) M) (fun (r1 : Int32) => (if r1 = 0 then (some (1 : Int32)) else (some (0 : Int32)))))

def dX9_measures_44j (rec2 : Int32 → Mem → Option Mem) (v1 : Int32) (s0 : Int32) (s1 : Int32) (M : Mem) : Option Mem :=
  (if inB s1 36 = true then (lm (mu M 2 s1.toNatClampNeg s0) (fun (M4 : Mem) => (rec2 (v1 + (1 : Int32)) M4))) else none)
def dX9_measures_2l   (k2_51 : Mem → Option Mem) : Nat → Int32 → Mem → Option Mem
  | 0, _, _ => none
  | f + 1, v1, M =>
  (if (36 : Int32) ≤ v1 then (k2_51  M) else (if (7 : Int32) = 0 then none else (if (v1 - v1 / (7 : Int32) * (7 : Int32)) = 0 then (dX9_measures_44j (dX9_measures_2l   k2_51 f) v1 (0 : Int32) v1 M) else (if inB v1 36 = true then (if (M 1 v1.toNatClampNeg) ≤ 0 then (dX9_measures_44j (dX9_measures_2l   k2_51 f) v1 (-9 : Int32) v1 M) else (if inB v1 36 = true then (dX9_measures_44j (dX9_measures_2l   k2_51 f) v1 (M 1 v1.toNatClampNeg) v1 M) else none)) else none))))
def dX9_measures_203j (rec73 : Int32 → Mem → Option Mem) (v1 : Int32) (v2 : Int32) (v3 : Int32) (s0 : Int32) (s1 : Int32) (M : Mem) : Option Mem :=
  (if inB s1 36 = true then (lm (mu M 2 s1.toNatClampNeg s0) (fun (M14 : Mem) => (rec73 (v3 + (1 : Int32)) M14))) else none)
def dX9_measures_167j (rec73 : Int32 → Mem → Option Mem) (v1 : Int32) (v2 : Int32) (v3 : Int32) (v4 : Int32) (v5 : Int32) (s0 : Int32) (M : Mem) : Option Mem :=
  (if s0 = 0 then (if inB (((6 : Int32) * v2) + v3) 36 = true then (dX9_measures_203j rec73 v1 v2 v3 (M 2 (((6 : Int32) * v2) + v3).toNatClampNeg) (((6 : Int32) * v2) + v3) M) else none) else (dX9_measures_203j rec73 v1 v2 v3 (v4 + v5) (((6 : Int32) * v2) + v3) M))
def dX9_measures_166j (rec73 : Int32 → Mem → Option Mem) (v1 : Int32) (v2 : Int32) (v3 : Int32) (v4 : Int32) (v5 : Int32)  (M : Mem) : Option Mem :=
  (dX9_measures_167j rec73 v1 v2 v3 v4 v5 (0 : Int32) M)
def dX9_measures_162j (rec73 : Int32 → Mem → Option Mem) (v1 : Int32) (v2 : Int32) (v3 : Int32) (v4 : Int32) (v5 : Int32)  (M : Mem) : Option Mem :=
  (dX9_measures_167j rec73 v1 v2 v3 v4 v5 (1 : Int32) M)
def dX9_measures_122j (rec73 : Int32 → Mem → Option Mem) (v1 : Int32) (v2 : Int32) (v3 : Int32) (v4 : Int32) (v5 : Int32) (s0 : Int32) (M : Mem) : Option Mem :=
  (if s0 = 0 then (dX9_measures_166j rec73 v1 v2 v3 v4 v5  M) else (if inB (((6 : Int32) * v2) + v3) 36 = true then (if (M 2 (((6 : Int32) * v2) + v3).toNatClampNeg) < 0 then (dX9_measures_162j rec73 v1 v2 v3 v4 v5  M) else (if inB (((6 : Int32) * v2) + v3) 36 = true then (if (M 2 (((6 : Int32) * v2) + v3).toNatClampNeg) ≤ (v4 + v5) then (dX9_measures_166j rec73 v1 v2 v3 v4 v5  M) else (dX9_measures_162j rec73 v1 v2 v3 v4 v5  M)) else none)) else none))
def dX9_measures_121j (rec73 : Int32 → Mem → Option Mem) (v1 : Int32) (v2 : Int32) (v3 : Int32) (v4 : Int32) (v5 : Int32)  (M : Mem) : Option Mem :=
  (dX9_measures_122j rec73 v1 v2 v3 v4 v5 (0 : Int32) M)
def dX9_measures_73l (v1 : Int32) (v2 : Int32)  (k73_210 : Mem → Option Mem) : Nat → Int32 → Mem → Option Mem
  | 0, _, _ => none
  | f + 1, v3, M =>
  (if (M 0 1) ≤ v3 then (k73_210  M) else (if inB (((6 : Int32) * v2) + v1) 36 = true then (lm (M 2 (((6 : Int32) * v2) + v1).toNatClampNeg) (fun (x9 : Int32) => (if inB (((6 : Int32) * v1) + v3) 36 = true then (lm (M 2 (((6 : Int32) * v1) + v3).toNatClampNeg) (fun (x10 : Int32) => (if x9 < 0 then (dX9_measures_121j (dX9_measures_73l v1 v2  k73_210 f) v1 v2 v3 x9 x10  M) else (if x10 < 0 then (dX9_measures_121j (dX9_measures_73l v1 v2  k73_210 f) v1 v2 v3 x9 x10  M) else (dX9_measures_122j (dX9_measures_73l v1 v2  k73_210 f) v1 v2 v3 x9 x10 (1 : Int32) M))))) else none))) else none))
def dX9_measures_63l (v1 : Int32)  (k63_216 : Mem → Option Mem) : Nat → Int32 → Mem → Option Mem
  | 0, _, _ => none
  | f + 1, v2, M =>
  (if (M 0 1) ≤ v2 then (k63_216  M) else (dX9_measures_73l v1 v2  (fun  (M18 : Mem) => ((dX9_measures_63l v1  k63_216 f) (v2 + (1 : Int32)) M18)) FU (0 : Int32) M))
def dX9_measures_53l    : Nat → Int32 → Mem → Option Mem
  | 0, _, _ => none
  | f + 1, v1, M =>
  (if (M 0 1) ≤ v1 then (some M) else (dX9_measures_63l v1  (fun  (M19 : Mem) => ((dX9_measures_53l    f) (v1 + (1 : Int32)) M19)) FU (0 : Int32) M))
def d_X9_measures  (M : Mem) : Option Mem :=
  (dX9_measures_2l   (fun  (M5 : Mem) => (dX9_measures_53l    FU (0 : Int32) M5)) FU (0 : Int32) M)

def dX9_town_108l   (k108_135 : Mem → Option (Int32 × Mem)) : Nat → Int32 → Mem → Option (Int32 × Mem)
  | 0, _, _ => none
  | f + 1, v6, M =>
  (if (36 : Int32) ≤ v6 then (k108_135  M) else (if inB v6 36 = true then (if inB v6 36 = true then (lm (mu M 1 v6.toNatClampNeg (M 8 v6.toNatClampNeg)) (fun (M16 : Mem) => ((dX9_town_108l   k108_135 f) (v6 + (1 : Int32)) M16))) else none) else none))
def dX9_town_138l   (k138_217 : Mem → Option (Int32 × Mem)) : Nat → Int32 → Mem → Option (Int32 × Mem)
  | 0, _, _ => none
  | f + 1, v6, M =>
  (if (M 0 2) ≤ v6 then (k138_217  M) else (if inB v6 6 = true then (if inB v6 6 = true then (lm (mu M 3 v6.toNatClampNeg (M 9 v6.toNatClampNeg)) (fun (M19 : Mem) => (if inB v6 6 = true then (if inB v6 6 = true then (lm (mu M19 4 v6.toNatClampNeg (M19 10 v6.toNatClampNeg)) (fun (M20 : Mem) => (if inB v6 6 = true then (if inB v6 6 = true then (lm (mu M20 5 v6.toNatClampNeg (M20 11 v6.toNatClampNeg)) (fun (M21 : Mem) => (if inB v6 6 = true then (if inB v6 6 = true then (lm (mu M21 6 v6.toNatClampNeg (M21 12 v6.toNatClampNeg)) (fun (M22 : Mem) => (if inB v6 6 = true then (lm (mu M22 7 v6.toNatClampNeg (0 : Int32)) (fun (M23 : Mem) => ((dX9_town_138l   k138_217 f) (v6 + (1 : Int32)) M23))) else none))) else none) else none))) else none) else none))) else none) else none))) else none) else none))
def d_X9_town (v1 : Int32) (v2 : Int32) (v3 : Int32) (v4 : Int32) (M : Mem) : Option (Int32 × Mem) :=
  (bd1 (d_X9_noSheet v1 M) (fun (r1 : Int32) => (if r1 = 0 then (bd1 (d_X9_in v2.toInt64 (0 : Int64) (2 : Int64) M) (fun (r3 : Int32) => (if r3 = 0 then (bd2 (d_X9_refused (-2 : Int32) M) (fun (r31 : Int32) (M32 : Mem) => (some (r31, M32)))) else (bd2 (d_X9_cellsBarred v1 v2 v3 v4.toInt64 M) (fun (r5 : Int32) (M6 : Mem) => (if 0 ≤ r5 then (bd2 (d_X9_readsTown (((60 : Int32) * v1) + v3) v4 M6) (fun (r8 : Int32) (M9 : Mem) => (if r8 = 0 then (bd2 (d_X9_refused ((-100 : Int32) - (M9 0 12)) M9) (fun (r29 : Int32) (M30 : Mem) => (some (r29, M30)))) else (lm (mu M9 0 1 (M9 0 13)) (fun (M11 : Mem) => (lm (mu M11 0 2 (M11 0 14)) (fun (M12 : Mem) => (lm (mu M12 0 3 (0 : Int32)) (fun (M13 : Mem) => (lm (mu M13 0 4 (0 : Int32)) (fun (M14 : Mem) => (dX9_town_108l   (fun  (M17 : Mem) => (dX9_town_138l   (fun  (M24 : Mem) => (lm (mu M24 0 30 (0 : Int32)) (fun (M25 : Mem) => (bd1 (d_X9_measures  M25) (fun (M26 : Mem) => (bd2 (d_X9_refused (M26 0 2) M26) (fun (r27 : Int32) (M28 : Mem) => (some (r27, M28))))))))) FU (0 : Int32) M17)) FU (0 : Int32) M14)))))))))))) else (some (r5, M6)))))))) else (bd2 (d_X9_refused (-1 : Int32) M) (fun (r33 : Int32) (M34 : Mem) => (some (r33, M34)))))))

def d_X9_farFrom (v1 : Int32) (v2 : Int32) (M : Mem) : Option Int32 :=
  (if inB (((6 : Int32) * v1) + v2) 36 = true then (some (M 2 (((6 : Int32) * v1) + v2).toNatClampNeg)) else none)

def d_X9_paceOf (v1 : Int32) (M : Mem) : Option Int32 :=
  (if inB v1 6 = true then (lm ((M 6 v1.toNatClampNeg) + (1 : Int32)) (fun (x1 : Int32) => (if inB v1 6 = true then (if (M 3 v1.toNatClampNeg) = 0 then (if inB v1 6 = true then (some (M 6 v1.toNatClampNeg)) else none) else (if inB v1 6 = true then (if (M 3 v1.toNatClampNeg) = (1 : Int32) then (some x1) else (if (2 : Int32) = 0 then none else (some (x1 / (2 : Int32))))) else none)) else none))) else none)

def d_X9_hasArrived (v1 : Int32) (M : Mem) : Option Int32 :=
  (if inB v1 6 = true then (if inB v1 6 = true then (bd1 (d_X9_farFrom (M 4 v1.toNatClampNeg) (M 5 v1.toNatClampNeg) M) (fun (r1 : Int32) => (if r1 < 0 then (some (0 : Int32)) else (if inB v1 6 = true then (if (M 7 v1.toNatClampNeg) < r1 then (some (0 : Int32)) else (some (1 : Int32))) else none)))) else none) else none)

def d_X9_ofFootman (v1 : Int32) (v2 : Int32) (M : Mem) : Option Int32 :=
  (bd1 (d_X9_noFootman v1 M) (fun (r1 : Int32) => (if r1 = 0 then (if v2 = (0 : Int32) then (if inB v1 6 = true then (some (M 3 v1.toNatClampNeg)) else none) else (if v2 = (1 : Int32) then (if inB v1 6 = true then (some (M 4 v1.toNatClampNeg)) else none) else (if v2 = (2 : Int32) then (if inB v1 6 = true then (some (M 5 v1.toNatClampNeg)) else none) else (if v2 = (3 : Int32) then (if inB v1 6 = true then (some (M 6 v1.toNatClampNeg)) else none) else (if v2 = (4 : Int32) then (bd1 (d_X9_paceOf v1 M) (fun (r8 : Int32) => (some r8))) else (if v2 = (5 : Int32) then (if inB v1 6 = true then (some (M 7 v1.toNatClampNeg)) else none) else (if v2 = (6 : Int32) then (some (((M 0 4) >>> (v1 &&& 31)) &&& (1 : Int32))) else (if v2 = (7 : Int32) then (bd1 (d_X9_hasArrived v1 M) (fun (r12 : Int32) => (if r12 = 0 then (some (0 : Int32)) else (some (1 : Int32))))) else (some (-2 : Int32)))))))))) else (some (-1 : Int32)))))

def d_X9_street (v1 : Int32) (v2 : Int32) (M : Mem) : Option Int32 :=
  (bd1 (d_X9_noCorner v1 M) (fun (r1 : Int32) => (if r1 = 0 then (bd1 (d_X9_noCorner v2 M) (fun (r3 : Int32) => (if r3 = 0 then (if v1 = v2 then (some (-1 : Int32)) else (if inB (((6 : Int32) * v1) + v2) 36 = true then (some (M 1 (((6 : Int32) * v1) + v2).toNatClampNeg)) else none)) else (some (-1 : Int32))))) else (some (-1 : Int32)))))

def d_X9_pave (v1 : Int32) (v2 : Int32) (v3 : Int32) (M : Mem) : Option (Int32 × Mem) :=
  (bd1 (d_X9_noCorner v1 M) (fun (r1 : Int32) => (if r1 = 0 then (bd1 (d_X9_noCorner v2 M) (fun (r3 : Int32) => (if r3 = 0 then (if v1 = v2 then (some ((-1 : Int32), M)) else (bd1 (d_X9_in v3.toInt64 (0 : Int64) (9 : Int64) M) (fun (r6 : Int32) => (if r6 = 0 then (some ((-2 : Int32), M)) else (if inB (((6 : Int32) * v1) + v2) 36 = true then (lm (M 1 (((6 : Int32) * v1) + v2).toNatClampNeg) (fun (x8 : Int32) => (if inB (((6 : Int32) * v1) + v2) 36 = true then (lm (mu M 1 (((6 : Int32) * v1) + v2).toNatClampNeg v3) (fun (M9 : Mem) => (if inB (((6 : Int32) * v2) + v1) 36 = true then (lm (mu M9 1 (((6 : Int32) * v2) + v1).toNatClampNeg v3) (fun (M10 : Mem) => (bd1 (d_X9_measures  M10) (fun (M11 : Mem) => (some (x8, M11)))))) else none))) else none))) else none))))) else (some ((-1 : Int32), M))))) else (some ((-1 : Int32), M)))))

def d_X9_far (v1 : Int32) (v2 : Int32) (M : Mem) : Option Int32 :=
  (bd1 (d_X9_noCorner v1 M) (fun (r1 : Int32) => (if r1 = 0 then (bd1 (d_X9_noCorner v2 M) (fun (r3 : Int32) => (if r3 = 0 then (bd1 (d_X9_farFrom v1 v2 M) (fun (r5 : Int32) => (some r5))) else (some (-1 : Int32))))) else (some (-1 : Int32)))))

def dX9_arrived_4l  (M : Mem)  : Nat → Int32 → Int32 → Option Int32
  | 0, _, _ => none
  | f + 1, v1 , v2 =>
  (if (M 0 2) ≤ v2 then (some v1) else (bd1 (d_X9_hasArrived v2 M) (fun (r2 : Int32) => (if r2 = 0 then (lm (v1 + (0 : Int32)) (fun (x4 : Int32) => ((dX9_arrived_4l  M  f) x4 (v2 + (1 : Int32))))) else (lm (v1 + (1 : Int32)) (fun (x5 : Int32) => ((dX9_arrived_4l  M  f) x5 (v2 + (1 : Int32)))))))))
def d_X9_arrived  (M : Mem) : Option Int32 :=
  (dX9_arrived_4l  M  FU (0 : Int32) (0 : Int32) )

def dX9_passes_45j (rec2 : Int32 → Mem → Option Mem) (v1 : Int32) (s0 : Int32) (s1 : Int32) (s2 : Int32) (M : Mem) : Option Mem :=
  (if inB s2 6 = true then (lm (mu M 7 s2.toNatClampNeg (s1 + s0)) (fun (M4 : Mem) => (rec2 (v1 + (1 : Int32)) M4))) else none)
def dX9_passes_36j (rec2 : Int32 → Mem → Option Mem) (v1 : Int32) (s0 : Int32) (s1 : Int32) (M : Mem) : Option Mem :=
  (dX9_passes_45j rec2 v1 (0 : Int32) s0 s1 M)
def dX9_passes_2l   (k2_53 : Mem → Option Mem) : Nat → Int32 → Mem → Option Mem
  | 0, _, _ => none
  | f + 1, v1, M =>
  (if (M 0 2) ≤ v1 then (k2_53  M) else (if inB v1 6 = true then (bd1 (d_X9_isIn (M 0 4) v1 M) (fun (r2 : Int32) => (if r2 = 0 then (bd1 (d_X9_hasArrived v1 M) (fun (r5 : Int32) => (if r5 = 0 then (bd1 (d_X9_paceOf v1 M) (fun (r7 : Int32) => (dX9_passes_45j (dX9_passes_2l   k2_53 f) v1 r7 (M 7 v1.toNatClampNeg) v1 M))) else (dX9_passes_36j (dX9_passes_2l   k2_53 f) v1 (M 7 v1.toNatClampNeg) v1 M)))) else (dX9_passes_36j (dX9_passes_2l   k2_53 f) v1 (M 7 v1.toNatClampNeg) v1 M)))) else none))
def d_X9_passes  (M : Mem) : Option Mem :=
  (dX9_passes_2l   (fun  (M8 : Mem) => (lm (mu M8 0 3 ((M8 0 3) + (1 : Int32))) (fun (M9 : Mem) => (some M9)))) FU (0 : Int32) M)

def dX9_days_32l (v1 : Int32) (v2 : Int32)  (k32_47 : Mem → Option (Int32 × Mem)) : Nat → Int32 → Mem → Option (Int32 × Mem)
  | 0, _, _ => none
  | f + 1, v3, M =>
  (if v1 ≤ v3 then (k32_47  M) else (bd1 (d_X9_passes  M) (fun (M6 : Mem) => ((dX9_days_32l v1 v2  k32_47 f) (v3 + (1 : Int32)) M6))))
def d_X9_days (v1 : Int32) (M : Mem) : Option (Int32 × Mem) :=
  (bd1 (d_X9_in v1.toInt64 (1 : Int64) (99 : Int64) M) (fun (r1 : Int32) => (if r1 = 0 then (some ((-2 : Int32), M)) else (if (M 0 2) = 0 then (some ((-3 : Int32), M)) else (bd1 (d_X9_arrived  M) (fun (r4 : Int32) => (dX9_days_32l v1 r4  (fun  (M7 : Mem) => (bd1 (d_X9_arrived  M7) (fun (r8 : Int32) => (some ((r8 - r4), M7))))) FU (0 : Int32) M)))))))

def dX9_sat_16j  (v1 : Int32) (s0 : Int32) (M : Mem) : Option (Int32 × Mem) :=
  (lm (mu M 0 4 ((M 0 4) ||| ((1 : Int32) <<< (v1 &&& 31)))) (fun (M3 : Mem) => (if isZ s0 = true then (some (s0, M3)) else none)))
def d_X9_sat (v1 : Int32) (M : Mem) : Option (Int32 × Mem) :=
  (bd1 (d_X9_isIn (M 0 4) v1 M) (fun (r1 : Int32) => (if r1 = 0 then (dX9_sat_16j  v1 (1 : Int32) M) else (dX9_sat_16j  v1 (0 : Int32) M))))

def d_X9_rose (v1 : Int32) (M : Mem) : Option (Int32 × Mem) :=
  (bd1 (d_X9_isIn (M 0 4) v1 M) (fun (r1 : Int32) => (lm (mu M 0 4 ((M 0 4) &&& (((1 : Int32) <<< (v1 &&& 31)) ^^^ (-1 : Int32)))) (fun (M2 : Mem) => (if isZ r1 = true then (some (r1, M2)) else none)))))

def d_X9_sit (v1 : Int32) (M : Mem) : Option (Int32 × Mem) :=
  (bd1 (d_X9_noFootman v1 M) (fun (r1 : Int32) => (if r1 = 0 then (bd2 (d_X9_sat v1 M) (fun (r3 : Int32) (M4 : Mem) => (if r3 = 0 then (some ((-3 : Int32), M4)) else (bd1 (d_X9_bits (M4 0 4) M4) (fun (r6 : Int32) => (some (r6, M4))))))) else (some ((-1 : Int32), M)))))

def d_X9_rise (v1 : Int32) (M : Mem) : Option (Int32 × Mem) :=
  (bd1 (d_X9_noFootman v1 M) (fun (r1 : Int32) => (if r1 = 0 then (bd2 (d_X9_rose v1 M) (fun (r3 : Int32) (M4 : Mem) => (if r3 = 0 then (some ((-3 : Int32), M4)) else (bd1 (d_X9_bits (M4 0 4) M4) (fun (r6 : Int32) => (some (r6, M4))))))) else (some ((-1 : Int32), M)))))

def d_X9_give (v1 : Int32) (v2 : Int32) (v3 : Int32) (v4 : Int32) (M : Mem) : Option (Int32 × Mem) :=
  (bd1 (d_X9_in v1.toInt64 (0 : Int64) (2 : Int64) M) (fun (r1 : Int32) => (if r1 = 0 then (some ((-2 : Int32), M)) else (bd1 (d_X9_in v4.toInt64 (1 : Int64) (9 : Int64) M) (fun (r3 : Int32) => (if r3 = 0 then (some ((-2 : Int32), M)) else (bd1 (d_X9_noCorner v2 M) (fun (r5 : Int32) => (if r5 = 0 then (bd1 (d_X9_noCorner v3 M) (fun (r7 : Int32) => (if r7 = 0 then (if (M 0 2) = (6 : Int32) then (some ((-4 : Int32), M)) else (if inB (M 0 2) 6 = true then (lm (mu M 3 (M 0 2).toNatClampNeg v1) (fun (M10 : Mem) => (if inB (M10 0 2) 6 = true then (lm (mu M10 4 (M10 0 2).toNatClampNeg v2) (fun (M11 : Mem) => (if inB (M11 0 2) 6 = true then (lm (mu M11 5 (M11 0 2).toNatClampNeg v3) (fun (M12 : Mem) => (if inB (M12 0 2) 6 = true then (lm (mu M12 6 (M12 0 2).toNatClampNeg v4) (fun (M13 : Mem) => (if inB (M13 0 2) 6 = true then (lm (mu M13 7 (M13 0 2).toNatClampNeg (0 : Int32)) (fun (M14 : Mem) => (lm (mu M14 0 2 ((M14 0 2) + (1 : Int32))) (fun (M15 : Mem) => (some (((M15 0 2) - (1 : Int32)), M15)))))) else none))) else none))) else none))) else none))) else none)) else (some ((-1 : Int32), M))))) else (some ((-1 : Int32), M)))))))))))

def dX9_keepAll_18l    : Nat → Int32 → Mem → Option Mem
  | 0, _, _ => none
  | f + 1, v1, M =>
  (if (M 0 2) ≤ v1 then (some M) else (if inB v1 6 = true then (if inB v1 6 = true then (lm (mu M 13 v1.toNatClampNeg (M 7 v1.toNatClampNeg)) (fun (M4 : Mem) => ((dX9_keepAll_18l    f) (v1 + (1 : Int32)) M4))) else none) else none))
def d_X9_keepAll  (M : Mem) : Option Mem :=
  (lm (mu M 0 20 (M 0 4)) (fun (M1 : Mem) => (lm (mu M1 0 21 (M1 0 3)) (fun (M2 : Mem) => (dX9_keepAll_18l    FU (0 : Int32) M2)))))

def dX9_bringBack_18l    : Nat → Int32 → Mem → Option Mem
  | 0, _, _ => none
  | f + 1, v1, M =>
  (if (M 0 2) ≤ v1 then (some M) else (if inB v1 6 = true then (if inB v1 6 = true then (lm (mu M 7 v1.toNatClampNeg (M 13 v1.toNatClampNeg)) (fun (M4 : Mem) => ((dX9_bringBack_18l    f) (v1 + (1 : Int32)) M4))) else none) else none))
def d_X9_bringBack  (M : Mem) : Option Mem :=
  (lm (mu M 0 4 (M 0 20)) (fun (M1 : Mem) => (lm (mu M1 0 3 (M1 0 21)) (fun (M2 : Mem) => (dX9_bringBack_18l    FU (0 : Int32) M2)))))

def dX9_pairsBarred_68j (rec2 : Int32 → Option Int32) (v1 : Int32) (v2 : Int32) (v3 : Int32) (v4 : Int32) (v5 : Int32)  (M : Mem) : Option Int32 :=
  (if (2 : Int32) ≤ v5 then (rec2 (v3 + (1 : Int32))) else (bd1 (d_X9_noFootman v4 M) (fun (r8 : Int32) => (if r8 = 0 then (rec2 (v3 + (1 : Int32))) else (some (-1 : Int32))))))
def dX9_pairsBarred_2l (v1 : Int32) (v2 : Int32) (M : Mem)  : Nat → Int32 → Option Int32
  | 0, _ => none
  | f + 1, v3 =>
  (if v2 ≤ v3 then (some (0 : Int32)) else (if inB (v1 + ((2 : Int32) * v3)) 240 = true then (lm (M 23 (v1 + ((2 : Int32) * v3)).toNatClampNeg) (fun (x2 : Int32) => (if inB ((v1 + ((2 : Int32) * v3)) + (1 : Int32)) 240 = true then (lm (M 23 ((v1 + ((2 : Int32) * v3)) + (1 : Int32)).toNatClampNeg) (fun (x3 : Int32) => (bd1 (d_X9_in x3.toInt64 (0 : Int64) (2 : Int64) M) (fun (r4 : Int32) => (if r4 = 0 then (some (-2 : Int32)) else (if x3 = (2 : Int32) then (bd1 (d_X9_in x2.toInt64 (0 : Int64) (9 : Int64) M) (fun (r10 : Int32) => (if r10 = 0 then (some (-2 : Int32)) else (dX9_pairsBarred_68j (dX9_pairsBarred_2l v1 v2 M  f) v1 v2 v3 x2 x3  M)))) else (dX9_pairsBarred_68j (dX9_pairsBarred_2l v1 v2 M  f) v1 v2 v3 x2 x3  M))))))) else none))) else none))
def d_X9_pairsBarred (v1 : Int32) (v2 : Int32) (M : Mem) : Option Int32 :=
  (dX9_pairsBarred_2l v1 v2 M  FU (0 : Int32) )

def dX9_looksAround_35j   (s0 : Int32) (M : Mem) : Option Mem :=
  (lm (mu M 0 23 s0) (fun (M2 : Mem) => (some M2)))
def dX9_looksAround_31j    (M : Mem) : Option Mem :=
  (dX9_looksAround_35j   (M 0 23) M)
def d_X9_looksAround  (M : Mem) : Option Mem :=
  (if 0 ≤ (M 0 23) then (dX9_looksAround_31j    M) else (bd1 (d_X9_arrived  M) (fun (r3 : Int32) => (if r3 = (M 0 2) then (dX9_looksAround_35j   ((M 0 3) - (M 0 21)) M) else (dX9_looksAround_31j    M)))))

def dX9_did_23l (v1 : Int32)   : Nat → Int32 → Mem → Option (Int32 × Mem)
  | 0, _, _ => none
  | f + 1, v3, M =>
  (if v1 ≤ v3 then (some ((1 : Int32), M)) else (bd1 (d_X9_passes  M) (fun (M4 : Mem) => (bd1 (d_X9_looksAround  M4) (fun (M5 : Mem) => ((dX9_did_23l v1   f) (v3 + (1 : Int32)) M5))))))
def d_X9_did (v1 : Int32) (v2 : Int32) (M : Mem) : Option (Int32 × Mem) :=
  (if v2 = 0 then (bd2 (d_X9_sat v1 M) (fun (r9 : Int32) (M10 : Mem) => (if isZ r9 = true then (some (r9, M10)) else none))) else (if v2 = (1 : Int32) then (bd2 (d_X9_rose v1 M) (fun (r6 : Int32) (M7 : Mem) => (if isZ r6 = true then (some (r6, M7)) else none))) else (dX9_did_23l v1   FU (0 : Int32) M)))

def dX9_seasonBy_17l (v1 : Int32) (v2 : Int32) (v3 : Int32)  (k17_74 : Int32 → Mem → Option (Int32 × Mem)) : Nat → Int32 → Int32 → Mem → Option (Int32 × Mem)
  | 0, _, _, _ => none
  | f + 1, v4 , v5, M =>
  (if v2 ≤ v5 then (k17_74 v4 M) else (if 0 ≤ v4 then (k17_74 v4 M) else (if inB (v1 + ((2 : Int32) * v5)) 240 = true then (if inB ((v1 + ((2 : Int32) * v5)) + (1 : Int32)) 240 = true then (bd2 (d_X9_did (M 23 (v1 + ((2 : Int32) * v5)).toNatClampNeg) (M 23 ((v1 + ((2 : Int32) * v5)) + (1 : Int32)).toNatClampNeg) M) (fun (r5 : Int32) (M6 : Mem) => (if r5 = 0 then ((dX9_seasonBy_17l v1 v2 v3  k17_74 f) v5 (v5 + (1 : Int32)) M6) else ((dX9_seasonBy_17l v1 v2 v3  k17_74 f) (-9 : Int32) (v5 + (1 : Int32)) M6)))) else none) else none)))
def dX9_seasonBy_131l (v3 : Int32) (M : Mem) (k131_166 : Int32 → Option (Int32 × Mem)) : Nat → Int32 → Int32 → Option (Int32 × Mem)
  | 0, _, _ => none
  | f + 1, v5 , v6 =>
  (if (M 0 2) ≤ v6 then (k131_166 v5) else (if inB v6 6 = true then (if inB v6 6 = true then (lm (v5 + ((M 7 v6.toNatClampNeg) - (M 13 v6.toNatClampNeg))) (fun (x14 : Int32) => ((dX9_seasonBy_131l v3 M k131_166 f) x14 (v6 + (1 : Int32))))) else none) else none))
def d_X9_seasonBy (v1 : Int32) (v2 : Int32) (v3 : Int32) (M : Mem) : Option (Int32 × Mem) :=
  (lm (mu M 0 23 (-9 : Int32)) (fun (M1 : Mem) => (bd1 (d_X9_looksAround  M1) (fun (M2 : Mem) => (dX9_seasonBy_17l v1 v2 v3  (fun (w8 : Int32) (M9 : Mem) => (if v3 = (1 : Int32) then (some (w8, M9)) else (if w8 < 0 then (if v3 < (10 : Int32) then (dX9_seasonBy_131l v3 M9 (fun (w15 : Int32) => (if v3 = 0 then (bd1 (d_X9_arrived  M9) (fun (r19 : Int32) => (some (r19, M9)))) else (if v3 = (2 : Int32) then (some ((M9 0 4), M9)) else (if v3 = (3 : Int32) then (some (w15, M9)) else (some ((M9 0 23), M9)))))) FU (0 : Int32) (0 : Int32) ) else (bd1 (d_X9_noFootman (v3 - (10 : Int32)) M9) (fun (r20 : Int32) => (if r20 = 0 then (if inB (v3 - (10 : Int32)) 6 = true then (some ((M9 7 (v3 - (10 : Int32)).toNatClampNeg), M9)) else none) else (some ((-9 : Int32), M9)))))) else (some (((-100 : Int32) - w8), M9))))) FU (-9 : Int32) (0 : Int32) M2)))))

def dX9_season_66j    (M : Mem) : Option (Int32 × Mem) :=
  (bd2 (d_X9_refused (-2 : Int32) M) (fun (r5 : Int32) (M6 : Mem) => (some (r5, M6))))
def dX9_season_73j  (v1 : Int32) (v2 : Int32) (v3 : Int32) (v4 : Int32) (v5 : Int32)  (M : Mem) : Option (Int32 × Mem) :=
  (if (M 0 2) = 0 then (bd2 (d_X9_refused (-3 : Int32) M) (fun (r25 : Int32) (M26 : Mem) => (some (r25, M26)))) else (bd2 (d_X9_cellsBarred v1 v2 v3 ((2 : Int64) * v4.toInt64) M) (fun (r12 : Int32) (M13 : Mem) => (if 0 ≤ r12 then (bd1 (d_X9_pairsBarred (((60 : Int32) * v1) + v3) v4 M13) (fun (r15 : Int32) => (if 0 ≤ r15 then (bd1 (d_X9_keepAll  M13) (fun (M17 : Mem) => (bd2 (d_X9_seasonBy (((60 : Int32) * v1) + v3) v4 v5 M17) (fun (r18 : Int32) (M19 : Mem) => (bd1 (d_X9_bringBack  M19) (fun (M20 : Mem) => (bd2 (d_X9_refused r18 M20) (fun (r21 : Int32) (M22 : Mem) => (some (r21, M22)))))))))) else (bd2 (d_X9_refused r15 M13) (fun (r23 : Int32) (M24 : Mem) => (some (r23, M24))))))) else (some (r12, M13))))))
def d_X9_season (v1 : Int32) (v2 : Int32) (v3 : Int32) (v4 : Int32) (v5 : Int32) (M : Mem) : Option (Int32 × Mem) :=
  (bd1 (d_X9_noSheet v1 M) (fun (r1 : Int32) => (if r1 = 0 then (bd1 (d_X9_in v2.toInt64 (0 : Int64) (2 : Int64) M) (fun (r3 : Int32) => (if r3 = 0 then (dX9_season_66j    M) else (bd1 (d_X9_in v4.toInt64 (0 : Int64) (20 : Int64) M) (fun (r7 : Int32) => (if r7 = 0 then (dX9_season_66j    M) else (bd1 (d_X9_in v5.toInt64 (0 : Int64) (4 : Int64) M) (fun (r9 : Int32) => (if r9 = 0 then (bd1 (d_X9_in v5.toInt64 (10 : Int64) (15 : Int64) M) (fun (r27 : Int32) => (if r27 = 0 then (dX9_season_66j    M) else (dX9_season_73j  v1 v2 v3 v4 v5  M)))) else (dX9_season_73j  v1 v2 v3 v4 v5  M)))))))))) else (bd2 (d_X9_refused (-1 : Int32) M) (fun (r29 : Int32) (M30 : Mem) => (some (r29, M30)))))))

def dX9_nextTo_69j (rec11 : Int32 → Int32 → Option Int32) (v1 : Int32) (v2 : Int32) (v3 : Int32) (v4 : Int32) (s0 : Int32) (M : Mem) : Option Int32 :=
  (if s0 = 0 then (rec11 v3 (v4 + (-1 : Int32))) else (rec11 v4 (v4 + (-1 : Int32))))
def dX9_nextTo_68j (rec11 : Int32 → Int32 → Option Int32) (v1 : Int32) (v2 : Int32) (v3 : Int32) (v4 : Int32)  (M : Mem) : Option Int32 :=
  (dX9_nextTo_69j rec11 v1 v2 v3 v4 (0 : Int32) M)
def dX9_nextTo_11l (v1 : Int32) (v2 : Int32) (M : Mem)  : Nat → Int32 → Int32 → Option Int32
  | 0, _, _ => none
  | f + 1, v3 , v4 =>
  (if v4 < 0 then (some v3) else (if inB (((6 : Int32) * v1) + v4) 36 = true then (lm (M 1 (((6 : Int32) * v1) + v4).toNatClampNeg) (fun (x3 : Int32) => (if x3 ≤ 0 then (dX9_nextTo_68j (dX9_nextTo_11l v1 v2 M  f) v1 v2 v3 v4  M) else (bd1 (d_X9_farFrom v4 v2 M) (fun (r6 : Int32) => (if r6 < 0 then (dX9_nextTo_68j (dX9_nextTo_11l v1 v2 M  f) v1 v2 v3 v4  M) else (bd1 (d_X9_farFrom v4 v2 M) (fun (r8 : Int32) => (bd1 (d_X9_farFrom v1 v2 M) (fun (r9 : Int32) => (if (x3 + r8) = r9 then (dX9_nextTo_69j (dX9_nextTo_11l v1 v2 M  f) v1 v2 v3 v4 (1 : Int32) M) else (dX9_nextTo_68j (dX9_nextTo_11l v1 v2 M  f) v1 v2 v3 v4  M)))))))))))) else none))
def d_X9_nextTo (v1 : Int32) (v2 : Int32) (M : Mem) : Option Int32 :=
  (lm ((M 0 1) - (1 : Int32)) (fun (x1 : Int32) => (dX9_nextTo_11l v1 v2 M  FU (-9 : Int32) x1 )))

def dX9_way_53l (v2 : Int32) (v3 : Int32) (M : Mem) (k53_82 : Int32 → Int32 → Option Int32) : Nat → Int32 → Int32 → Option Int32
  | 0, _, _ => none
  | f + 1, v4 , v5 =>
  (if v4 = v2 then (k53_82 v4 v5) else (if v5 = (v3 + (1 : Int32)) then (k53_82 v4 v5) else (bd1 (d_X9_nextTo v4 v2 M) (fun (r11 : Int32) => ((dX9_way_53l v2 v3 M k53_82 f) r11 (v5 + (1 : Int32)))))))
def d_X9_way (v1 : Int32) (v2 : Int32) (v3 : Int32) (M : Mem) : Option Int32 :=
  (bd1 (d_X9_noCorner v1 M) (fun (r1 : Int32) => (if r1 = 0 then (bd1 (d_X9_noCorner v2 M) (fun (r3 : Int32) => (if r3 = 0 then (bd1 (d_X9_in v3.toInt64 (-1 : Int64) (5 : Int64) M) (fun (r5 : Int32) => (if r5 = 0 then (some (-2 : Int32)) else (bd1 (d_X9_farFrom v1 v2 M) (fun (r7 : Int32) => (if 0 ≤ r7 then (dX9_way_53l v2 v3 M (fun (w12 : Int32) (w13 : Int32) => (if 0 ≤ v3 then (if w13 = (v3 + (1 : Int32)) then (some w12) else (some (-9 : Int32))) else (some w13))) FU v1 (1 : Int32) ) else (some (-9 : Int32)))))))) else (some (-1 : Int32))))) else (some (-1 : Int32)))))

def d_X9_round (v1 : Int32) (v2 : Int32) (M : Mem) : Option Int32 :=
  (bd1 (d_X9_noFootman v1 M) (fun (r1 : Int32) => (if r1 = 0 then (bd1 (d_X9_noCorner v2 M) (fun (r3 : Int32) => (if r3 = 0 then (if inB v1 6 = true then (bd1 (d_X9_farFrom (M 4 v1.toNatClampNeg) v2 M) (fun (r5 : Int32) => (if inB v1 6 = true then (bd1 (d_X9_farFrom v2 (M 5 v1.toNatClampNeg) M) (fun (r6 : Int32) => (if r5 < 0 then (some (-9 : Int32)) else (if 0 ≤ r6 then (if inB v1 6 = true then (if inB v1 6 = true then (bd1 (d_X9_farFrom (M 4 v1.toNatClampNeg) (M 5 v1.toNatClampNeg) M) (fun (r9 : Int32) => (some ((r5 + r6) - r9)))) else none) else none) else (some (-9 : Int32)))))) else none))) else none) else (some (-1 : Int32))))) else (some (-1 : Int32)))))

def dX9_kept_16l (v1 : Int32)  (k16_41 : Int32 → Mem → Option (Int32 × Mem)) : Nat → Int32 → Mem → Option (Int32 × Mem)
  | 0, _, _ => none
  | f + 1, v2, M =>
  (if (999 : Int32) < v2 then (k16_41 v2 M) else (bd1 (d_X9_hasArrived v1 M) (fun (r5 : Int32) => (if r5 = 0 then (bd1 (d_X9_passes  M) (fun (M7 : Mem) => ((dX9_kept_16l v1  k16_41 f) (v2 + (1 : Int32)) M7))) else (k16_41 v2 M)))))
def d_X9_kept (v1 : Int32) (M : Mem) : Option (Int32 × Mem) :=
  (bd1 (d_X9_noFootman v1 M) (fun (r1 : Int32) => (if r1 = 0 then (bd1 (d_X9_keepAll  M) (fun (M3 : Mem) => (dX9_kept_16l v1  (fun (w8 : Int32) (M9 : Mem) => (bd1 (d_X9_bringBack  M9) (fun (M10 : Mem) => (if w8 ≤ (999 : Int32) then (some (w8, M10)) else (some ((-9 : Int32), M10)))))) FU (0 : Int32) M3))) else (some ((-1 : Int32), M)))))

def dX9_farthest_4l (v1 : Int32) (M : Mem)  : Nat → Int32 → Int32 → Option Int32
  | 0, _, _ => none
  | f + 1, v2 , v3 =>
  (if (M 0 1) ≤ v3 then (some v2) else (bd1 (d_X9_farFrom v1 v3 M) (fun (r2 : Int32) => (if v2 < 0 then ((dX9_farthest_4l v1 M  f) (-9 : Int32) (v3 + (1 : Int32))) else (if 0 ≤ r2 then (if r2 ≤ v2 then ((dX9_farthest_4l v1 M  f) v2 (v3 + (1 : Int32))) else ((dX9_farthest_4l v1 M  f) r2 (v3 + (1 : Int32)))) else ((dX9_farthest_4l v1 M  f) (-9 : Int32) (v3 + (1 : Int32))))))))
def d_X9_farthest (v1 : Int32) (M : Mem) : Option Int32 :=
  (dX9_farthest_4l v1 M  FU (0 : Int32) (0 : Int32) )

def dX9_middle_82j (rec32 : Int32 → Int32 → Int32 → Option Int32) (v1 : Int32) (v3 : Int32) (v4 : Int32) (v5 : Int32) (v6 : Int32) (s0 : Int32) (M : Mem) : Option Int32 :=
  (if v6 = 0 then (rec32 s0 v3 (v4 + (1 : Int32))) else (rec32 s0 v5 (v4 + (1 : Int32))))
def dX9_middle_69j (rec32 : Int32 → Int32 → Int32 → Option Int32) (v1 : Int32) (v2 : Int32) (v3 : Int32) (v4 : Int32) (v5 : Int32) (s0 : Int32) (M : Mem) : Option Int32 :=
  (if s0 = 0 then (dX9_middle_82j rec32 v1 v3 v4 v5 s0 v2 M) else (dX9_middle_82j rec32 v1 v3 v4 v5 s0 v4 M))
def dX9_middle_68j (rec32 : Int32 → Int32 → Int32 → Option Int32) (v1 : Int32) (v2 : Int32) (v3 : Int32) (v4 : Int32) (v5 : Int32)  (M : Mem) : Option Int32 :=
  (dX9_middle_69j rec32 v1 v2 v3 v4 v5 (0 : Int32) M)
def dX9_middle_64j (rec32 : Int32 → Int32 → Int32 → Option Int32) (v1 : Int32) (v2 : Int32) (v3 : Int32) (v4 : Int32) (v5 : Int32)  (M : Mem) : Option Int32 :=
  (dX9_middle_69j rec32 v1 v2 v3 v4 v5 (1 : Int32) M)
def dX9_middle_32l (v1 : Int32) (M : Mem) (k32_101 : Int32 → Int32 → Option Int32) : Nat → Int32 → Int32 → Int32 → Option Int32
  | 0, _, _, _ => none
  | f + 1, v2 , v3 , v4 =>
  (if (M 0 1) ≤ v4 then (k32_101 v2 v3) else (bd1 (d_X9_farthest v4 M) (fun (r5 : Int32) => (if r5 < 0 then (dX9_middle_68j (dX9_middle_32l v1 M k32_101 f) v1 v2 v3 v4 r5  M) else (if v2 < 0 then (dX9_middle_64j (dX9_middle_32l v1 M k32_101 f) v1 v2 v3 v4 r5  M) else (if v3 ≤ r5 then (dX9_middle_68j (dX9_middle_32l v1 M k32_101 f) v1 v2 v3 v4 r5  M) else (dX9_middle_64j (dX9_middle_32l v1 M k32_101 f) v1 v2 v3 v4 r5  M)))))))
def d_X9_middle (v1 : Int32) (M : Mem) : Option Int32 :=
  (if (M 0 2) = 0 then (some (-3 : Int32)) else (bd1 (d_X9_in v1.toInt64 (0 : Int64) (1 : Int64) M) (fun (r2 : Int32) => (if r2 = 0 then (some (-2 : Int32)) else (dX9_middle_32l v1 M (fun (w11 : Int32) (w12 : Int32) => (if v1 = 0 then (some w11) else (some w12))) FU (-9 : Int32) (-9 : Int32) (0 : Int32) )))))

def dX9_joins_54j (rec11 : Int32 → Mem → Option Mem) (v1 : Int32) (v2 : Int32) (v3 : Int32) (v4 : Int32) (v5 : Int32) (s0 : Int32) (s1 : Int32) (M : Mem) : Option Mem :=
  (if inB s1 6 = true then (lm (mu M 14 s1.toNatClampNeg s0) (fun (M4 : Mem) => (rec11 (v5 + (1 : Int32)) M4))) else none)
def dX9_joins_11l (v1 : Int32) (v2 : Int32) (v3 : Int32) (v4 : Int32)  (k11_61 : Mem → Option Mem) : Nat → Int32 → Mem → Option Mem
  | 0, _, _ => none
  | f + 1, v5, M =>
  (if (M 0 1) ≤ v5 then (k11_61  M) else (if inB v5 6 = true then (if (M 14 v5.toNatClampNeg) = v4 then (if inB v1 6 = true then (dX9_joins_54j (dX9_joins_11l v1 v2 v3 v4  k11_61 f) v1 v2 v3 v4 v5 (M 14 v1.toNatClampNeg) v5 M) else none) else (if inB v5 6 = true then (dX9_joins_54j (dX9_joins_11l v1 v2 v3 v4  k11_61 f) v1 v2 v3 v4 v5 (M 14 v5.toNatClampNeg) v5 M) else none)) else none))
def d_X9_joins (v1 : Int32) (v2 : Int32) (v3 : Int32) (M : Mem) : Option Mem :=
  (if inB v2 6 = true then (lm (M 14 v2.toNatClampNeg) (fun (x1 : Int32) => (dX9_joins_11l v1 v2 v3 x1  (fun  (M5 : Mem) => (lm (mu M5 0 25 ((M5 0 25) ||| ((1 : Int32) <<< (v3 &&& 31)))) (fun (M6 : Mem) => (if inB (((6 : Int32) * v1) + v2) 36 = true then (lm (mu M6 0 26 ((M6 0 26) + (M6 1 (((6 : Int32) * v1) + v2).toNatClampNeg))) (fun (M7 : Mem) => (some M7))) else none)))) FU (0 : Int32) M))) else none)

def dX9_joinsAll_17l (v1 : Int32) (v3 : Int32)  (k17_75 : Int32 → Mem → Option Mem) : Nat → Int32 → Int32 → Mem → Option Mem
  | 0, _, _, _ => none
  | f + 1, v2 , v4, M =>
  (if (M 0 1) ≤ v4 then (k17_75 v2 M) else (if inB (((6 : Int32) * v3) + v4) 36 = true then (if (M 1 (((6 : Int32) * v3) + v4).toNatClampNeg) = v1 then (if inB v3 6 = true then (if inB v4 6 = true then (if (M 14 v3.toNatClampNeg) = (M 14 v4.toNatClampNeg) then ((dX9_joinsAll_17l v1 v3  k17_75 f) (v2 + (1 : Int32)) (v4 + (1 : Int32)) M) else (bd1 (d_X9_joins v3 v4 v2 M) (fun (M6 : Mem) => ((dX9_joinsAll_17l v1 v3  k17_75 f) (v2 + (1 : Int32)) (v4 + (1 : Int32)) M6)))) else none) else none) else ((dX9_joinsAll_17l v1 v3  k17_75 f) (v2 + (1 : Int32)) (v4 + (1 : Int32)) M)) else none))
def dX9_joinsAll_4l (v1 : Int32)   : Nat → Int32 → Int32 → Mem → Option Mem
  | 0, _, _, _ => none
  | f + 1, v2 , v3, M =>
  (if (M 0 1) ≤ v3 then (some M) else (lm (v3 + (1 : Int32)) (fun (x2 : Int32) => (dX9_joinsAll_17l v1 v3  (fun (w7 : Int32) (M8 : Mem) => ((dX9_joinsAll_4l v1   f) w7 (v3 + (1 : Int32)) M8)) FU v2 x2 M))))
def d_X9_joinsAll (v1 : Int32) (M : Mem) : Option Mem :=
  (dX9_joinsAll_4l v1   FU (0 : Int32) (0 : Int32) M)

def dX9_tree_25l (v1 : Int32)  (k25_46 : Mem → Option (Int32 × Mem)) : Nat → Int32 → Mem → Option (Int32 × Mem)
  | 0, _, _ => none
  | f + 1, v2, M =>
  (if (M 0 1) ≤ v2 then (k25_46  M) else (if inB v2 6 = true then (lm (mu M 14 v2.toNatClampNeg v2) (fun (M5 : Mem) => ((dX9_tree_25l v1  k25_46 f) (v2 + (1 : Int32)) M5))) else none))
def dX9_tree_58l (v1 : Int32)  (k58_75 : Mem → Option (Int32 × Mem)) : Nat → Int32 → Mem → Option (Int32 × Mem)
  | 0, _, _ => none
  | f + 1, v2, M =>
  (if (10 : Int32) ≤ v2 then (k58_75  M) else (bd1 (d_X9_joinsAll v2 M) (fun (M10 : Mem) => ((dX9_tree_58l v1  k58_75 f) (v2 + (1 : Int32)) M10))))
def d_X9_tree (v1 : Int32) (M : Mem) : Option (Int32 × Mem) :=
  (if (M 0 2) = 0 then (some ((-3 : Int32), M)) else (bd1 (d_X9_in v1.toInt64 (0 : Int64) (1 : Int64) M) (fun (r2 : Int32) => (if r2 = 0 then (some ((-2 : Int32), M)) else (dX9_tree_25l v1  (fun  (M6 : Mem) => (lm (mu M6 0 25 (0 : Int32)) (fun (M7 : Mem) => (lm (mu M7 0 26 (0 : Int32)) (fun (M8 : Mem) => (dX9_tree_58l v1  (fun  (M11 : Mem) => (bd1 (d_X9_bits (M11 0 25) M11) (fun (r12 : Int32) => (if ((M11 0 1) - (1 : Int32)) ≤ r12 then (if v1 = 0 then (some ((M11 0 26), M11)) else (some ((M11 0 25), M11))) else (some ((-9 : Int32), M11)))))) FU (1 : Int32) M8)))))) FU (0 : Int32) M)))))

def dX9_sortsCorners_14l (v2 : Int32)  (k14_55 : Int32 → Mem → Option Mem) : Nat → Int32 → Int32 → Mem → Option Mem
  | 0, _, _, _ => none
  | f + 1, v1 , v3, M =>
  (if (M 0 2) ≤ v3 then (k14_55 v1 M) else (if inB v3 6 = true then (if (M 5 v3.toNatClampNeg) = v2 then (if inB v1 6 = true then (lm (mu M 15 v1.toNatClampNeg v2) (fun (M4 : Mem) => (if inB v1 6 = true then (lm (mu M4 16 v1.toNatClampNeg v1) (fun (M5 : Mem) => ((dX9_sortsCorners_14l v2  k14_55 f) (v1 + (1 : Int32)) (v3 + (1 : Int32)) M5))) else none))) else none) else ((dX9_sortsCorners_14l v2  k14_55 f) v1 (v3 + (1 : Int32)) M)) else none))
def dX9_sortsCorners_4l    : Nat → Int32 → Int32 → Mem → Option Mem
  | 0, _, _, _ => none
  | f + 1, v1 , v2, M =>
  (if (M 0 1) ≤ v2 then (some M) else (dX9_sortsCorners_14l v2  (fun (w6 : Int32) (M7 : Mem) => ((dX9_sortsCorners_4l    f) w6 (v2 + (1 : Int32)) M7)) FU v1 (0 : Int32) M))
def d_X9_sortsCorners  (M : Mem) : Option Mem :=
  (dX9_sortsCorners_4l    FU (0 : Int32) (0 : Int32) M)

def d_X9_exchange (v1 : Int32) (v2 : Int32) (M : Mem) : Option Mem :=
  (if inB v1 6 = true then (lm (M 16 v1.toNatClampNeg) (fun (x1 : Int32) => (if inB v2 6 = true then (if inB v1 6 = true then (lm (mu M 16 v1.toNatClampNeg (M 16 v2.toNatClampNeg)) (fun (M2 : Mem) => (if inB v2 6 = true then (lm (mu M2 16 v2.toNatClampNeg x1) (fun (M3 : Mem) => (some M3))) else none))) else none) else none))) else none)

def dX9_nextRow_7l  (M : Mem) (k7_34 : Int32 → Option (Int32 × Mem)) : Nat → Int32 → Option (Int32 × Mem)
  | 0, _ => none
  | f + 1, v1 =>
  (if v1 < 0 then (k7_34 v1) else (if inB v1 6 = true then (if inB (v1 + (1 : Int32)) 6 = true then (if (M 16 v1.toNatClampNeg) ≤ (M 16 (v1 + (1 : Int32)).toNatClampNeg) then (k7_34 v1) else ((dX9_nextRow_7l  M k7_34 f) (v1 + (-1 : Int32)))) else none) else none))
def dX9_nextRow_47l (v1 : Int32) (M : Mem) (k47_68 : Int32 → Option (Int32 × Mem)) : Nat → Int32 → Option (Int32 × Mem)
  | 0, _ => none
  | f + 1, v2 =>
  (if inB v2 6 = true then (if inB v1 6 = true then (if (M 16 v1.toNatClampNeg) ≤ (M 16 v2.toNatClampNeg) then (k47_68 v2) else ((dX9_nextRow_47l v1 M k47_68 f) (v2 + (-1 : Int32)))) else none) else none)
def dX9_nextRow_86l    : Nat → Int32 → Int32 → Mem → Option (Int32 × Mem)
  | 0, _, _, _ => none
  | f + 1, v3 , v4, M =>
  (if v4 ≤ v3 then (some ((1 : Int32), M)) else (bd1 (d_X9_exchange v3 v4 M) (fun (M13 : Mem) => ((dX9_nextRow_86l    f) (v3 + (1 : Int32)) (v4 + (-1 : Int32)) M13))))
def d_X9_nextRow  (M : Mem) : Option (Int32 × Mem) :=
  (lm ((M 0 2) - (2 : Int32)) (fun (x1 : Int32) => (dX9_nextRow_7l  M (fun (w4 : Int32) => (if 0 ≤ w4 then (lm ((M 0 2) - (1 : Int32)) (fun (x6 : Int32) => (dX9_nextRow_47l w4 M (fun (w8 : Int32) => (bd1 (d_X9_exchange w4 w8 M) (fun (M9 : Mem) => (lm (w4 + (1 : Int32)) (fun (x10 : Int32) => (lm ((M9 0 2) - (1 : Int32)) (fun (x11 : Int32) => (dX9_nextRow_86l    FU x10 x11 M9)))))))) FU x6 ))) else (some ((0 : Int32), M)))) FU x1 )))

def dX9_lastOne_58j (rec4 : Int32 → Int32 → Option Int32) (v1 : Int32) (v2 : Int32) (s0 : Int32) (M : Mem) : Option Int32 :=
  (if v1 < 0 then (rec4 (-9 : Int32) (v2 + (1 : Int32))) else (if 0 ≤ s0 then (if s0 ≤ v1 then (rec4 v1 (v2 + (1 : Int32))) else (rec4 s0 (v2 + (1 : Int32)))) else (rec4 (-9 : Int32) (v2 + (1 : Int32)))))
def dX9_lastOne_4l  (M : Mem)  : Nat → Int32 → Int32 → Option Int32
  | 0, _, _ => none
  | f + 1, v1 , v2 =>
  (if (M 0 2) ≤ v2 then (some v1) else (if inB v2 6 = true then (if inB v2 6 = true then (if inB (M 16 v2.toNatClampNeg) 6 = true then (bd1 (d_X9_farFrom (M 4 v2.toNatClampNeg) (M 15 (M 16 v2.toNatClampNeg).toNatClampNeg) M) (fun (r2 : Int32) => (if 0 ≤ r2 then (bd1 (d_X9_paceOf v2 M) (fun (r4 : Int32) => (bd1 (d_X9_paceOf v2 M) (fun (r5 : Int32) => (if r5 = 0 then none else (dX9_lastOne_58j (dX9_lastOne_4l  M  f) v1 v2 (((r2 + r4) - (1 : Int32)) / r5) M)))))) else (dX9_lastOne_58j (dX9_lastOne_4l  M  f) v1 v2 (-9 : Int32) M)))) else none) else none) else none))
def d_X9_lastOne  (M : Mem) : Option Int32 :=
  (dX9_lastOne_4l  M  FU (0 : Int32) (0 : Int32) )

def dX9_bestErrands_83j (rec41 : Int32 → Mem → Option (Int32 × Mem)) (v1 : Int32) (v3 : Int32) (v4 : Int32) (v5 : Int32) (s0 : Int32) (s1 : Int32) (M : Mem) : Option (Int32 × Mem) :=
  (if inB s1 6 = true then (lm (mu M 17 s1.toNatClampNeg s0) (fun (M7 : Mem) => (rec41 (v5 + (1 : Int32)) M7))) else none)
def dX9_bestErrands_41l (v1 : Int32) (v3 : Int32) (v4 : Int32)  (k41_90 : Mem → Option (Int32 × Mem)) : Nat → Int32 → Mem → Option (Int32 × Mem)
  | 0, _, _ => none
  | f + 1, v5, M =>
  (if (M 0 2) ≤ v5 then (k41_90  M) else (if v4 = 0 then (if inB v5 6 = true then (dX9_bestErrands_83j (dX9_bestErrands_41l v1 v3 v4  k41_90 f) v1 v3 v4 v5 (M 17 v5.toNatClampNeg) v5 M) else none) else (if inB v5 6 = true then (if inB (M 16 v5.toNatClampNeg) 6 = true then (dX9_bestErrands_83j (dX9_bestErrands_41l v1 v3 v4  k41_90 f) v1 v3 v4 v5 (M 15 (M 16 v5.toNatClampNeg).toNatClampNeg) v5 M) else none) else none)))
def dX9_bestErrands_100j (rec9 : Int32 → Int32 → Mem → Option (Int32 × Mem))  (s0 : Int32) (M : Mem) : Option (Int32 × Mem) :=
  (bd2 (d_X9_nextRow  M) (fun (r10 : Int32) (M11 : Mem) => (rec9 s0 r10 M11)))
def dX9_bestErrands_36j (rec9 : Int32 → Int32 → Mem → Option (Int32 × Mem)) (v1 : Int32) (v3 : Int32) (s0 : Int32) (M : Mem) : Option (Int32 × Mem) :=
  (dX9_bestErrands_41l v1 v3 s0  (fun  (M8 : Mem) => (if s0 = 0 then (dX9_bestErrands_100j rec9  v1 M8) else (dX9_bestErrands_100j rec9  v3 M8))) FU (0 : Int32) M)
def dX9_bestErrands_35j (rec9 : Int32 → Int32 → Mem → Option (Int32 × Mem)) (v1 : Int32) (v3 : Int32)  (M : Mem) : Option (Int32 × Mem) :=
  (dX9_bestErrands_36j rec9 v1 v3 (0 : Int32) M)
def dX9_bestErrands_31j (rec9 : Int32 → Int32 → Mem → Option (Int32 × Mem)) (v1 : Int32) (v3 : Int32)  (M : Mem) : Option (Int32 × Mem) :=
  (dX9_bestErrands_36j rec9 v1 v3 (1 : Int32) M)
def dX9_bestErrands_9l    : Nat → Int32 → Int32 → Mem → Option (Int32 × Mem)
  | 0, _, _, _ => none
  | f + 1, v1 , v2, M =>
  (if v2 = 0 then (some (v1, M)) else (bd1 (d_X9_lastOne  M) (fun (r3 : Int32) => (if r3 < 0 then (dX9_bestErrands_35j (dX9_bestErrands_9l    f) v1 r3  M) else (if v1 < 0 then (dX9_bestErrands_31j (dX9_bestErrands_9l    f) v1 r3  M) else (if v1 ≤ r3 then (dX9_bestErrands_35j (dX9_bestErrands_9l    f) v1 r3  M) else (dX9_bestErrands_31j (dX9_bestErrands_9l    f) v1 r3  M)))))))
def d_X9_bestErrands  (M : Mem) : Option (Int32 × Mem) :=
  (bd1 (d_X9_sortsCorners  M) (fun (M1 : Mem) => (dX9_bestErrands_9l    FU (-9 : Int32) (1 : Int32) M1)))

def d_X9_errands (v1 : Int32) (M : Mem) : Option (Int32 × Mem) :=
  (if (M 0 2) = 0 then (some ((-3 : Int32), M)) else (bd1 (d_X9_in v1.toInt64 (-1 : Int64) (5 : Int64) M) (fun (r2 : Int32) => (if r2 = 0 then (some ((-2 : Int32), M)) else (bd2 (d_X9_bestErrands  M) (fun (r4 : Int32) (M5 : Mem) => (if r4 < 0 then (some (r4, M5)) else (if 0 ≤ v1 then (if (M5 0 2) ≤ v1 then (some ((-9 : Int32), M5)) else (if inB v1 6 = true then (some ((M5 17 v1.toNatClampNeg), M5)) else none)) else (some (r4, M5))))))))))

def d_X9_reading (v1 : Int32) (v2 : Int32) (v3 : Int32) (M : Mem) : Option (Int32 × Mem) :=
  (bd1 (d_X9_noFootman v1 M) (fun (r1 : Int32) => (if r1 = 0 then (bd1 (d_X9_in v2.toInt64 (0 : Int64) (99 : Int64) M) (fun (r3 : Int32) => (if r3 = 0 then (some ((-2 : Int32), M)) else (bd1 (d_X9_in v3.toInt64 (0 : Int64) (999 : Int64) M) (fun (r5 : Int32) => (if r5 = 0 then (some ((-2 : Int32), M)) else (if (M 0 30) = (8 : Int32) then (some ((-4 : Int32), M)) else (if inB (M 0 30) 8 = true then (lm (mu M 18 (M 0 30).toNatClampNeg v1) (fun (M8 : Mem) => (if inB (M8 0 30) 8 = true then (lm (mu M8 19 (M8 0 30).toNatClampNeg v2) (fun (M9 : Mem) => (if inB (M9 0 30) 8 = true then (lm (mu M9 20 (M9 0 30).toNatClampNeg v3) (fun (M10 : Mem) => (lm (mu M10 0 30 ((M10 0 30) + (1 : Int32))) (fun (M11 : Mem) => (some (((M11 0 30) - (1 : Int32)), M11)))))) else none))) else none))) else none)))))))) else (some ((-1 : Int32), M)))))

def d_X9_back (v1 : Int32) (M : Mem) : Option (Int32 × Mem) :=
  (bd1 (d_X9_in v1.toInt64 (0 : Int64) ((M 0 30).toInt64) M) (fun (r1 : Int32) => (if r1 = 0 then (some ((-2 : Int32), M)) else (lm (mu M 0 30 ((M 0 30) - v1)) (fun (M3 : Mem) => (some ((M3 0 30), M3)))))))

def dX9_areSo_46j (rec4 : Int32 → Int32 → Option Int32) (v2 : Int32)  (M : Mem) : Option Int32 :=
  (rec4 (0 : Int32) (v2 + (1 : Int32)))
def dX9_areSo_4l  (M : Mem)  : Nat → Int32 → Int32 → Option Int32
  | 0, _, _ => none
  | f + 1, v1 , v2 =>
  (if (M 0 30) ≤ v2 then (if isZ v1 = true then (some v1) else none) else (if v1 = 0 then (dX9_areSo_46j (dX9_areSo_4l  M  f) v2  M) else (if inB v2 8 = true then (if inB v2 8 = true then (bd1 (d_X9_paceOf (M 18 v2.toNatClampNeg) M) (fun (r4 : Int32) => (if inB v2 8 = true then (if ((M 19 v2.toNatClampNeg) * r4) = (M 20 v2.toNatClampNeg) then ((dX9_areSo_4l  M  f) (1 : Int32) (v2 + (1 : Int32))) else (dX9_areSo_46j (dX9_areSo_4l  M  f) v2  M)) else none))) else none) else none)))
def d_X9_areSo  (M : Mem) : Option Int32 :=
  (dX9_areSo_4l  M  FU (1 : Int32) (0 : Int32) )

def dX9_calves_22l (v1 : Int32) (v2 : Int32)  (k22_61 : Int32 → Mem → Option (Int32 × Mem)) : Nat → Int32 → Int32 → Mem → Option (Int32 × Mem)
  | 0, _, _, _ => none
  | f + 1, v3 , v4, M =>
  (if (10 : Int32) ≤ v4 then (k22_61 v3 M) else (if inB v1 6 = true then (lm (mu M 6 v1.toNatClampNeg v4) (fun (M5 : Mem) => (bd1 (d_X9_areSo  M5) (fun (r6 : Int32) => (if r6 = 0 then (lm (v3 ||| (0 : Int32)) (fun (x8 : Int32) => ((dX9_calves_22l v1 v2  k22_61 f) x8 (v4 + (1 : Int32)) M5))) else (lm (v3 ||| ((1 : Int32) <<< (v4 &&& 31))) (fun (x9 : Int32) => ((dX9_calves_22l v1 v2  k22_61 f) x9 (v4 + (1 : Int32)) M5)))))))) else none))
def d_X9_calves (v1 : Int32) (M : Mem) : Option (Int32 × Mem) :=
  (bd1 (d_X9_noFootman v1 M) (fun (r1 : Int32) => (if r1 = 0 then (if inB v1 6 = true then (lm (M 6 v1.toNatClampNeg) (fun (x3 : Int32) => (dX9_calves_22l v1 x3  (fun (w10 : Int32) (M11 : Mem) => (if inB v1 6 = true then (lm (mu M11 6 v1.toNatClampNeg x3) (fun (M12 : Mem) => (some (w10, M12)))) else none)) FU (0 : Int32) (1 : Int32) M))) else none) else (some ((-1 : Int32), M)))))

def dX9_kinds_22l (v1 : Int32) (v2 : Int32)  (k22_60 : Int32 → Mem → Option (Int32 × Mem)) : Nat → Int32 → Int32 → Mem → Option (Int32 × Mem)
  | 0, _, _, _ => none
  | f + 1, v3 , v4, M =>
  (if (3 : Int32) ≤ v4 then (k22_60 v3 M) else (if inB v1 6 = true then (lm (mu M 3 v1.toNatClampNeg v4) (fun (M5 : Mem) => (bd1 (d_X9_areSo  M5) (fun (r6 : Int32) => (if r6 = 0 then (lm (v3 ||| (0 : Int32)) (fun (x8 : Int32) => ((dX9_kinds_22l v1 v2  k22_60 f) x8 (v4 + (1 : Int32)) M5))) else (lm (v3 ||| ((1 : Int32) <<< (v4 &&& 31))) (fun (x9 : Int32) => ((dX9_kinds_22l v1 v2  k22_60 f) x9 (v4 + (1 : Int32)) M5)))))))) else none))
def d_X9_kinds (v1 : Int32) (M : Mem) : Option (Int32 × Mem) :=
  (bd1 (d_X9_noFootman v1 M) (fun (r1 : Int32) => (if r1 = 0 then (if inB v1 6 = true then (lm (M 3 v1.toNatClampNeg) (fun (x3 : Int32) => (dX9_kinds_22l v1 x3  (fun (w10 : Int32) (M11 : Mem) => (if inB v1 6 = true then (lm (mu M11 3 v1.toNatClampNeg x3) (fun (M12 : Mem) => (some (w10, M12)))) else none)) FU (0 : Int32) (0 : Int32) M))) else none) else (some ((-1 : Int32), M)))))

def dX9_odds_30j    (M : Mem) : Option Int64 :=
  (bd1 (d_X9_lost  M) (fun (r3 : Int64) => (some r3)))
def dX9_odds_97j (rec40 : Int64 → Int32 → Option Int64) (v1 : Int32) (v2 : Int32) (v3 : Int32) (v6 : Int32) (s0 : Int64) (M : Mem) : Option Int64 :=
  (lm (s0 + (0 : Int64)) (fun (x11 : Int64) => (rec40 x11 (v6 + (1 : Int32)))))
def dX9_odds_40l (v1 : Int32) (v2 : Int32) (v3 : Int32) (M : Mem) (k40_107 : Int64 → Option Int64) : Nat → Int64 → Int32 → Option Int64
  | 0, _, _ => none
  | f + 1, v4 , v6 =>
  (if (M 0 1) ≤ v6 then (k40_107 v4) else (if inB v1 6 = true then (bd1 (d_X9_farFrom (M 4 v1.toNatClampNeg) v6 M) (fun (r9 : Int32) => (if inB v1 6 = true then (if v6 = (M 4 v1.toNatClampNeg) then (dX9_odds_97j (dX9_odds_40l v1 v2 v3 M k40_107 f) v1 v2 v3 v6 v4 M) else (if r9 < 0 then (dX9_odds_97j (dX9_odds_40l v1 v2 v3 M k40_107 f) v1 v2 v3 v6 v4 M) else (bd1 (d_X9_paceOf v1 M) (fun (r13 : Int32) => (if (v2 * r13) < r9 then (dX9_odds_97j (dX9_odds_40l v1 v2 v3 M k40_107 f) v1 v2 v3 v6 v4 M) else (lm (v4 + (1 : Int64)) (fun (x15 : Int64) => ((dX9_odds_40l v1 v2 v3 M k40_107 f) x15 (v6 + (1 : Int32)))))))))) else none))) else none))
def d_X9_odds (v1 : Int32) (v2 : Int32) (v3 : Int32) (M : Mem) : Option Int64 :=
  (bd1 (d_X9_noFootman v1 M) (fun (r1 : Int32) => (if r1 = 0 then (bd1 (d_X9_in v2.toInt64 (0 : Int64) (99 : Int64) M) (fun (r4 : Int32) => (if r4 = 0 then (dX9_odds_30j    M) else (bd1 (d_X9_in v3.toInt64 (0 : Int64) (1 : Int64) M) (fun (r6 : Int32) => (if r6 = 0 then (dX9_odds_30j    M) else (dX9_odds_40l v1 v2 v3 M (fun (w16 : Int64) => (bd1 (d_X9_share w16 (((M 0 1).toInt64) - (1 : Int64)) v3 M) (fun (r17 : Int64) => (some r17)))) FU (0 : Int64) (0 : Int32) ))))))) else (dX9_odds_30j    M))))

def dX9_sheet_31j    (M : Mem) : Option (Int32 × Mem) :=
  (bd2 (d_X9_refused (-2 : Int32) M) (fun (r5 : Int32) (M6 : Mem) => (some (r5, M6))))
def dX9_sheet_65l (v1 : Int32) (v3 : Int32)  (k65_90 : Mem → Option (Int32 × Mem)) : Nat → Int32 → Mem → Option (Int32 × Mem)
  | 0, _, _ => none
  | f + 1, v4, M =>
  (if v3 ≤ v4 then (k65_90  M) else (if inB (((60 : Int32) * v1) + v4) 240 = true then (lm (mu M 23 (((60 : Int32) * v1) + v4).toNatClampNeg (0 : Int32)) (fun (M12 : Mem) => ((dX9_sheet_65l v1 v3  k65_90 f) (v4 + (1 : Int32)) M12))) else none))
def d_X9_sheet (v1 : Int32) (v2 : Int32) (v3 : Int32) (M : Mem) : Option (Int32 × Mem) :=
  (bd1 (d_X9_noSheet v1 M) (fun (r1 : Int32) => (if r1 = 0 then (bd1 (d_X9_in v2.toInt64 (0 : Int64) (2 : Int64) M) (fun (r3 : Int32) => (if r3 = 0 then (dX9_sheet_31j    M) else (if v3 ≤ (60 : Int32) then (if 0 ≤ v3 then (if inB v1 4 = true then (lm (mu M 21 v1.toNatClampNeg v3) (fun (M9 : Mem) => (if inB v1 4 = true then (lm (mu M9 22 v1.toNatClampNeg v2) (fun (M10 : Mem) => (dX9_sheet_65l v1 v3  (fun  (M13 : Mem) => (bd2 (d_X9_refused (1 : Int32) M13) (fun (r14 : Int32) (M15 : Mem) => (some (r14, M15))))) FU (0 : Int32) M10))) else none))) else none) else (bd2 (d_X9_failed (4 : Int32) M) (fun (r16 : Int32) (M17 : Mem) => (some (r16, M17))))) else (dX9_sheet_31j    M))))) else (bd2 (d_X9_refused (-1 : Int32) M) (fun (r18 : Int32) (M19 : Mem) => (some (r18, M19)))))))

def dX9_lose_23j  (v1 : Int32) (s0 : Int32) (M : Mem) : Option (Int32 × Mem) :=
  (if inB v1 4 = true then (lm (mu M 21 v1.toNatClampNeg (-1 : Int32)) (fun (M4 : Mem) => (some (s0, M4)))) else none)
def d_X9_lose (v1 : Int32) (M : Mem) : Option (Int32 × Mem) :=
  (bd1 (d_X9_noSheet v1 M) (fun (r1 : Int32) => (if r1 = 0 then (if inB v1 4 = true then (if 0 ≤ (M 21 v1.toNatClampNeg) then (dX9_lose_23j  v1 (1 : Int32) M) else (dX9_lose_23j  v1 (0 : Int32) M)) else none) else (some ((-1 : Int32), M)))))

def d_X9_noCell (v1 : Int32) (v2 : Int32) (M : Mem) : Option Int32 :=
  (if inB v1 4 = true then (if 0 ≤ (M 21 v1.toNatClampNeg) then (if inB v1 4 = true then (bd1 (d_X9_in v2.toInt64 (0 : Int64) (((M 21 v1.toNatClampNeg).toInt64) - (1 : Int64)) M) (fun (r2 : Int32) => (if r2 = 0 then (some (3 : Int32)) else (some (0 : Int32))))) else none) else (some (1 : Int32))) else none)

def dX9_put_73j   (s0 : Int32) (s1 : Int32) (M : Mem) : Option (Int32 × Mem) :=
  (if inB s1 240 = true then (lm (mu M 23 s1.toNatClampNeg s0) (fun (M7 : Mem) => (bd2 (d_X9_refused (1 : Int32) M7) (fun (r8 : Int32) (M9 : Mem) => (some (r8, M9)))))) else none)
def d_X9_put (v1 : Int32) (v2 : Int32) (v3 : Int32) (M : Mem) : Option (Int32 × Mem) :=
  (bd1 (d_X9_noSheet v1 M) (fun (r1 : Int32) => (if r1 = 0 then (bd1 (d_X9_noCell v1 v2 M) (fun (r3 : Int32) => (if r3 ≤ 0 then (if inB v1 4 = true then (if (M 22 v1.toNatClampNeg) = 0 then (dX9_put_73j   v3.toInt8.toInt32 (((60 : Int32) * v1) + v2) M) else (if inB v1 4 = true then (if (M 22 v1.toNatClampNeg) = (1 : Int32) then (dX9_put_73j   v3.toInt16.toInt32 (((60 : Int32) * v1) + v2) M) else (dX9_put_73j   v3 (((60 : Int32) * v1) + v2) M)) else none)) else none) else (bd1 (d_X9_noCell v1 v2 M) (fun (r10 : Int32) => (bd2 (d_X9_failed r10 M) (fun (r11 : Int32) (M12 : Mem) => (some (r11, M12))))))))) else (bd2 (d_X9_refused (-1 : Int32) M) (fun (r13 : Int32) (M14 : Mem) => (some (r13, M14)))))))

def dX9_cell_24j    (M : Mem) : Option (Int64 × Mem) :=
  (bd1 (d_X9_lost  M) (fun (r4 : Int64) => (some (r4, M))))
def dX9_cell_53j  (v1 : Int32) (v2 : Int32)  (M : Mem) : Option (Int64 × Mem) :=
  (bd1 (d_X9_noCell v1 v2 M) (fun (r8 : Int32) => (if r8 ≤ 0 then (if inB (((60 : Int32) * v1) + v2) 240 = true then (some ((M 23 (((60 : Int32) * v1) + v2).toNatClampNeg).toInt64, M)) else none) else (bd1 (d_X9_noCell v1 v2 M) (fun (r10 : Int32) => (bd2 (d_X9_failedLong r10 M) (fun (r11 : Int64) (M12 : Mem) => (some (r11, M12)))))))))
def d_X9_cell (v1 : Int32) (v2 : Int32) (v3 : Int32) (M : Mem) : Option (Int64 × Mem) :=
  (lm (mu M 0 0 (0 : Int32)) (fun (M1 : Mem) => (bd1 (d_X9_noSheet v1 M1) (fun (r2 : Int32) => (if r2 = 0 then (bd1 (d_X9_in v3.toInt64 (0 : Int64) (2 : Int64) M1) (fun (r5 : Int32) => (if r5 = 0 then (dX9_cell_24j    M1) else (if inB v1 4 = true then (if (M1 21 v1.toNatClampNeg) < 0 then (dX9_cell_53j  v1 v2  M1) else (if inB v1 4 = true then (if (M1 22 v1.toNatClampNeg) = v3 then (dX9_cell_53j  v1 v2  M1) else (bd2 (d_X9_failedLong (2 : Int32) M1) (fun (r14 : Int64) (M15 : Mem) => (some (r14, M15))))) else none)) else none)))) else (dX9_cell_24j    M1))))))

def dX9_copy_14j    (M : Mem) : Option (Int32 × Mem) :=
  (bd2 (d_X9_refused (-1 : Int32) M) (fun (r3 : Int32) (M4 : Mem) => (some (r3, M4))))
def dX9_copy_38j    (M : Mem) : Option (Int32 × Mem) :=
  (bd2 (d_X9_failed (1 : Int32) M) (fun (r8 : Int32) (M9 : Mem) => (some (r8, M9))))
def dX9_copy_98j    (M : Mem) : Option (Int32 × Mem) :=
  (bd2 (d_X9_failed (3 : Int32) M) (fun (r14 : Int32) (M15 : Mem) => (some (r14, M15))))
def dX9_copy_107l (v1 : Int32) (v2 : Int32) (v3 : Int32) (v4 : Int32) (v5 : Int32)  (k107_141 : Mem → Option (Int32 × Mem)) : Nat → Int32 → Mem → Option (Int32 × Mem)
  | 0, _, _ => none
  | f + 1, v6, M =>
  (if v5 ≤ v6 then (k107_141  M) else (if inB ((((60 : Int32) * v1) + v2) + v6) 240 = true then (if inB v6 60 = true then (lm (mu M 24 v6.toNatClampNeg (M 23 ((((60 : Int32) * v1) + v2) + v6).toNatClampNeg)) (fun (M19 : Mem) => ((dX9_copy_107l v1 v2 v3 v4 v5  k107_141 f) (v6 + (1 : Int32)) M19))) else none) else none))
def dX9_copy_144l (v3 : Int32) (v4 : Int32) (v5 : Int32)  (k144_179 : Mem → Option (Int32 × Mem)) : Nat → Int32 → Mem → Option (Int32 × Mem)
  | 0, _, _ => none
  | f + 1, v6, M =>
  (if v5 ≤ v6 then (k144_179  M) else (if inB v6 60 = true then (if inB ((((60 : Int32) * v3) + v4) + v6) 240 = true then (lm (mu M 23 ((((60 : Int32) * v3) + v4) + v6).toNatClampNeg (M 24 v6.toNatClampNeg)) (fun (M22 : Mem) => ((dX9_copy_144l v3 v4 v5  k144_179 f) (v6 + (1 : Int32)) M22))) else none) else none))
def d_X9_copy (v1 : Int32) (v2 : Int32) (v3 : Int32) (v4 : Int32) (v5 : Int32) (M : Mem) : Option (Int32 × Mem) :=
  (bd1 (d_X9_noSheet v1 M) (fun (r1 : Int32) => (if r1 = 0 then (bd1 (d_X9_noSheet v3 M) (fun (r5 : Int32) => (if r5 = 0 then (if inB v1 4 = true then (if (M 21 v1.toNatClampNeg) < 0 then (dX9_copy_38j    M) else (if inB v3 4 = true then (if 0 ≤ (M 21 v3.toNatClampNeg) then (if inB v1 4 = true then (if inB v3 4 = true then (if (M 22 v1.toNatClampNeg) = (M 22 v3.toNatClampNeg) then (if inB v1 4 = true then (bd1 (d_X9_isBeyond v2 v5.toInt64 (M 21 v1.toNatClampNeg) M) (fun (r12 : Int32) => (if r12 = 0 then (if inB v3 4 = true then (bd1 (d_X9_isBeyond v4 v5.toInt64 (M 21 v3.toNatClampNeg) M) (fun (r16 : Int32) => (if r16 = 0 then (dX9_copy_107l v1 v2 v3 v4 v5  (fun  (M20 : Mem) => (dX9_copy_144l v3 v4 v5  (fun  (M23 : Mem) => (bd2 (d_X9_refused v5 M23) (fun (r24 : Int32) (M25 : Mem) => (some (r24, M25))))) FU (0 : Int32) M20)) FU (0 : Int32) M) else (dX9_copy_98j    M)))) else none) else (dX9_copy_98j    M)))) else none) else (bd2 (d_X9_failed (2 : Int32) M) (fun (r26 : Int32) (M27 : Mem) => (some (r26, M27))))) else none) else none) else (dX9_copy_38j    M)) else none)) else none) else (dX9_copy_14j    M)))) else (dX9_copy_14j    M))))

def d_X9_traced (v1 : Int32) (M : Mem) : Option Mem :=
  (lm (mu M 0 38 (((31 : Int32) * (M 0 38)) + v1)) (fun (M1 : Mem) => (some M1)))

def dX9_tell_51j  (v1 : Int32) (v2 : Int32)  (M : Mem) : Option (Int32 × Mem) :=
  (if inB v1 6 = true then (lm (M 6 v1.toNatClampNeg) (fun (x8 : Int32) => (if v2 = 0 then (some (x8, M)) else (if v2 = (1 : Int32) then (some ((x8 + (100 : Int32)), M)) else (some ((((2 : Int32) * x8) + (100 : Int32)), M)))))) else none)
def dX9_tell_36j  (v1 : Int32) (v2 : Int32)  (M : Mem) : Option (Int32 × Mem) :=
  (bd1 (d_X9_traced (1 : Int32) M) (fun (M6 : Mem) => (if v2 = (2 : Int32) then (bd1 (d_X9_traced (1 : Int32) M6) (fun (M11 : Mem) => (dX9_tell_51j  v1 v2  M11))) else (dX9_tell_51j  v1 v2  M6))))
def dX9_tell_27j  (v1 : Int32) (v2 : Int32)  (M : Mem) : Option (Int32 × Mem) :=
  (if v2 ≤ 0 then (dX9_tell_36j  v1 v2  M) else (bd1 (d_X9_traced (2 : Int32) M) (fun (M12 : Mem) => (dX9_tell_36j  v1 v2  M12))))
def d_X9_tell (v1 : Int32) (M : Mem) : Option (Int32 × Mem) :=
  (bd1 (d_X9_noFootman v1 M) (fun (r1 : Int32) => (if r1 = 0 then (if inB v1 6 = true then (lm (M 3 v1.toNatClampNeg) (fun (x3 : Int32) => (if x3 = (2 : Int32) then (bd1 (d_X9_traced (3 : Int32) M) (fun (M13 : Mem) => (dX9_tell_27j  v1 x3  M13))) else (dX9_tell_27j  v1 x3  M)))) else none) else (some ((-1 : Int32), M)))))

def dX9_ring_26j  (v1 : Int32) (s0 : Int32) (M : Mem) : Option (Int32 × Mem) :=
  (bd1 (d_X9_traced s0 M) (fun (M4 : Mem) => (if inB v1 6 = true then (if (M4 3 v1.toNatClampNeg) = (2 : Int32) then (some ((60 : Int32), M4)) else (some (v1, M4))) else none)))
def d_X9_ring (v1 : Int32) (M : Mem) : Option (Int32 × Mem) :=
  (bd1 (d_X9_noFootman v1 M) (fun (r1 : Int32) => (if r1 = 0 then (if inB v1 6 = true then (if (M 3 v1.toNatClampNeg) = (2 : Int32) then (dX9_ring_26j  v1 (5 : Int32) M) else (dX9_ring_26j  v1 (4 : Int32) M)) else none) else (some ((-1 : Int32), M)))))

def d_X9_as (v1 : Int32) (v2 : Int32) (M : Mem) : Option (Int32 × Mem) :=
  (bd1 (d_X9_noFootman v1 M) (fun (r1 : Int32) => (if r1 = 0 then (bd1 (d_X9_in v2.toInt64 (0 : Int64) (2 : Int64) M) (fun (r3 : Int32) => (if r3 = 0 then (bd2 (d_X9_refused (-2 : Int32) M) (fun (r10 : Int32) (M11 : Mem) => (some (r10, M11)))) else (if inB v1 6 = true then (if (M 3 v1.toNatClampNeg) < v2 then (bd2 (d_X9_failed (2 : Int32) M) (fun (r6 : Int32) (M7 : Mem) => (some (r6, M7)))) else (bd2 (d_X9_refused (1 : Int32) M) (fun (r8 : Int32) (M9 : Mem) => (some (r8, M9))))) else none)))) else (bd2 (d_X9_refused (-1 : Int32) M) (fun (r12 : Int32) (M13 : Mem) => (some (r12, M13)))))))

def d_X9_trace  (M : Mem) : Option Int32 :=
  (some (M 0 38))

def d_X9_fault  (M : Mem) : Option Int32 :=
  (some (M 0 0))

def d_X9_many (v1 : Int32) (M : Mem) : Option Int32 :=
  (if v1 = (0 : Int32) then (some (M 0 2)) else (if v1 = (1 : Int32) then (some (M 0 1)) else (if v1 = (2 : Int32) then (some (M 0 3)) else (if v1 = (3 : Int32) then (bd1 (d_X9_arrived  M) (fun (r5 : Int32) => (some r5))) else (if v1 = (4 : Int32) then (some (M 0 30)) else (some (-2 : Int32)))))))
