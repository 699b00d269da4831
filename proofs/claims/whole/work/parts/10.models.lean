/-- length() and charAt(k) of the String constants, by their places -/
def f_strlen (i : Nat) : Int32 := nI (xsLen.getD i 0)
def f_strchr (i : Nat) (k : Int32) : Option Int32 := if xin k (xsLen.getD i 0) then some ((xsByt.getD i []).getD k.toNatClampNeg 0) else none
def f_J7_fill_53178_L5 (v1 : Int32) (v3 : Int32) : Nat → Int32 → xT → Option (xT)
  | 0, _, _ => none
  | n + 1, v2, a =>
    (if v3 ≤ v2 then
    some a
    else
    (if xin v2 12 then
    f_J7_fill_53178_L5 v1 v3 n (v2 + 1) (sA a 4 (upd (gA a 4) (Int32.toNatClampNeg v2) v1))
    else none))

def f_J7_fill_53178 (N : Nat) (v1 : Int32) (a : xT) : Option xT :=
    (f_J7_fill_53178_L5 v1 12 N 0 a).bind (fun q5 =>
    some q5)

def f_X7_within (v0 : Int32) (v1 : Int32) (v2 : Int32) : Option Int32 :=
    (if v0 < v1 then
    some 0
    else
    (if v2 < v0 then
    some 0
    else
    some 1))

def f_X7_isList (v0 : Int32) : Option Int32 :=
    (f_X7_within v0 0 5).bind (fun q3 =>
    (if q3 &&& 1 = q3 then some q3 else none))

def f_X1_all (a : xT) : Option Int32 :=
    some (((1 : Int32) <<< ((gI a 0) &&& 31)) - 1)

def f_X1_isSet (v1 : Int32) (a : xT) : Option Int32 :=
    (if v1 < 0 then
    some 0
    else
    (f_X1_all a).bind (fun q6 =>
    (if q6 < v1 then
    some 0
    else
    some 1)))

def f_X3_append (k0 : Nat) (v1 : Int32) (a : xT) : Option (Int32 × xT) :=
    (if 64 ≤ (gI a (23 + k0)) then
    some (0, a)
    else
    (if v1 < 0 then
    some (0, a)
    else
    (if v1 < 4096 then
    (if xin (gI a (23 + k0)) 64 then
    (if xin (v1 / 64) 64 then
    (if xin (v1 / 64) 64 then
    some (1, (sB (sI (sA a (30 + k0) (upd (gA a (30 + k0)) (Int32.toNatClampNeg (gI a (23 + k0))) v1)) (23 + k0) ((gI a (23 + k0)) + 1)) (37 + k0) (vp_updL (gB a (37 + k0)) (Int32.toNatClampNeg (v1 / 64)) (((gB a (37 + k0)) (Int32.toNatClampNeg (v1 / 64))) ||| ((1 : Int64) <<< (((v1 - v1 / 64 * 64) : Int32).toInt64 &&& 63))))))
    else none)
    else none)
    else none)
    else
    some (0, a))))

def f_X3_holds (k0 : Nat) (v1 : Int32) (a : xT) : Option Int32 :=
    (if v1 < 0 then
    some 0
    else
    (if 4096 ≤ v1 then
    some 0
    else
    (if xin (v1 / 64) 64 then
    (if ((xlushr ((gB a (37 + k0)) (Int32.toNatClampNeg (v1 / 64))) (v1 - v1 / 64 * 64)) &&& 1) = 0 then
    some 0
    else
    some 1)
    else none)))

def f_X7_add (v1 : Int32) (v2 : Int32) (a : xT) : Option (Int32 × xT) :=
    (f_X7_isList v1).bind (fun q1 =>
    (if q1 = 0 then
    some ((-1001), a)
    else
    (f_X1_isSet v2 a).bind (fun q16 =>
    (if q16 = 0 then
    some ((-1002), a)
    else
    (if xin v1 6 then
    (f_X3_holds (Int32.toNatClampNeg v1) v2 a).bind (fun q33 =>
    (if q33 = 0 then
    (if xin v1 6 then
    (f_X3_append (Int32.toNatClampNeg v1) v2 a).bind (fun q50 =>
    (if q50.1 = 0 then
    some ((-1004), q50.2)
    else
    (if xin v1 6 then
    some ((gI q50.2 (23 + (Int32.toNatClampNeg v1))), q50.2)
    else none)))
    else none)
    else
    some ((-1003), a)))
    else none)))))

def f_X3_copy (k0 : Nat) (k1 : Nat) (a : xT) : Option xT :=
    (if ¬ (0 : Int32) < 0 ∧ ¬ (0 : Int32) < 0 ∧ ¬ ((gI (sI a (23 + k0) (gI a (23 + k1))) (23 + k0)) : Int32) < 0 ∧ (Int32.toNatClampNeg 0) + (Int32.toNatClampNeg (gI (sI a (23 + k0) (gI a (23 + k1))) (23 + k0))) ≤ 64 ∧ (Int32.toNatClampNeg 0) + (Int32.toNatClampNeg (gI (sI a (23 + k0) (gI a (23 + k1))) (23 + k0))) ≤ 64 then
    (if ¬ (0 : Int32) < 0 ∧ ¬ (0 : Int32) < 0 ∧ ¬ (64 : Int32) < 0 ∧ (Int32.toNatClampNeg 0) + (Int32.toNatClampNeg 64) ≤ 64 ∧ (Int32.toNatClampNeg 0) + (Int32.toNatClampNeg 64) ≤ 64 then
    some (sB (sA (sI a (23 + k0) (gI a (23 + k1))) (30 + k0) (va_cpy (gA a (30 + k1)) (gA a (30 + k0)) (Int32.toNatClampNeg 0) (Int32.toNatClampNeg 0) (Int32.toNatClampNeg (gI (sI a (23 + k0) (gI a (23 + k1))) (23 + k0))))) (37 + k0) (va_cpy (gB a (37 + k1)) (gB a (37 + k0)) (Int32.toNatClampNeg 0) (Int32.toNatClampNeg 0) (Int32.toNatClampNeg 64)))
    else none)
    else none)

def f_X7_becomesFresh (v1 : Int32) (a : xT) : Option (Int32 × xT) :=
    (if xin v1 6 then
    (f_X3_copy (Int32.toNatClampNeg v1) 6 a).bind (fun q10 =>
    some ((gI q10 (23 + 6)), q10))
    else none)

def f_X1_extra (a : xT) : Option Int32 :=
    (if (gI a 1) = 1 then
    some 0
    else
    some (gI a 3))

def f_J6_bitCount_0f7a4 (v0 : Int32) : Option Int32 :=
    (some (((v0 - ((xushr v0 1) &&& 1431655765)) &&& 858993459) + ((xushr (v0 - ((xushr v0 1) &&& 1431655765)) 2) &&& 858993459))).bind (fun w23 =>
    (some (((w23 + (xushr w23 4)) &&& 252645135) + (xushr ((w23 + (xushr w23 4)) &&& 252645135) 8))).bind (fun w40 =>
    some ((w40 + (xushr w40 16)) &&& 63)))

def f_X1_near (v1 : Int32) (v2 : Int32) (a : xT) : Option Int32 :=
    (f_X1_extra a).bind (fun q5 =>
    (f_J6_bitCount_0f7a4 (v1 &&& (v2 ^^^ (-1)))).bind (fun q15 =>
    (if ((gI a 2) + q5) < q15 then
    some 0
    else
    (f_J6_bitCount_0f7a4 (v2 &&& (v1 ^^^ (-1)))).bind (fun q27 =>
    (if ((gI a 2) + q5) < q27 then
    some 0
    else
    some 1)))))

def f_X1_alike (v1 : Int32) (v2 : Int32) (v3 : Int32) (a : xT) : Option Int32 :=
    (if (gI a 1) = 0 then
    (f_J6_bitCount_0f7a4 (v1 ^^^ v3)).bind (fun q10 =>
    (if (gI a 2) < q10 then
    some 0
    else
    some 1))
    else
    (f_X1_near v1 v3 a).bind (fun q29 =>
    (if q29 = 0 then
    (if (gI a 1) = 3 then
    (f_X1_near v2 v3 a).bind (fun q46 =>
    (if q46 = 0 then
    some 0
    else
    some 1))
    else
    some 0)
    else
    some 1)))

def f_X1_reversed_L4 (v1 : Int32) (a : xT) : Nat → Int32 → Int32 → Option (Int32)
  | 0, _, _ => none
  | n + 1, v2, v3 =>
    (if (gI a 0) ≤ v3 then
    some v2
    else
    (some ((v2 <<< (1 &&& 31)) ||| ((v1 >>> (v3 &&& 31)) &&& 1))).bind (fun w21 =>
    f_X1_reversed_L4 v1 a n w21 (v3 + 1)))

def f_X1_reversed (N : Nat) (v1 : Int32) (a : xT) : Option Int32 :=
    (f_X1_reversed_L4 v1 a N 0 0).bind (fun q4 =>
    some q4)

def f_X1_witnessLost (N : Nat) (v1 : Int32) (v2 : Int32) (a : xT) : Option Int32 :=
    (f_X1_reversed N v1 a).bind (fun q4 =>
    (f_X1_alike v1 q4 v2 a).bind (fun q8 =>
    (if q8 = 0 then
    some (-1)
    else
    (if (gI a 1) = 0 then
    some (v1 ^^^ v2)
    else
    some 0))))

def f_X1_canEnd (v1 : Int32) (v2 : Int32) (v3 : Int32) (v4 : Int32) (a : xT) : Option Int32 :=
    (f_J6_bitCount_0f7a4 ((v1 &&& v4) &&& (v3 ^^^ (-1)))).bind (fun q12 =>
    (f_J6_bitCount_0f7a4 ((v2 &&& v4) &&& (v3 ^^^ (-1)))).bind (fun q30 =>
    (f_X1_extra a).bind (fun q37 =>
    (f_J6_bitCount_0f7a4 (v3 &&& (v1 ^^^ (-1)))).bind (fun q45 =>
    (f_X1_extra a).bind (fun q52 =>
    (f_J6_bitCount_0f7a4 (v3 &&& (v2 ^^^ (-1)))).bind (fun q60 =>
    (if ((gI a 2) - q12) < 0 then
    some 0
    else
    (if ((gI a 2) - q30) < 0 then
    some 0
    else
    (if (q37 - q45) < 0 then
    some 0
    else
    (if (q52 - q60) < 0 then
    some 0
    else
    (f_J6_bitCount_0f7a4 ((v1 &&& (v2 ^^^ (-1))) &&& (v4 ^^^ (-1)))).bind (fun q96 =>
    (if (((gI a 2) - q12) + (q52 - q60)) < q96 then
    some 0
    else
    (f_J6_bitCount_0f7a4 ((v2 &&& (v1 ^^^ (-1))) &&& (v4 ^^^ (-1)))).bind (fun q117 =>
    (if (((gI a 2) - q30) + (q37 - q45)) < q117 then
    some 0
    else
    some 1))))))))))))))

def f_X1_leastSeen_L24 (v1 : Int32) (v2 : Int32) (a : xT) : Nat → Int32 → Int32 → Int32 → Option (Int32)
  | 0, _, _, _ => none
  | n + 1, v3, v4, v5 =>
    (if v5 < 0 then
    some v3
    else
    (f_X1_canEnd v1 v2 v3 (v4 ||| ((1 : Int32) <<< (v5 &&& 31))) a).bind (fun q44 =>
    (if q44 = 0 then
    f_X1_leastSeen_L24 v1 v2 a n (v3 ||| ((1 : Int32) <<< (v5 &&& 31))) (v4 ||| ((1 : Int32) <<< (v5 &&& 31))) (v5 + (-1))
    else
    f_X1_leastSeen_L24 v1 v2 a n v3 (v4 ||| ((1 : Int32) <<< (v5 &&& 31))) (v5 + (-1)))))

def f_X1_leastSeen (N : Nat) (v1 : Int32) (v2 : Int32) (a : xT) : Option Int32 :=
    (f_X1_near v1 v2 a).bind (fun q3 =>
    (if q3 = 0 then
    some (-1)
    else
    (f_X1_leastSeen_L24 v1 v2 a N 0 0 ((gI a 0) - 1)).bind (fun q24 =>
    some q24)))

def f_X1_lesser (v0 : Int32) (v1 : Int32) : Option Int32 :=
    (if v0 = (-1) then
    some (xmax v0 v1)
    else
    (if v1 = (-1) then
    some (xmax v0 v1)
    else
    some (xmin v0 v1)))

def f_X1_witnessSeen (N : Nat) (v1 : Int32) (v2 : Int32) (a : xT) : Option Int32 :=
    (if (gI a 1) = 0 then
    (f_J6_bitCount_0f7a4 (v1 ^^^ v2)).bind (fun q10 =>
    (if (gI a 2) < q10 then
    some (-1)
    else
    some (v1 &&& v2)))
    else
    (f_X1_leastSeen N v1 v2 a).bind (fun q31 =>
    (if (gI a 1) = 3 then
    (f_X1_reversed N v1 a).bind (fun q45 =>
    (f_X1_reversed N v2 a).bind (fun q52 =>
    (f_X1_leastSeen N q45 v2 a).bind (fun q62 =>
    (f_X1_lesser q31 q62).bind (fun q65 =>
    (f_X1_leastSeen N v1 q52 a).bind (fun q74 =>
    (f_X1_lesser q65 q74).bind (fun q77 =>
    (f_X1_leastSeen N q45 q52 a).bind (fun q87 =>
    (f_X1_lesser q77 q87).bind (fun q90 =>
    some q90))))))))
    else
    some q31)))

def f_X7_between (N : Nat) (v1 : Int32) (v2 : Int32) (v3 : Int32) (a : xT) : Option Int32 :=
    (f_X1_isSet v1 a).bind (fun q5 =>
    (if q5 = 0 then
    some (-1002)
    else
    (f_X1_isSet v2 a).bind (fun q16 =>
    (if q16 = 0 then
    some (-1002)
    else
    (f_X7_within v3 0 1).bind (fun q25 =>
    (if q25 = 0 then
    some (-1002)
    else
    (if v3 = 0 then
    (f_X1_witnessSeen N v1 v2 a).bind (fun q45 =>
    some q45)
    else
    (f_X1_witnessLost N v1 v2 a).bind (fun q57 =>
    some q57))))))))

def f_X1_choose_L15 (v0 : Int32) (v1 : Int32) : Nat → Int32 → Int32 → Option (Int32)
  | 0, _, _ => none
  | n + 1, v2, v3 =>
    (if v1 ≤ v3 then
    some v2
    else
    (if ¬ (v3 + 1) = 0 then
    f_X1_choose_L15 v0 v1 n ((v2 * (v0 - v3)) / (v3 + 1)) (v3 + 1)
    else none))

def f_X1_choose (N : Nat) (v0 : Int32) (v1 : Int32) : Option Int32 :=
    (if v1 < 0 then
    some 0
    else
    (if v1 ≤ v0 then
    (f_X1_choose_L15 v0 v1 N 1 0).bind (fun q15 =>
    some q15)
    else
    some 0))

def f_X1_allSights_L18 (N : Nat) (a : xT) : Nat → Int32 → Int32 → Option (Int32)
  | 0, _, _ => none
  | n + 1, v1, v2 =>
    (if (gI a 2) < v2 then
    some v1
    else
    (if (gI a 0) < v2 then
    some v1
    else
    (f_X1_choose N (gI a 0) v2).bind (fun q40 =>
    f_X1_allSights_L18 N a n (v1 + (q40 <<< (((gI a 0) - v2) &&& 31))) (v2 + 1))))

def f_X1_allSights (N : Nat) (a : xT) : Option Int32 :=
    (if (gI a 1) = 0 then
    (f_X1_allSights_L18 N a N 0 0).bind (fun q18 =>
    some q18)
    else
    some ((1 : Int32) <<< ((gI a 0) &&& 31)))

def f_X1_sightsBothWays_L56 (N : Nat) (v1 : Int32) (v2 : Int32) (v3 : Int32) (v4 : Int32) (v5 : Int32) (v6 : Int32) (a : xT) : Nat → Int32 → Int32 → Option (Int32)
  | 0, _, _ => none
  | n + 1, v7, v8 =>
    (if ((gI a 3) - v6) < v8 then
    some v7
    else
    (f_X1_choose N v2 v8).bind (fun q73 =>
    f_X1_sightsBothWays_L56 N v1 v2 v3 v4 v5 v6 a n (v7 + q73) (v8 + 1)))

def f_X1_sightsBothWays_L29 (N : Nat) (v1 : Int32) (v2 : Int32) (v3 : Int32) (v5 : Int32) (a : xT) : Nat → Int32 → Int32 → Option (Int32)
  | 0, _, _ => none
  | n + 1, v4, v6 =>
    (if (gI a 3) < v6 then
    some v4
    else
    (f_X1_sightsBothWays_L56 N v1 v2 v3 v4 v5 v6 a N 0 (xmax 0 (v2 - ((gI a 2) - v5)))).bind (fun q56 =>
    (f_X1_choose N v1 v5).bind (fun q90 =>
    (f_X1_choose N v3 v6).bind (fun q96 =>
    f_X1_sightsBothWays_L29 N v1 v2 v3 v5 a n (v4 + (((q90 * q96) * q56) * q56)) (v6 + 1)))))

def f_X1_sightsBothWays_L17 (N : Nat) (v1 : Int32) (v2 : Int32) (v3 : Int32) (a : xT) : Nat → Int32 → Int32 → Option (Int32)
  | 0, _, _ => none
  | n + 1, v4, v5 =>
    (if (gI a 2) < v5 then
    some v4
    else
    (f_X1_sightsBothWays_L29 N v1 v2 v3 v5 a N v4 0).bind (fun q29 =>
    f_X1_sightsBothWays_L17 N v1 v2 v3 a n q29 (v5 + 1)))

def f_X1_sightsBothWays (N : Nat) (v1 : Int32) (v2 : Int32) (a : xT) : Option Int32 :=
    (f_X1_sightsBothWays_L17 N v1 v2 (((gI a 0) - v1) - (2 * v2)) a N 0 0).bind (fun q17 =>
    some q17)

def f_X1_upTo_L4 (N : Nat) (v0 : Int32) (v1 : Int32) : Nat → Int32 → Int32 → Option (Int32)
  | 0, _, _ => none
  | n + 1, v2, v3 =>
    (if v1 < v3 then
    some v2
    else
    (f_X1_choose N v0 v3).bind (fun q12 =>
    f_X1_upTo_L4 N v0 v1 n (v2 + q12) (v3 + 1)))

def f_X1_upTo (N : Nat) (v0 : Int32) (v1 : Int32) : Option Int32 :=
    (f_X1_upTo_L4 N v0 v1 N 0 0).bind (fun q4 =>
    some q4)

def f_X1_sights (N : Nat) (v1 : Int32) (v2 : Int32) (a : xT) : Option Int32 :=
    (if (gI a 1) = 0 then
    (f_X1_upTo N (gI a 0) (gI a 2)).bind (fun q15 =>
    some q15)
    else
    (f_X1_upTo N (v1 + v2) (gI a 2)).bind (fun q28 =>
    (f_X1_extra a).bind (fun q38 =>
    (f_X1_upTo N ((gI a 0) - (v1 + v2)) q38).bind (fun q41 =>
    (if (gI a 1) = 3 then
    (f_X1_sightsBothWays N v1 v2 a).bind (fun q62 =>
    some ((2 * (q28 * q41)) - q62))
    else
    some (q28 * q41))))))

def f_X1_leastSights_L35 (N : Nat) (v1 : Int32) (v3 : Int32) (v4 : Int32) (a : xT) : Nat → Int32 → Int32 → Option (Int32)
  | 0, _, _ => none
  | n + 1, v2, v5 =>
    (if ((gI a 0) - (gI a 0) / 2 * 2) < v5 then
    some v2
    else
    (f_X1_sights N ((2 * v4) + v5) v3 a).bind (fun q56 =>
    f_X1_leastSights_L35 N v1 v3 v4 a n (xmin v2 q56) (v5 + 1)))

def f_X1_leastSights_L24 (N : Nat) (v1 : Int32) (v3 : Int32) (a : xT) : Nat → Int32 → Int32 → Option (Int32)
  | 0, _, _ => none
  | n + 1, v2, v4 =>
    (if (v1 - v3) < v4 then
    some v2
    else
    (f_X1_leastSights_L35 N v1 v3 v4 a N v2 0).bind (fun q35 =>
    f_X1_leastSights_L24 N v1 v3 a n q35 (v4 + 1)))

def f_X1_leastSights_L16 (N : Nat) (v1 : Int32) (a : xT) : Nat → Int32 → Int32 → Option (Int32)
  | 0, _, _ => none
  | n + 1, v2, v3 =>
    (if v1 < v3 then
    some v2
    else
    (f_X1_leastSights_L24 N v1 v3 a N v2 0).bind (fun q24 =>
    f_X1_leastSights_L16 N v1 a n q24 (v3 + 1)))

def f_X1_leastSights (N : Nat) (a : xT) : Option Int32 :=
    (f_X1_sights N 0 0 a).bind (fun q10 =>
    (f_X1_leastSights_L16 N ((gI a 0) / 2) a N q10 0).bind (fun q16 =>
    some q16))

def f_X7_bound (N : Nat) (a : xT) : Option Int32 :=
    (f_X1_leastSights N a).bind (fun q4 =>
    (if q4 ≤ 0 then
    some 0
    else
    (f_X1_allSights N a).bind (fun q16 =>
    (if ¬ q4 = 0 then
    some (q16 / q4)
    else none))))

def f_X7_firstAlike_L13 (k1 : Nat) (v2 : Int32) (v4 : Int32) (a : xT) : Nat → Int32 → Option ((Unit) ⊕ (Int32))
  | 0, _ => none
  | n + 1, v5 =>
    (if (gI a (23 + k1)) ≤ v5 then
    some (.inl ())
    else
    (if xin v5 64 then
    (f_X1_alike v2 v4 ((gA a (30 + k1)) (Int32.toNatClampNeg v5)) a).bind (fun q36 =>
    (if q36 = 0 then
    f_X7_firstAlike_L13 k1 v2 v4 a n (v5 + 1)
    else
    some (.inr (v5))))
    else none))

def f_X7_firstAlike (N : Nat) (k1 : Nat) (v2 : Int32) (v3 : Int32) (a : xT) : Option Int32 :=
    (f_X1_reversed N v2 a).bind (fun q5 =>
    (f_X7_firstAlike_L13 k1 v2 q5 a N v3).bind (fun q13 =>
    (Sum.elim (fun z13_51 =>
    some (-1)) (fun z13_42 =>
    some z13_42)) q13))

def f_X7_build_L56 (N : Nat) (v2 : Int32) (v3 : Int32) (k4 : Nat) (v5 : Int32) : Nat → Int32 → xT → Option (xT)
  | 0, _, _ => none
  | n + 1, v6, a =>
    (if v5 < v6 then
    some a
    else
    (if v3 ≤ (gI a (23 + k4)) then
    some a
    else
    (f_X7_firstAlike N k4 (((v6 * ((2 * v2) + 1)) + v2) &&& v5) 0 a).bind (fun q93 =>
    (if q93 = (-1) then
    (f_X3_append k4 (((v6 * ((2 * v2) + 1)) + v2) &&& v5) a).bind (fun q104 =>
    f_X7_build_L56 N v2 v3 k4 v5 n (v6 + 1) q104.2)
    else
    f_X7_build_L56 N v2 v3 k4 v5 n (v6 + 1) a))))

def f_X7_build (N : Nat) (v1 : Int32) (v2 : Int32) (v3 : Int32) (a : xT) : Option (Int32 × xT) :=
    (f_X7_isList v1).bind (fun q1 =>
    (if q1 = 0 then
    some ((-1001), a)
    else
    (f_X7_within v2 0 4095).bind (fun q16 =>
    (if q16 = 0 then
    some ((-1002), a)
    else
    (f_X7_within v3 0 64).bind (fun q26 =>
    (if q26 = 0 then
    some ((-1002), a)
    else
    (if xin v1 6 then
    (f_X1_all a).bind (fun q48 =>
    (f_X7_build_L56 N v2 v3 (Int32.toNatClampNeg v1) q48 N 0 a).bind (fun q56 =>
    some ((gI q56 (23 + (Int32.toNatClampNeg v1))), q56)))
    else none)))))))

def f_X7_isMark (v1 : Int32) (v2 : Int32) (a : xT) : Option Int32 :=
    (f_X7_isList v1).bind (fun q1 =>
    (if q1 = 0 then
    some 0
    else
    (if xin v1 6 then
    (f_X7_within v2 0 ((gI a (23 + (Int32.toNatClampNeg v1))) - 1)).bind (fun q20 =>
    (if q20 = 0 then
    some 0
    else
    some 1))
    else none)))

def f_X4_chanceOf_L5 (v1 : Int32) (a : xT) : Nat → Int64 → Int32 → Option (Int64)
  | 0, _, _ => none
  | n + 1, v2, v4 =>
    (if 12 ≤ v4 then
    some v2
    else
    (if xin v4 12 then
    (if ((gA a 4) (Int32.toNatClampNeg v4)) = (-1) then
    f_X4_chanceOf_L5 v1 a n v2 (v4 + 1)
    else
    (if ((v1 >>> (v4 &&& 31)) &&& 1) = 0 then
    (if xin v4 12 then
    (some (v2 * (Int32.toInt64 (9 - ((gA a 4) (Int32.toNatClampNeg v4)))))).bind (fun w59 =>
    f_X4_chanceOf_L5 v1 a n w59 (v4 + 1))
    else none)
    else
    (if xin v4 12 then
    (some (v2 * (Int32.toInt64 ((gA a 4) (Int32.toNatClampNeg v4))))).bind (fun w59 =>
    f_X4_chanceOf_L5 v1 a n w59 (v4 + 1))
    else none)))
    else none))

def f_X4_chanceOf (N : Nat) (v1 : Int32) (a : xT) : Option Int64 :=
    (f_X4_chanceOf_L5 v1 a N 1 0).bind (fun q5 =>
    some q5)

def f_X7_chance (N : Nat) (v1 : Int32) (v2 : Int32) (a : xT) : Option Int64 :=
    (f_X7_isMark v1 v2 a).bind (fun q3 =>
    (if q3 = 0 then
    some (-1001)
    else
    (if xin v1 6 then
    (if xin v2 64 then
    (f_X4_chanceOf N ((gA a (30 + (Int32.toNatClampNeg v1))) (Int32.toNatClampNeg v2)) a).bind (fun q24 =>
    some q24)
    else none)
    else none)))

def f_J7_fill_d0a16_L6 (k0 : Nat) (v1 : Int64) (v4 : Int32) : Nat → Int32 → xT → Option (xT)
  | 0, _, _ => none
  | n + 1, v3, a =>
    (if v4 ≤ v3 then
    some a
    else
    (if xin v3 64 then
    f_J7_fill_d0a16_L6 k0 v1 v4 n (v3 + 1) (sB a (37 + k0) (vp_updL (gB a (37 + k0)) (Int32.toNatClampNeg v3) v1))
    else none))

def f_J7_fill_d0a16 (N : Nat) (k0 : Nat) (v1 : Int64) (a : xT) : Option xT :=
    (f_J7_fill_d0a16_L6 k0 v1 64 N 0 a).bind (fun q6 =>
    some q6)

def f_X3_wipe (N : Nat) (k0 : Nat) (a : xT) : Option xT :=
    (f_J7_fill_d0a16 N k0 0 (sI a (23 + k0) 0)).bind (fun q10 =>
    some q10)

def f_X7_clear (N : Nat) (v1 : Int32) (a : xT) : Option (Int32 × xT) :=
    (f_X7_isList v1).bind (fun q1 =>
    (if q1 = 0 then
    some ((-1001), a)
    else
    (if xin v1 6 then
    (if xin v1 6 then
    (f_X3_wipe N (Int32.toNatClampNeg v1) a).bind (fun q27 =>
    some ((gI a (23 + (Int32.toNatClampNeg v1))), q27))
    else none)
    else none)))

def f_X7_marksInAll_L4 (a : xT) : Nat → Int32 → Int32 → Option (Int32)
  | 0, _, _ => none
  | n + 1, v1, v2 =>
    (if 6 ≤ v2 then
    some v1
    else
    (if xin v2 6 then
    f_X7_marksInAll_L4 a n (v1 + (gI a (23 + (Int32.toNatClampNeg v2)))) (v2 + 1)
    else none))

def f_X7_marksInAll (N : Nat) (a : xT) : Option Int32 :=
    (f_X7_marksInAll_L4 a N 0 0).bind (fun q4 =>
    some q4)

def f_X4_lookedAt_L4 (a : xT) : Nat → Int32 → Int32 → Option (Int32)
  | 0, _, _ => none
  | n + 1, v1, v2 =>
    (if 12 ≤ v2 then
    some v1
    else
    (if xin v2 12 then
    (if ((gA a 4) (Int32.toNatClampNeg v2)) = (-1) then
    f_X4_lookedAt_L4 a n v1 (v2 + 1)
    else
    f_X4_lookedAt_L4 a n (v1 + 1) (v2 + 1))
    else none))

def f_X4_lookedAt (N : Nat) (a : xT) : Option Int32 :=
    (f_X4_lookedAt_L4 a N 0 0).bind (fun q4 =>
    some q4)

def f_X7_count (N : Nat) (v1 : Int32) (a : xT) : Option Int32 :=
    (if v1 = 0 then
    (f_X7_marksInAll N a).bind (fun q29 =>
    some q29)
    else
    (if v1 = 1 then
    some (gI a 5)
    else
    (if v1 = 2 then
    (f_X4_lookedAt N a).bind (fun q45 =>
    some q45)
    else
    some (-1002))))

def f_X3_remove (k0 : Nat) (v1 : Int32) (a : xT) : Option xT :=
    (if v1 < 0 then
    some a
    else
    (if v1 < (gI a (23 + k0)) then
    (if xin v1 64 then
    (if xin (((gA a (30 + k0)) (Int32.toNatClampNeg v1)) / 64) 64 then
    (if xin (((gA a (30 + k0)) (Int32.toNatClampNeg v1)) / 64) 64 then
    (if ¬ ((v1 + 1) : Int32) < 0 ∧ ¬ (v1 : Int32) < 0 ∧ ¬ (((gI (sI (sB a (37 + k0) (vp_updL (gB a (37 + k0)) (Int32.toNatClampNeg (((gA a (30 + k0)) (Int32.toNatClampNeg v1)) / 64)) (((gB a (37 + k0)) (Int32.toNatClampNeg (((gA a (30 + k0)) (Int32.toNatClampNeg v1)) / 64))) &&& (((1 : Int64) <<< (((((gA a (30 + k0)) (Int32.toNatClampNeg v1)) - ((gA a (30 + k0)) (Int32.toNatClampNeg v1)) / 64 * 64) : Int32).toInt64 &&& 63)) ^^^ (-1))))) (23 + k0) ((gI a (23 + k0)) - 1)) (23 + k0)) - v1) : Int32) < 0 ∧ (Int32.toNatClampNeg (v1 + 1)) + (Int32.toNatClampNeg ((gI (sI (sB a (37 + k0) (vp_updL (gB a (37 + k0)) (Int32.toNatClampNeg (((gA a (30 + k0)) (Int32.toNatClampNeg v1)) / 64)) (((gB a (37 + k0)) (Int32.toNatClampNeg (((gA a (30 + k0)) (Int32.toNatClampNeg v1)) / 64))) &&& (((1 : Int64) <<< (((((gA a (30 + k0)) (Int32.toNatClampNeg v1)) - ((gA a (30 + k0)) (Int32.toNatClampNeg v1)) / 64 * 64) : Int32).toInt64 &&& 63)) ^^^ (-1))))) (23 + k0) ((gI a (23 + k0)) - 1)) (23 + k0)) - v1)) ≤ 64 ∧ (Int32.toNatClampNeg v1) + (Int32.toNatClampNeg ((gI (sI (sB a (37 + k0) (vp_updL (gB a (37 + k0)) (Int32.toNatClampNeg (((gA a (30 + k0)) (Int32.toNatClampNeg v1)) / 64)) (((gB a (37 + k0)) (Int32.toNatClampNeg (((gA a (30 + k0)) (Int32.toNatClampNeg v1)) / 64))) &&& (((1 : Int64) <<< (((((gA a (30 + k0)) (Int32.toNatClampNeg v1)) - ((gA a (30 + k0)) (Int32.toNatClampNeg v1)) / 64 * 64) : Int32).toInt64 &&& 63)) ^^^ (-1))))) (23 + k0) ((gI a (23 + k0)) - 1)) (23 + k0)) - v1)) ≤ 64 then
    some (sA (sI (sB a (37 + k0) (vp_updL (gB a (37 + k0)) (Int32.toNatClampNeg (((gA a (30 + k0)) (Int32.toNatClampNeg v1)) / 64)) (((gB a (37 + k0)) (Int32.toNatClampNeg (((gA a (30 + k0)) (Int32.toNatClampNeg v1)) / 64))) &&& (((1 : Int64) <<< (((((gA a (30 + k0)) (Int32.toNatClampNeg v1)) - ((gA a (30 + k0)) (Int32.toNatClampNeg v1)) / 64 * 64) : Int32).toInt64 &&& 63)) ^^^ (-1))))) (23 + k0) ((gI a (23 + k0)) - 1)) (30 + k0) (va_cpy (gA a (30 + k0)) (gA a (30 + k0)) (Int32.toNatClampNeg (v1 + 1)) (Int32.toNatClampNeg v1) (Int32.toNatClampNeg ((gI (sI (sB a (37 + k0) (vp_updL (gB a (37 + k0)) (Int32.toNatClampNeg (((gA a (30 + k0)) (Int32.toNatClampNeg v1)) / 64)) (((gB a (37 + k0)) (Int32.toNatClampNeg (((gA a (30 + k0)) (Int32.toNatClampNeg v1)) / 64))) &&& (((1 : Int64) <<< (((((gA a (30 + k0)) (Int32.toNatClampNeg v1)) - ((gA a (30 + k0)) (Int32.toNatClampNeg v1)) / 64 * 64) : Int32).toInt64 &&& 63)) ^^^ (-1))))) (23 + k0) ((gI a (23 + k0)) - 1)) (23 + k0)) - v1))))
    else none)
    else none)
    else none)
    else none)
    else
    some a))

def f_X7_drop (v1 : Int32) (v2 : Int32) (a : xT) : Option (Int32 × xT) :=
    (f_X7_isMark v1 v2 a).bind (fun q3 =>
    (if q3 = 0 then
    some ((-1001), a)
    else
    (if xin v1 6 then
    (f_X3_remove (Int32.toNatClampNeg v1) v2 a).bind (fun q20 =>
    (if xin v1 6 then
    some ((gI q20 (23 + (Int32.toNatClampNeg v1))), q20)
    else none))
    else none)))

def f_X7_isPlace (v1 : Int32) (a : xT) : Option Int32 :=
    (f_X7_within v1 0 ((gI a 0) - 1)).bind (fun q11 =>
    (if q11 &&& 1 = q11 then some q11 else none))

def f_X3_appendOnce (k0 : Nat) (v1 : Int32) (a : xT) : Option (Int32 × xT) :=
    (f_X3_holds k0 v1 a).bind (fun q2 =>
    (if q2 = 0 then
    (f_X3_append k0 v1 a).bind (fun q10 =>
    (if q10.1 = 0 then
    some (0, q10.2)
    else
    some (1, q10.2)))
    else
    some (1, a)))

def f_X7_even_L40 (v1 : Int32) (v2 : Int32) (v3 : Int32) : Nat → Int32 → xT → Option (xT)
  | 0, _, _ => none
  | n + 1, v4, a =>
    (if xin v2 6 then
    (if (gI a (23 + (Int32.toNatClampNeg v2))) ≤ v4 then
    some a
    else
    (if xin v2 6 then
    (if xin v4 64 then
    (some (((gA a (30 + (Int32.toNatClampNeg v2))) (Int32.toNatClampNeg v4)) &&& (((1 : Int32) <<< (v3 &&& 31)) ^^^ (-1)))).bind (fun w72 =>
    (f_J6_bitCount_0f7a4 w72).bind (fun q82 =>
    (f_X3_appendOnce 6 (w72 ||| ((q82 &&& 1) <<< (v3 &&& 31))) a).bind (fun q90 =>
    f_X7_even_L40 v1 v2 v3 n (v4 + 1) q90.2)))
    else none)
    else none))
    else none)

def f_X7_even (N : Nat) (v1 : Int32) (v2 : Int32) (v3 : Int32) (a : xT) : Option (Int32 × xT) :=
    (f_X7_isList v1).bind (fun q1 =>
    (if q1 = 0 then
    some ((-1001), a)
    else
    (f_X7_isList v2).bind (fun q8 =>
    (if q8 = 0 then
    some ((-1001), a)
    else
    (f_X7_isPlace v3 a).bind (fun q20 =>
    (if q20 = 0 then
    some ((-1002), a)
    else
    (f_X3_wipe N 6 a).bind (fun q34 =>
    (f_X7_even_L40 v1 v2 v3 N 0 q34).bind (fun q40 =>
    (f_X7_becomesFresh v1 q40).bind (fun q102 =>
    some (q102.1, q102.2))))))))))

def f_X7_fault (a : xT) : Option Int32 :=
    some (gI a 11)

def f_X6_take_L22 (v2 : Int64) : Nat → Int32 → xT → Option (xT)
  | 0, _, _ => none
  | n + 1, v4, a =>
    (if v4 < 0 then
    some a
    else
    (if xin (gI a 5) 120 then
    f_X6_take_L22 v2 n (v4 + (-1)) (sI (sA a 7 (upd (gA a 7) (Int32.toNatClampNeg (gI a 5)) ((Int64.toInt32 (xlushr v2 (8 * v4))) &&& 255))) 5 ((gI a 5) + 1))
    else none))

def f_X6_take (N : Nat) (v1 : Int32) (v2 : Int64) (a : xT) : Option (Int32 × xT) :=
    (if v1 < 0 then
    some (0, a)
    else
    (if ((gI a 5) + v1) ≤ 120 then
    (f_X6_take_L22 v2 N (v1 - 1) a).bind (fun q22 =>
    some (1, q22))
    else
    some (0, a)))

def f_X7_feed (N : Nat) (v1 : Int32) (v2 : Int64) (a : xT) : Option (Int32 × xT) :=
    (f_X7_within v1 1 8).bind (fun q4 =>
    (if q4 = 0 then
    some ((-1002), a)
    else
    (f_X6_take N v1 v2 a).bind (fun q20 =>
    (if q20.1 = 0 then
    some ((-1004), q20.2)
    else
    some ((gI q20.2 5), q20.2)))))

def f_X1_sightsOf (N : Nat) (v1 : Int32) (a : xT) : Option Int32 :=
    (f_X1_reversed N v1 a).bind (fun q2 =>
    (f_J6_bitCount_0f7a4 (v1 &&& q2)).bind (fun q10 =>
    (f_J6_bitCount_0f7a4 (v1 &&& (q2 ^^^ (-1)))).bind (fun q18 =>
    (f_X1_sights N q10 q18 a).bind (fun q21 =>
    some q21))))

def f_X7_fills (N : Nat) (v1 : Int32) (a : xT) : Option Int32 :=
    (f_X1_isSet v1 a).bind (fun q5 =>
    (if q5 = 0 then
    some (-1002)
    else
    (f_X1_sightsOf N v1 a).bind (fun q16 =>
    some q16)))

def f_X0_offer (v1 : Int32) (v2 : Int32) (a : xT) : Option xT :=
    (if 64 ≤ (gI a 17) then
    some a
    else
    (if xin (gI a 17) 64 then
    (if xin (gI a 17) 64 then
    some (sI (sA (sA a 20 (upd (gA a 20) (Int32.toNatClampNeg (gI a 17)) v2)) 21 (upd (gA a 21) (Int32.toNatClampNeg (gI a 17)) v1)) 17 ((gI a 17) + 1))
    else none)
    else none))

def f_X0_start (v1 : Int32) (a : xT) : Option xT :=
    some (sI (sI a 18 v1) 17 0)

def f_X1_agreement (v1 : Int32) (v2 : Int32) (a : xT) : Option Int32 :=
    (f_X1_all a).bind (fun q6 =>
    some (((v1 ^^^ v2) ^^^ (-1)) &&& q6))

def f_X7_offerRings_L25 (v2 : Int32) (v3 : Int32) (k4 : Nat) : Nat → Int32 → xT → Option (xT)
  | 0, _, _ => none
  | n + 1, v5, a =>
    (if (gI a (23 + k4)) ≤ v5 then
    some a
    else
    (if v5 = v3 then
    f_X7_offerRings_L25 v2 v3 k4 n (v5 + 1) a
    else
    (if xin v5 64 then
    (f_X1_agreement ((gA a (30 + k4)) (Int32.toNatClampNeg v5)) v2 a).bind (fun q60 =>
    (f_X0_offer v5 q60 a).bind (fun q63 =>
    f_X7_offerRings_L25 v2 v3 k4 n (v5 + 1) q63))
    else none)))

def f_X7_offerRings (N : Nat) (v1 : Int32) (v2 : Int32) (v3 : Int32) (a : xT) : Option xT :=
    (if xin v1 6 then
    (f_X1_all a).bind (fun q16 =>
    (f_X0_start q16 a).bind (fun q19 =>
    (f_X7_offerRings_L25 v2 v3 (Int32.toNatClampNeg v1) N 0 q19).bind (fun q25 =>
    some q25)))
    else none)

def f_X0_tally (v1 : Int32) (v2 : Int32) (v3 : Int32) (v4 : Int32) (a : xT) : Option xT :=
    (if xin v2 64 then
    (if xin v3 64 then
    (if xin v4 64 then
    (if (gI a 20) = (-1) then
    (if xin v2 64 then
    (if xin 0 3 then
    (if xin v3 64 then
    (if xin 1 3 then
    (if xin v4 64 then
    (if xin 2 3 then
    some (sA (sA (sA (sI (sJ (sI a 19 ((gI a 19) + 1)) 0 ((gJ a 0) &&& ((((1 : Int64) <<< ((((gA a 21) (Int32.toNatClampNeg v2)) : Int32).toInt64 &&& 63)) ||| ((1 : Int64) <<< ((((gA a 21) (Int32.toNatClampNeg v3)) : Int32).toInt64 &&& 63))) ||| ((1 : Int64) <<< ((((gA a 21) (Int32.toNatClampNeg v4)) : Int32).toInt64 &&& 63))))) 20 v1) 22 (upd (gA a 22) (Int32.toNatClampNeg 0) ((gA a 21) (Int32.toNatClampNeg v2)))) 22 (upd (upd (gA a 22) (Int32.toNatClampNeg 0) ((gA a 21) (Int32.toNatClampNeg v2))) (Int32.toNatClampNeg 1) ((gA a 21) (Int32.toNatClampNeg v3)))) 22 (upd (upd (upd (gA a 22) (Int32.toNatClampNeg 0) ((gA a 21) (Int32.toNatClampNeg v2))) (Int32.toNatClampNeg 1) ((gA a 21) (Int32.toNatClampNeg v3))) (Int32.toNatClampNeg 2) ((gA a 21) (Int32.toNatClampNeg v4))))
    else none)
    else none)
    else none)
    else none)
    else none)
    else none)
    else
    some (sJ (sI a 19 ((gI a 19) + 1)) 0 ((gJ a 0) &&& ((((1 : Int64) <<< ((((gA a 21) (Int32.toNatClampNeg v2)) : Int32).toInt64 &&& 63)) ||| ((1 : Int64) <<< ((((gA a 21) (Int32.toNatClampNeg v3)) : Int32).toInt64 &&& 63))) ||| ((1 : Int64) <<< ((((gA a 21) (Int32.toNatClampNeg v4)) : Int32).toInt64 &&& 63))))))
    else none)
    else none)
    else none)

def f_X0_searchPairs_L14 (v1 : Int32) : Nat → Int32 → xT → Option (xT)
  | 0, _, _ => none
  | n + 1, v2, a =>
    (if (gI a 17) ≤ v2 then
    some a
    else
    (if xin v1 64 then
    (if xin v2 64 then
    (if (((gA a 20) (Int32.toNatClampNeg v1)) ||| ((gA a 20) (Int32.toNatClampNeg v2))) = (gI a 18) then
    (f_X0_tally 2 v1 v2 v2 a).bind (fun q47 =>
    f_X0_searchPairs_L14 v1 n (v2 + 1) q47)
    else
    f_X0_searchPairs_L14 v1 n (v2 + 1) a)
    else none)
    else none))

def f_X0_searchPairs_L2 (N : Nat) : Nat → Int32 → xT → Option (xT)
  | 0, _, _ => none
  | n + 1, v1, a =>
    (if (gI a 17) ≤ v1 then
    some a
    else
    (f_X0_searchPairs_L14 v1 N (v1 + 1) a).bind (fun q14 =>
    f_X0_searchPairs_L2 N n (v1 + 1) q14))

def f_X0_searchPairs (N : Nat) (a : xT) : Option xT :=
    (f_X0_searchPairs_L2 N N 0 a).bind (fun q2 =>
    some q2)

def f_X0_searchTriples_L41 (v1 : Int32) (v2 : Int32) (v3 : Int32) : Nat → Int32 → xT → Option (xT)
  | 0, _, _ => none
  | n + 1, v4, a =>
    (if (gI a 17) ≤ v4 then
    some a
    else
    (if xin v4 64 then
    (if (v3 ||| ((gA a 20) (Int32.toNatClampNeg v4))) = (gI a 18) then
    (f_X0_tally 3 v1 v2 v4 a).bind (fun q72 =>
    f_X0_searchTriples_L41 v1 v2 v3 n (v4 + 1) q72)
    else
    f_X0_searchTriples_L41 v1 v2 v3 n (v4 + 1) a)
    else none))

def f_X0_searchTriples_L14 (N : Nat) (v1 : Int32) : Nat → Int32 → xT → Option (xT)
  | 0, _, _ => none
  | n + 1, v2, a =>
    (if (gI a 17) ≤ v2 then
    some a
    else
    (if xin v1 64 then
    (if xin v2 64 then
    (some (((gA a 20) (Int32.toNatClampNeg v1)) ||| ((gA a 20) (Int32.toNatClampNeg v2)))).bind (fun w35 =>
    (f_X0_searchTriples_L41 v1 v2 w35 N (v2 + 1) a).bind (fun q41 =>
    f_X0_searchTriples_L14 N v1 n (v2 + 1) q41))
    else none)
    else none))

def f_X0_searchTriples_L2 (N : Nat) : Nat → Int32 → xT → Option (xT)
  | 0, _, _ => none
  | n + 1, v1, a =>
    (if (gI a 17) ≤ v1 then
    some a
    else
    (f_X0_searchTriples_L14 N v1 N (v1 + 1) a).bind (fun q14 =>
    f_X0_searchTriples_L2 N n (v1 + 1) q14))

def f_X0_searchTriples (N : Nat) (a : xT) : Option xT :=
    (f_X0_searchTriples_L2 N N 0 a).bind (fun q2 =>
    some q2)

def f_X0_search_L19 (v1 : Int32) : Nat → Int32 → xT → Option (xT)
  | 0, _, _ => none
  | n + 1, v2, a =>
    (if (gI a 17) ≤ v2 then
    some a
    else
    (if xin v2 64 then
    (if ((gA a 20) (Int32.toNatClampNeg v2)) = (gI a 18) then
    (f_X0_tally 1 v2 v2 v2 a).bind (fun q45 =>
    f_X0_search_L19 v1 n (v2 + 1) q45)
    else
    f_X0_search_L19 v1 n (v2 + 1) a)
    else none))

def f_X0_search (N : Nat) (v1 : Int32) (a : xT) : Option xT :=
    (f_X0_search_L19 v1 N 0 (sJ (sI (sI a 19 0) 20 (-1)) 0 (-1))).bind (fun q19 =>
    (if v1 < 2 then
    (if v1 < 3 then
    some q19
    else
    (f_X0_searchTriples N q19).bind (fun q69 =>
    some q69))
    else
    (f_X0_searchPairs N q19).bind (fun q60 =>
    (if v1 < 3 then
    some q60
    else
    (f_X0_searchTriples N q60).bind (fun q69 =>
    some q69)))))

def f_X7_findRings (N : Nat) (v1 : Int32) (v2 : Int32) (v3 : Int32) (a : xT) : Option xT :=
    (f_X7_offerRings N v1 v2 (-1) a).bind (fun q4 =>
    (f_X0_search N v3 q4).bind (fun q12 =>
    some q12))

def f_X0_canReach_L3 (rc : (Int32 → Int32 → Int32 → xT → Option Int32)) (N : Nat) (v2 : Int32) (v3 : Int32) (a : xT) : Nat → Int32 → Option ((Unit) ⊕ (Unit))
  | 0, _ => none
  | n + 1, v4 =>
    (if (gI a 17) ≤ v4 then
    some (.inl ())
    else
    (if v3 ≤ 0 then
    some (.inl ())
    else
    (if xin v4 64 then
    (if (v2 ||| ((gA a 20) (Int32.toNatClampNeg v4))) = (gI a 18) then
    some (.inr (()))
    else
    (rc (v4 + 1) (v2 ||| ((gA a 20) (Int32.toNatClampNeg v4))) (v3 - 1) a).bind (fun q46 =>
    (if q46 = 0 then
    f_X0_canReach_L3 rc N v2 v3 a n (v4 + 1)
    else
    some (.inr (())))))
    else none)))

def f_X0_canReach : Nat → Nat → Int32 → Int32 → Int32 → xT → Option Int32
  | 0, _, _, _, _, _ => none
  | D + 1, N, v1, v2, v3, a =>
    (f_X0_canReach_L3 (f_X0_canReach D N) N v2 v3 a N v1).bind (fun q3 =>
    (Sum.elim (fun z3_60 =>
    some 0) (fun z3_52 =>
    some 1)) q3)

def f_X0_canCover (N : Nat) (v1 : Int32) (a : xT) : Option Int32 :=
    (f_X0_canReach 6 N 0 0 v1 a).bind (fun q4 =>
    (if q4 &&& 1 = q4 then some q4 else none))

def f_X7_framed_L29 (N : Nat) (v1 : Int32) (v2 : Int32) : Nat → Int32 → Int32 → xT → Option (Int32 × xT)
  | 0, _, _, _ => none
  | n + 1, v3, v4, a =>
    (if xin v1 6 then
    (if (gI a (23 + (Int32.toNatClampNeg v1))) ≤ v4 then
    some (v3, a)
    else
    (if xin v1 6 then
    (if xin v4 64 then
    (f_X7_offerRings N v1 ((gA a (30 + (Int32.toNatClampNeg v1))) (Int32.toNatClampNeg v4)) v4 a).bind (fun q59 =>
    (f_X0_canCover N v2 q59).bind (fun q67 =>
    (if q67 = 0 then
    f_X7_framed_L29 N v1 v2 n v3 (v4 + 1) q59
    else
    f_X7_framed_L29 N v1 v2 n (v3 + 1) (v4 + 1) q59)))
    else none)
    else none))
    else none)

def f_X7_framed (N : Nat) (v1 : Int32) (v2 : Int32) (a : xT) : Option (Int32 × xT) :=
    (f_X7_isList v1).bind (fun q1 =>
    (if q1 = 0 then
    some ((-1001), a)
    else
    (f_X7_within v2 1 3).bind (fun q14 =>
    (if q14 = 0 then
    some ((-1002), a)
    else
    (f_X7_framed_L29 N v1 v2 N 0 0 a).bind (fun q29 =>
    some ((q29.1), (q29.2)))))))

def f_X7_ofBadPair (N : Nat) (k1 : Nat) (v2 : Int32) (v3 : Int32) (v4 : Int32) (a : xT) : Option Int32 :=
    (if v4 = 0 then
    some 0
    else
    (if v4 = 1 then
    some v2
    else
    (if v4 = 2 then
    some v3
    else
    (if v4 = 3 then
    (if xin v2 64 then
    (if xin v3 64 then
    (f_X1_witnessSeen N ((gA a (30 + k1)) (Int32.toNatClampNeg v2)) ((gA a (30 + k1)) (Int32.toNatClampNeg v3)) a).bind (fun q54 =>
    some q54)
    else none)
    else none)
    else
    (if xin v2 64 then
    (if xin v3 64 then
    (f_X1_witnessLost N ((gA a (30 + k1)) (Int32.toNatClampNeg v2)) ((gA a (30 + k1)) (Int32.toNatClampNeg v3)) a).bind (fun q74 =>
    some q74)
    else none)
    else none)))))

def f_X7_good_L34 (N : Nat) (v2 : Int32) (k3 : Nat) (a : xT) : Nat → Int32 → Option ((Unit) ⊕ (Int32 × Int32))
  | 0, _ => none
  | n + 1, v4 =>
    (if (gI a (23 + k3)) ≤ v4 then
    some (.inl ())
    else
    (if xin v4 64 then
    (f_X7_firstAlike N k3 ((gA a (30 + k3)) (Int32.toNatClampNeg v4)) (v4 + 1) a).bind (fun q56 =>
    (if q56 = (-1) then
    f_X7_good_L34 N v2 k3 a n (v4 + 1)
    else
    some (.inr ((v4, q56)))))
    else none))

def f_X7_good (N : Nat) (v1 : Int32) (v2 : Int32) (a : xT) : Option Int32 :=
    (f_X7_isList v1).bind (fun q1 =>
    (if q1 = 0 then
    some (-1001)
    else
    (f_X7_within v2 0 4).bind (fun q14 =>
    (if q14 = 0 then
    some (-1002)
    else
    (if xin v1 6 then
    (f_X7_good_L34 N v2 (Int32.toNatClampNeg v1) a N 0).bind (fun q34 =>
    (Sum.elim (fun z34_84 =>
    (if v2 = 0 then
    some 1
    else
    some (-1))) (fun z34_67 =>
    (f_X7_ofBadPair N (Int32.toNatClampNeg v1) (z34_67.1) (z34_67.2) v2 a).bind (fun q74 =>
    some q74))) q34)
    else none)))))

def f_X0_firstAt (v1 : Int32) (a : xT) : Option Int32 :=
    (if v1 < 0 then
    some (-1)
    else
    (if (gI a 20) ≤ v1 then
    some (-1)
    else
    (if 3 ≤ v1 then
    some (-1)
    else
    (if xin v1 3 then
    some ((gA a 22) (Int32.toNatClampNeg v1))
    else none))))

def f_X7_heap_L64 (v2 : Int32) (v3 : Int32) (v4 : Int32) (k5 : Nat) : Nat → Int32 → xT → Option (xT)
  | 0, _, _ => none
  | n + 1, v6, a =>
    (if (gI a (23 + k5)) ≤ v6 then
    some a
    else
    (if xin v6 64 then
    (if (((gA a (30 + k5)) (Int32.toNatClampNeg v6)) &&& (v2 ^^^ (-1))) = 0 then
    (if xin v6 64 then
    (f_X0_offer v6 ((gA a (30 + k5)) (Int32.toNatClampNeg v6)) a).bind (fun q103 =>
    f_X7_heap_L64 v2 v3 v4 k5 n (v6 + 1) q103)
    else none)
    else
    f_X7_heap_L64 v2 v3 v4 k5 n (v6 + 1) a)
    else none))

def f_X7_heap (N : Nat) (v1 : Int32) (v2 : Int32) (v3 : Int32) (v4 : Int32) (a : xT) : Option (Int32 × xT) :=
    (f_X7_isList v1).bind (fun q1 =>
    (if q1 = 0 then
    some ((-1001), a)
    else
    (f_X1_isSet v2 a).bind (fun q16 =>
    (if q16 = 0 then
    some ((-1002), a)
    else
    (f_X7_within v3 1 3).bind (fun q25 =>
    (if q25 = 0 then
    some ((-1002), a)
    else
    (f_X7_within v4 (-1) 3).bind (fun q35 =>
    (if q35 = 0 then
    some ((-1002), a)
    else
    (if xin v1 6 then
    (f_X0_start v2 a).bind (fun q58 =>
    (f_X7_heap_L64 v2 v3 v4 (Int32.toNatClampNeg v1) N 0 q58).bind (fun q64 =>
    (f_X0_search N v3 q64).bind (fun q117 =>
    (if v4 = (-1) then
    some ((gI q117 19), q117)
    else
    (if v4 = 0 then
    some ((gI q117 20), q117)
    else
    (f_X0_firstAt (v4 - 1) q117).bind (fun q157 =>
    some (q157, q117)))))))
    else none)))))))))

def f_X0_commonAt_L4 (v1 : Int32) (a : xT) : Nat → Int32 → Int32 → Option ((Unit) ⊕ (Int32))
  | 0, _, _ => none
  | n + 1, v2, v3 =>
    (if 64 ≤ v3 then
    some (.inl ())
    else
    (if ((xlushr (gJ a 0) v3) &&& 1) = 0 then
    f_X0_commonAt_L4 v1 a n v2 (v3 + 1)
    else
    (if v2 = v1 then
    some (.inr (v3))
    else
    f_X0_commonAt_L4 v1 a n (v2 + 1) (v3 + 1))))

def f_X0_commonAt (N : Nat) (v1 : Int32) (a : xT) : Option Int32 :=
    (f_X0_commonAt_L4 v1 a N 0 0).bind (fun q4 =>
    (Sum.elim (fun z4_39 =>
    some (-1)) (fun z4_28 =>
    some z4_28)) q4)

def f_X7_inAll (N : Nat) (v1 : Int32) (v2 : Int32) (v3 : Int32) (v4 : Int32) (a : xT) : Option (Int32 × xT) :=
    (f_X7_isList v1).bind (fun q1 =>
    (if q1 = 0 then
    some ((-1001), a)
    else
    (f_X1_isSet v2 a).bind (fun q16 =>
    (if q16 = 0 then
    some ((-1002), a)
    else
    (f_X7_within v3 1 3).bind (fun q25 =>
    (if q25 = 0 then
    some ((-1002), a)
    else
    (f_X7_findRings N v1 v2 v3 a).bind (fun q39 =>
    (if (gI q39 19) = 0 then
    some ((-1), q39)
    else
    (f_X0_commonAt N v4 q39).bind (fun q62 =>
    some (q62, q39))))))))))

def f_X7_is (v1 : Int32) (a : xT) : Option Int32 :=
    (if v1 = 0 then
    some (gI a 0)
    else
    (if v1 = 1 then
    some (gI a 1)
    else
    (if v1 = 2 then
    some (gI a 2)
    else
    (if v1 = 3 then
    some (gI a 3)
    else
    some (-1002)))))

def f_X7_isMarkOrNone (v1 : Int32) (v2 : Int32) (a : xT) : Option Int32 :=
    (if v2 = (-1) then
    some 1
    else
    (f_X7_isMark v1 v2 a).bind (fun q8 =>
    (if q8 = 0 then
    some 0
    else
    some 1)))

def f_X2_forget (a : xT) : Option xT :=
    some (sI a 16 0)

def f_X7_island (v1 : Int32) (v2 : Int32) (v3 : Int32) (a : xT) : Option (Int32 × xT) :=
    (f_X7_within v1 0 3).bind (fun q3 =>
    (if q3 = 0 then
    some ((-1002), a)
    else
    (f_X7_within v2 0 4).bind (fun q12 =>
    (if q12 = 0 then
    some ((-1002), a)
    else
    (f_X7_within v3 0 4).bind (fun q21 =>
    (if q21 = 0 then
    some ((-1002), a)
    else
    (f_X2_forget (sI (sI (sI a 1 v1) 2 v2) 3 v3)).bind (fun q59 =>
    some (1, q59))))))))

def f_X7_join_L41 (v1 : Int32) (v3 : Int32) : Nat → Int32 → xT → Option ((xT) ⊕ (xT))
  | 0, _, _ => none
  | n + 1, v4, a =>
    (if xin v3 6 then
    (if (gI a (23 + (Int32.toNatClampNeg v3))) ≤ v4 then
    some (.inl a)
    else
    (if xin v3 6 then
    (if xin v4 64 then
    (f_X3_appendOnce 6 ((gA a (30 + (Int32.toNatClampNeg v3))) (Int32.toNatClampNeg v4)) a).bind (fun q71 =>
    (if q71.1 = 0 then
    some (.inr (q71.2))
    else
    f_X7_join_L41 v1 v3 n (v4 + 1) q71.2))
    else none)
    else none))
    else none)

def f_X7_join (N : Nat) (v1 : Int32) (v2 : Int32) (v3 : Int32) (a : xT) : Option (Int32 × xT) :=
    (f_X7_isList v1).bind (fun q1 =>
    (if q1 = 0 then
    some ((-1001), a)
    else
    (f_X7_isList v2).bind (fun q8 =>
    (if q8 = 0 then
    some ((-1001), a)
    else
    (f_X7_isList v3).bind (fun q15 =>
    (if q15 = 0 then
    some ((-1001), a)
    else
    (if xin v2 6 then
    (f_X3_copy 6 (Int32.toNatClampNeg v2) a).bind (fun q35 =>
    (f_X7_join_L41 v1 v3 N 0 q35).bind (fun q41 =>
    (Sum.elim (fun z41_87 =>
    (f_X7_becomesFresh v1 z41_87).bind (fun q89 =>
    some (q89.1, q89.2))) (fun z41_77 =>
    some ((-1004), z41_77))) q41))
    else none)))))))

def f_X7_lay_L95 (v1 : Int32) (v2 : Int32) (v3 : Int32) (v4 : Int32) (v5 : Int32) (v6 : Int32) : Nat → Int32 → xT → Option ((xT) ⊕ (xT))
  | 0, _, _ => none
  | n + 1, v7, a =>
    (if xin v3 6 then
    (if (gI a (23 + (Int32.toNatClampNeg v3))) ≤ v7 then
    some (.inl a)
    else
    (if xin v3 6 then
    (if xin v7 64 then
    (f_X1_all a).bind (fun q128 =>
    (some ((((gA a (30 + (Int32.toNatClampNeg v3))) (Int32.toNatClampNeg v7)) <<< (v4 &&& 31)) &&& q128)).bind (fun w132 =>
    (f_X3_appendOnce 6 (v6 ||| w132) a).bind (fun q143 =>
    (if q143.1 = 0 then
    some (.inr (q143.2))
    else
    f_X7_lay_L95 v1 v2 v3 v4 v5 v6 n (v7 + 1) q143.2))))
    else none)
    else none))
    else none)

def f_X7_lay_L57 (N : Nat) (v1 : Int32) (v2 : Int32) (v3 : Int32) (v4 : Int32) : Nat → Int32 → xT → Option ((xT) ⊕ (xT))
  | 0, _, _ => none
  | n + 1, v5, a =>
    (if xin v2 6 then
    (if (gI a (23 + (Int32.toNatClampNeg v2))) ≤ v5 then
    some (.inl a)
    else
    (if xin v2 6 then
    (if xin v5 64 then
    (some (((gA a (30 + (Int32.toNatClampNeg v2))) (Int32.toNatClampNeg v5)) &&& (((1 : Int32) <<< (v4 &&& 31)) - 1))).bind (fun w90 =>
    (f_X7_lay_L95 v1 v2 v3 v4 v5 w90 N 0 a).bind (fun q95 =>
    (Sum.elim (fun z95_159 =>
    f_X7_lay_L57 N v1 v2 v3 v4 n (v5 + 1) z95_159) (fun z95_149 =>
    some (.inr (z95_149)))) q95))
    else none)
    else none))
    else none)

def f_X7_lay (N : Nat) (v1 : Int32) (v2 : Int32) (v3 : Int32) (v4 : Int32) (a : xT) : Option (Int32 × xT) :=
    (f_X7_isList v1).bind (fun q1 =>
    (if q1 = 0 then
    some ((-1001), a)
    else
    (f_X7_isList v2).bind (fun q8 =>
    (if q8 = 0 then
    some ((-1001), a)
    else
    (f_X7_isList v3).bind (fun q15 =>
    (if q15 = 0 then
    some ((-1001), a)
    else
    (f_X7_within v4 1 ((gI a 0) - 1)).bind (fun q37 =>
    (if q37 = 0 then
    some ((-1002), a)
    else
    (f_X3_wipe N 6 a).bind (fun q51 =>
    (f_X7_lay_L57 N v1 v2 v3 v4 N 0 q51).bind (fun q57 =>
    (Sum.elim (fun z57_165 =>
    (f_X7_becomesFresh v1 z57_165).bind (fun q167 =>
    some (q167.1, q167.2))) (fun z57_149 =>
    some ((-1004), z57_149))) q57))))))))))

def f_X4_possible_L4 (a : xT) : Nat → Int32 → Int32 → Option (Int32)
  | 0, _, _ => none
  | n + 1, v1, v2 =>
    (if (gI a 4) ≤ v2 then
    some v1
    else
    (if xin v2 64 then
    (if ((gB a 5) (Int32.toNatClampNeg v2)) ≤ 0 then
    f_X4_possible_L4 a n v1 (v2 + 1)
    else
    f_X4_possible_L4 a n (v1 + 1) (v2 + 1))
    else none))

def f_X4_possible (N : Nat) (a : xT) : Option Int32 :=
    (f_X4_possible_L4 a N 0 0).bind (fun q4 =>
    some q4)

def f_X4_ahead_L4 (v1 : Int32) (a : xT) : Nat → Int32 → Int32 → Option (Int32)
  | 0, _, _ => none
  | n + 1, v2, v3 =>
    (if (gI a 4) ≤ v3 then
    some v2
    else
    (if xin v3 64 then
    (if xin v1 64 then
    (if ((gB a 5) (Int32.toNatClampNeg v1)) < ((gB a 5) (Int32.toNatClampNeg v3)) then
    f_X4_ahead_L4 v1 a n (v2 + 1) (v3 + 1)
    else
    (if xin v3 64 then
    (if xin v1 64 then
    (if ((gB a 5) (Int32.toNatClampNeg v3)) = ((gB a 5) (Int32.toNatClampNeg v1)) then
    (if v1 ≤ v3 then
    f_X4_ahead_L4 v1 a n v2 (v3 + 1)
    else
    f_X4_ahead_L4 v1 a n (v2 + 1) (v3 + 1))
    else
    f_X4_ahead_L4 v1 a n v2 (v3 + 1))
    else none)
    else none))
    else none)
    else none))

def f_X4_ahead (N : Nat) (v1 : Int32) (a : xT) : Option Int32 :=
    (f_X4_ahead_L4 v1 a N 0 0).bind (fun q4 =>
    some q4)

def f_X4_ranked_L2 (N : Nat) (v1 : Int32) (a : xT) : Nat → Int32 → Option ((Unit) ⊕ (Int32))
  | 0, _ => none
  | n + 1, v2 =>
    (if (gI a 4) ≤ v2 then
    some (.inl ())
    else
    (if xin v2 64 then
    (if ((gB a 5) (Int32.toNatClampNeg v2)) ≤ 0 then
    f_X4_ranked_L2 N v1 a n (v2 + 1)
    else
    (f_X4_ahead N v2 a).bind (fun q23 =>
    (if q23 = v1 then
    some (.inr (v2))
    else
    f_X4_ranked_L2 N v1 a n (v2 + 1))))
    else none))

def f_X4_ranked (N : Nat) (v1 : Int32) (a : xT) : Option Int32 :=
    (f_X4_ranked_L2 N v1 a N 0).bind (fun q2 =>
    (Sum.elim (fun z2_38 =>
    some (-1)) (fun z2_30 =>
    some z2_30)) q2)

def f_X4_weigh_L10 (N : Nat) (k1 : Nat) : Nat → Int32 → xT → Option (xT)
  | 0, _, _ => none
  | n + 1, v2, a =>
    (if (gI a 4) ≤ v2 then
    some a
    else
    (if xin v2 64 then
    (f_X4_chanceOf N ((gA a (30 + k1)) (Int32.toNatClampNeg v2)) a).bind (fun q30 =>
    (if xin v2 64 then
    f_X4_weigh_L10 N k1 n (v2 + 1) (sB a 5 (vp_updL (gB a 5) (Int32.toNatClampNeg v2) q30))
    else none))
    else none))

def f_X4_weigh (N : Nat) (k1 : Nat) (a : xT) : Option xT :=
    (f_X4_weigh_L10 N k1 N 0 (sI a 4 (gI a (23 + k1)))).bind (fun q10 =>
    some q10)

def f_X7_likely (N : Nat) (v1 : Int32) (v2 : Int32) (a : xT) : Option (Int32 × xT) :=
    (f_X7_isList v1).bind (fun q1 =>
    (if q1 = 0 then
    some ((-1001), a)
    else
    (if xin v1 6 then
    (f_X4_weigh N (Int32.toNatClampNeg v1) a).bind (fun q21 =>
    (if v2 = (-1) then
    (f_X4_possible N q21).bind (fun q33 =>
    some (q33, q21))
    else
    (f_X4_ranked N v2 q21).bind (fun q44 =>
    some (q44, q21))))
    else none)))

def f_X7_look (v1 : Int32) (v2 : Int32) (a : xT) : Option (Int32 × xT) :=
    (f_X7_isPlace v1 a).bind (fun q2 =>
    (if q2 = 0 then
    some ((-1002), a)
    else
    (f_X7_within v2 (-1) 9).bind (fun q12 =>
    (if q12 = 0 then
    some ((-1002), a)
    else
    (if xin v1 12 then
    (if xin v1 12 then
    some (((gA a 4) (Int32.toNatClampNeg v1)), (sA a 4 (upd (gA a 4) (Int32.toNatClampNeg v1) v2)))
    else none)
    else none)))))

def f_X7_make (v1 : Int32) (v2 : Int32) (v3 : Int32) (v4 : Int32) (v5 : Int32) (a : xT) : Option Int32 :=
    (f_X7_isMark v1 v2 a).bind (fun q3 =>
    (if q3 = 0 then
    some (-1001)
    else
    (f_X7_isMarkOrNone v1 v3 a).bind (fun q12 =>
    (if q12 = 0 then
    some (-1001)
    else
    (f_X7_isMarkOrNone v1 v4 a).bind (fun q22 =>
    (if q22 = 0 then
    some (-1001)
    else
    (f_X1_isSet v5 a).bind (fun q38 =>
    (if q38 = 0 then
    some (-1002)
    else
    (if xin v1 6 then
    (if v3 = (-1) then
    (if v4 = (-1) then
    (if xin v2 64 then
    (f_X1_agreement ((gA a (30 + (Int32.toNatClampNeg v1))) (Int32.toNatClampNeg v2)) v5 a).bind (fun q95 =>
    (if xin v2 64 then
    (f_X1_agreement ((gA a (30 + (Int32.toNatClampNeg v1))) (Int32.toNatClampNeg v2)) v5 a).bind (fun q109 =>
    (if xin v2 64 then
    (f_X1_agreement ((gA a (30 + (Int32.toNatClampNeg v1))) (Int32.toNatClampNeg v2)) v5 a).bind (fun q124 =>
    (f_X1_all a).bind (fun q136 =>
    (if ((q95 ||| q109) ||| q124) = q136 then
    some 1
    else
    some 0)))
    else none))
    else none))
    else none)
    else
    (if xin v2 64 then
    (f_X1_agreement ((gA a (30 + (Int32.toNatClampNeg v1))) (Int32.toNatClampNeg v2)) v5 a).bind (fun q95 =>
    (if xin v2 64 then
    (f_X1_agreement ((gA a (30 + (Int32.toNatClampNeg v1))) (Int32.toNatClampNeg v2)) v5 a).bind (fun q109 =>
    (if xin v4 64 then
    (f_X1_agreement ((gA a (30 + (Int32.toNatClampNeg v1))) (Int32.toNatClampNeg v4)) v5 a).bind (fun q124 =>
    (f_X1_all a).bind (fun q136 =>
    (if ((q95 ||| q109) ||| q124) = q136 then
    some 1
    else
    some 0)))
    else none))
    else none))
    else none))
    else
    (if v4 = (-1) then
    (if xin v2 64 then
    (f_X1_agreement ((gA a (30 + (Int32.toNatClampNeg v1))) (Int32.toNatClampNeg v2)) v5 a).bind (fun q95 =>
    (if xin v3 64 then
    (f_X1_agreement ((gA a (30 + (Int32.toNatClampNeg v1))) (Int32.toNatClampNeg v3)) v5 a).bind (fun q109 =>
    (if xin v2 64 then
    (f_X1_agreement ((gA a (30 + (Int32.toNatClampNeg v1))) (Int32.toNatClampNeg v2)) v5 a).bind (fun q124 =>
    (f_X1_all a).bind (fun q136 =>
    (if ((q95 ||| q109) ||| q124) = q136 then
    some 1
    else
    some 0)))
    else none))
    else none))
    else none)
    else
    (if xin v2 64 then
    (f_X1_agreement ((gA a (30 + (Int32.toNatClampNeg v1))) (Int32.toNatClampNeg v2)) v5 a).bind (fun q95 =>
    (if xin v3 64 then
    (f_X1_agreement ((gA a (30 + (Int32.toNatClampNeg v1))) (Int32.toNatClampNeg v3)) v5 a).bind (fun q109 =>
    (if xin v4 64 then
    (f_X1_agreement ((gA a (30 + (Int32.toNatClampNeg v1))) (Int32.toNatClampNeg v4)) v5 a).bind (fun q124 =>
    (f_X1_all a).bind (fun q136 =>
    (if ((q95 ||| q109) ||| q124) = q136 then
    some 1
    else
    some 0)))
    else none))
    else none))
    else none)))
    else none)))))))))

def f_X7_mark (v1 : Int32) (v2 : Int32) (a : xT) : Option Int32 :=
    (f_X7_isList v1).bind (fun q1 =>
    (if q1 = 0 then
    some (-1001)
    else
    (if v2 = (-1) then
    (if xin v1 6 then
    some (gI a (23 + (Int32.toNatClampNeg v1)))
    else none)
    else
    (f_X7_isMark v1 v2 a).bind (fun q29 =>
    (if q29 = 0 then
    some (-1001)
    else
    (if xin v1 6 then
    (if xin v2 64 then
    some ((gA a (30 + (Int32.toNatClampNeg v1))) (Int32.toNatClampNeg v2))
    else none)
    else none))))))

def f_X1_strays (v1 : Int32) (v2 : Int32) (a : xT) : Option Int32 :=
    (f_J6_bitCount_0f7a4 (v1 &&& (v2 ^^^ (-1)))).bind (fun q5 =>
    (if (gI a 2) < q5 then
    some 0
    else
    (f_J6_bitCount_0f7a4 (v2 &&& (v1 ^^^ (-1)))).bind (fun q20 =>
    (f_X1_extra a).bind (fun q24 =>
    (if q24 < q20 then
    some 0
    else
    some 1)))))

def f_X1_canShow (N : Nat) (v1 : Int32) (v2 : Int32) (v3 : Int32) (a : xT) : Option Int32 :=
    (if (gI a 1) = 0 then
    (f_J6_bitCount_0f7a4 v3).bind (fun q8 =>
    (if (gI a 2) < q8 then
    some 0
    else
    (if (v1 &&& (v3 ^^^ (-1))) = v2 then
    some 1
    else
    some 0)))
    else
    (if v3 = 0 then
    (f_X1_strays v1 v2 a).bind (fun q42 =>
    (if q42 = 0 then
    (if (gI a 1) = 3 then
    (f_X1_reversed N v1 a).bind (fun q59 =>
    (f_X1_strays q59 v2 a).bind (fun q63 =>
    (if q63 = 0 then
    some 0
    else
    some 1)))
    else
    some 0)
    else
    some 1))
    else
    some 0))

def f_X1_isSeen (v1 : Int32) (v2 : Int32) (a : xT) : Option Int32 :=
    (f_X1_isSet v1 a).bind (fun q2 =>
    (if q2 = 0 then
    some 0
    else
    (f_X1_isSet v2 a).bind (fun q10 =>
    (if q10 = 0 then
    some 0
    else
    (if (v1 &&& v2) = 0 then
    some 1
    else
    some 0)))))

def f_X7_may (N : Nat) (v1 : Int32) (v2 : Int32) (v3 : Int32) (a : xT) : Option Int32 :=
    (f_X1_isSet v1 a).bind (fun q5 =>
    (if q5 = 0 then
    some (-1002)
    else
    (f_X1_isSeen v2 v3 a).bind (fun q17 =>
    (if q17 = 0 then
    some (-1002)
    else
    (f_X1_canShow N v1 v2 v3 a).bind (fun q34 =>
    (if q34 = 0 then
    some 0
    else
    some 1))))))

def f_X2_apartAbove_L15 (v1 : Int32) (v2 : Int64) (v4 : Int32) (v5 : Int32) (a : xT) : Nat → Int64 → Int32 → Option (Int64)
  | 0, _, _ => none
  | n + 1, v6, v8 =>
    (if v4 ≤ v8 then
    some v6
    else
    (if ((xlushr v2 v8) &&& 1) = 0 then
    f_X2_apartAbove_L15 v1 v2 v4 v5 a n v6 (v8 + 1)
    else
    (f_X1_alike v1 v5 v8 a).bind (fun q39 =>
    (if q39 = 0 then
    (some (v6 ||| ((1 : Int64) <<< ((v8 : Int32).toInt64 &&& 63)))).bind (fun w52 =>
    f_X2_apartAbove_L15 v1 v2 v4 v5 a n w52 (v8 + 1))
    else
    f_X2_apartAbove_L15 v1 v2 v4 v5 a n v6 (v8 + 1)))))

def f_X2_apartAbove (N : Nat) (v1 : Int32) (v2 : Int64) (v4 : Int32) (a : xT) : Option Int64 :=
    (f_X1_reversed N v1 a).bind (fun q2 =>
    (f_X2_apartAbove_L15 v1 v2 v4 q2 a N 0 (v1 + 1)).bind (fun q15 =>
    some q15))

def f_J13_bitCount_95d88 (v0 : Int64) : Option Int32 :=
    (some (v0 - ((xlushr v0 1) &&& 6148914691236517205))).bind (fun w9 =>
    (some ((w9 &&& 3689348814741910323) + ((xlushr w9 2) &&& 3689348814741910323))).bind (fun w23 =>
    (some ((w23 + (xlushr w23 4)) &&& 1085102592571150095)).bind (fun w33 =>
    (some ((w33 + (xlushr w33 8)) + (xlushr (w33 + (xlushr w33 8)) 16))).bind (fun w47 =>
    some ((Int64.toInt32 (w47 + (xlushr w47 32))) &&& 127)))))

def f_X2_canStandForAny (v1 : Int32) (v2 : Int64) (a : xT) : Option Int32 :=
    (if xin v1 32 then
    (f_J13_bitCount_95d88 (xlushr (v2 &&& (((gB a 17) (Int32.toNatClampNeg v1)) ^^^ (-1))) (v1 + 1))).bind (fun q16 =>
    (if 1 < q16 then
    some 0
    else
    some 1))
    else none)

def f_X2_canPick_L19 (rc : (Int64 → Int32 → Int32 → Int32 → xT → Option (Int32 × xT))) (N : Nat) (v1 : Int64) (v3 : Int32) (v5 : Int32) : Nat → Int32 → xT → Option ((xT) ⊕ (xT) ⊕ (xT))
  | 0, _, _ => none
  | n + 1, v6, a =>
    (if 32 ≤ v6 then
    some (.inl a)
    else
    (if xin v6 33 then
    (if ((gA a 18) (Int32.toNatClampNeg v6)) < v3 then
    some (.inl a)
    else
    (if ((xlushr v1 v6) &&& 1) = 0 then
    f_X2_canPick_L19 rc N v1 v3 v5 n (v6 + 1) a
    else
    (if xin v5 32 then
    (if xin v6 32 then
    (rc (v1 &&& ((gB a 17) (Int32.toNatClampNeg v6))) (v3 - 1) (v6 + 1) (v5 + 1) (sA a 16 (upd (gA a 16) (Int32.toNatClampNeg v5) v6))).bind (fun q78 =>
    (if q78.1 = 0 then
    (f_X2_canStandForAny v6 v1 q78.2).bind (fun q90 =>
    (if q90 = 0 then
    f_X2_canPick_L19 rc N v1 v3 v5 n (v6 + 1) q78.2
    else
    some (.inr (.inr (q78.2)))))
    else
    some (.inr (.inl q78.2))))
    else none)
    else none)))
    else none))

def f_X2_canPick : Nat → Nat → Int64 → Int32 → Int32 → Int32 → xT → Option (Int32 × xT)
  | 0, _, _, _, _, _, _ => none
  | D + 1, N, v1, v3, v4, v5, a =>
    (if 0 < v3 then
    (if v5 < 32 then
    (f_X2_canPick_L19 (f_X2_canPick D N) N v1 v3 v5 N v4 a).bind (fun q19 =>
    (Sum.elim (fun z19_104 =>
    some (0, z19_104)) (Sum.elim (fun z19_84 =>
    some (1, z19_84)) (fun z19_96 =>
    some (0, z19_96)))) q19)
    else
    some (0, a))
    else
    some (1, a))

def f_X2_marksWith_L5 (v0 : Int32) (v1 : Int32) : Nat → Int64 → Int32 → Option (Int64)
  | 0, _, _ => none
  | n + 1, v2, v4 =>
    (if v0 ≤ v4 then
    some v2
    else
    (if v1 = (-1) then
    (some (v2 ||| ((1 : Int64) <<< ((v4 : Int32).toInt64 &&& 63)))).bind (fun w31 =>
    f_X2_marksWith_L5 v0 v1 n w31 (v4 + 1))
    else
    (f_J6_bitCount_0f7a4 v4).bind (fun q18 =>
    (if q18 = v1 then
    (some (v2 ||| ((1 : Int64) <<< ((v4 : Int32).toInt64 &&& 63)))).bind (fun w31 =>
    f_X2_marksWith_L5 v0 v1 n w31 (v4 + 1))
    else
    f_X2_marksWith_L5 v0 v1 n v2 (v4 + 1)))))

def f_X2_marksWith (N : Nat) (v0 : Int32) (v1 : Int32) : Option Int64 :=
    (f_X2_marksWith_L5 v0 v1 N 0 0).bind (fun q5 =>
    some q5)

def f_X2_seek_L57 (N : Nat) (v3 : Int32) (v4 : Int64) : Nat → Int32 → xT → Option (xT)
  | 0, _, _ => none
  | n + 1, v6, a =>
    (if v6 < 0 then
    some a
    else
    (if xin (v6 + 1) 33 then
    (if xin v6 33 then
    (f_X2_apartAbove N v6 v4 v3 (sA a 18 (upd (gA a 18) (Int32.toNatClampNeg v6) ((gA a 18) (Int32.toNatClampNeg (v6 + 1)))))).bind (fun q90 =>
    (if xin v6 32 then
    (if ((xlushr v4 v6) &&& 1) = 0 then
    f_X2_seek_L57 N v3 v4 n (v6 + (-1)) (sB (sA a 18 (upd (gA a 18) (Int32.toNatClampNeg v6) ((gA a 18) (Int32.toNatClampNeg (v6 + 1))))) 17 (vp_updL (gB a 17) (Int32.toNatClampNeg v6) q90))
    else
    (if xin v6 32 then
    (if xin (v6 + 1) 33 then
    (f_X2_canPick 40 N ((vp_updL (gB a 17) (Int32.toNatClampNeg v6) q90) (Int32.toNatClampNeg v6)) ((upd (gA a 18) (Int32.toNatClampNeg v6) ((gA a 18) (Int32.toNatClampNeg (v6 + 1)))) (Int32.toNatClampNeg (v6 + 1))) (v6 + 1) 0 (sB (sA a 18 (upd (gA a 18) (Int32.toNatClampNeg v6) ((gA a 18) (Int32.toNatClampNeg (v6 + 1))))) 17 (vp_updL (gB a 17) (Int32.toNatClampNeg v6) q90))).bind (fun q128 =>
    (if q128.1 = 0 then
    f_X2_seek_L57 N v3 v4 n (v6 + (-1)) q128.2
    else
    (if xin v6 33 then
    (if xin v6 33 then
    f_X2_seek_L57 N v3 v4 n (v6 + (-1)) (sA q128.2 18 (upd (gA q128.2 18) (Int32.toNatClampNeg v6) (((gA q128.2 18) (Int32.toNatClampNeg v6)) + 1)))
    else none)
    else none)))
    else none)
    else none))
    else none))
    else none)
    else none))

def f_X2_seek (N : Nat) (v2 : Int32) (a : xT) : Option xT :=
    (if (gI a 16) = 0 then
    (f_X1_all (sI (sI a 16 1) 15 v2)).bind (fun q29 =>
    (f_X2_marksWith N (xmin 32 (q29 + 1)) v2).bind (fun q40 =>
    (if xin (xmin 32 (q29 + 1)) 33 then
    (f_X2_seek_L57 N (xmin 32 (q29 + 1)) q40 N ((xmin 32 (q29 + 1)) - 1) (sA (sI (sI a 16 1) 15 v2) 18 (upd (gA a 18) (Int32.toNatClampNeg (xmin 32 (q29 + 1))) 0))).bind (fun q57 =>
    (if xin 0 33 then
    (f_X2_canPick 40 N q40 ((gA q57 18) (Int32.toNatClampNeg 0)) 0 0 (sI q57 14 ((gA q57 18) (Int32.toNatClampNeg 0)))).bind (fun q170 =>
    some q170.2)
    else none))
    else none)))
    else
    (if (gI a 15) = v2 then
    some a
    else
    (f_X1_all (sI (sI a 16 1) 15 v2)).bind (fun q29 =>
    (f_X2_marksWith N (xmin 32 (q29 + 1)) v2).bind (fun q40 =>
    (if xin (xmin 32 (q29 + 1)) 33 then
    (f_X2_seek_L57 N (xmin 32 (q29 + 1)) q40 N ((xmin 32 (q29 + 1)) - 1) (sA (sI (sI a 16 1) 15 v2) 18 (upd (gA a 18) (Int32.toNatClampNeg (xmin 32 (q29 + 1))) 0))).bind (fun q57 =>
    (if xin 0 33 then
    (f_X2_canPick 40 N q40 ((gA q57 18) (Int32.toNatClampNeg 0)) 0 0 (sI q57 14 ((gA q57 18) (Int32.toNatClampNeg 0)))).bind (fun q170 =>
    some q170.2)
    else none))
    else none)))))

def f_X7_most (N : Nat) (v1 : Int32) (v2 : Int32) (a : xT) : Option (Int32 × xT) :=
    (f_X7_within v1 (-1) 5).bind (fun q3 =>
    (if q3 = 0 then
    some ((-1002), a)
    else
    (if (gI a 0) ≤ 5 then
    (f_X2_seek N v1 a).bind (fun q37 =>
    (if v2 = (-1) then
    some ((gI q37 14), q37)
    else
    (f_X7_within v2 0 ((gI q37 14) - 1)).bind (fun q64 =>
    (if q64 = 0 then
    some ((-1), q37)
    else
    (if xin v2 32 then
    some (((gA q37 16) (Int32.toNatClampNeg v2)), q37)
    else none)))))
    else
    some ((-1005), a))))

def f_X7_owner_L41 (N : Nat) (v2 : Int32) (v3 : Int32) (v4 : Int32) (k5 : Nat) (a : xT) : Nat → Int32 → Int32 → Option ((Int32) ⊕ (Int32))
  | 0, _, _ => none
  | n + 1, v6, v7 =>
    (if (gI a (23 + k5)) ≤ v7 then
    some (.inl v6)
    else
    (if xin v7 64 then
    (f_X1_canShow N ((gA a (30 + k5)) (Int32.toNatClampNeg v7)) v2 v3 a).bind (fun q65 =>
    (if q65 = 0 then
    f_X7_owner_L41 N v2 v3 v4 k5 a n v6 (v7 + 1)
    else
    (if v6 = v4 then
    some (.inr (v7))
    else
    f_X7_owner_L41 N v2 v3 v4 k5 a n (v6 + 1) (v7 + 1))))
    else none))

def f_X7_owner (N : Nat) (v1 : Int32) (v2 : Int32) (v3 : Int32) (v4 : Int32) (a : xT) : Option Int32 :=
    (f_X7_isList v1).bind (fun q1 =>
    (if q1 = 0 then
    some (-1001)
    else
    (f_X1_isSeen v2 v3 a).bind (fun q17 =>
    (if q17 = 0 then
    some (-1002)
    else
    (if xin v1 6 then
    (f_X7_owner_L41 N v2 v3 v4 (Int32.toNatClampNeg v1) a N 0 0).bind (fun q41 =>
    (Sum.elim (fun z41_90 =>
    (if v4 = (-1) then
    some z41_90
    else
    some (-1))) (fun z41_78 =>
    some z41_78)) q41)
    else none)))))

def f_X4_forget (N : Nat) (a : xT) : Option xT :=
    (f_J7_fill_53178 N (-1) a).bind (fun q5 =>
    some q5)

def f_X7_places_L25 (N : Nat) (v1 : Int32) : Nat → Int32 → xT → Option (xT)
  | 0, _, _ => none
  | n + 1, v2, a =>
    (if 6 ≤ v2 then
    some a
    else
    (if xin v2 6 then
    (f_X3_wipe N (Int32.toNatClampNeg v2) a).bind (fun q37 =>
    f_X7_places_L25 N v1 n (v2 + 1) q37)
    else none))

def f_X7_places (N : Nat) (v1 : Int32) (a : xT) : Option (Int32 × xT) :=
    (if v1 < 2 then
    some ((-1002), a)
    else
    (if v1 ≤ 12 then
    (f_X7_places_L25 N v1 N 0 (sI a 0 v1)).bind (fun q25 =>
    (f_X4_forget N q25).bind (fun q50 =>
    (f_X2_forget q50).bind (fun q57 =>
    some (v1, q57))))
    else
    some ((-1002), a)))

def f_X5_begin (v1 : Int32) (a : xT) : Option xT :=
    (if xin v1 5 then
    (if xin v1 5 then
    (if xin v1 5 then
    some (sA (sA (sA (sI a 12 v1) 12 (upd (gA a 12) (Int32.toNatClampNeg v1) (vp_nar .boolean 0))) 13 (upd (gA a 13) (Int32.toNatClampNeg v1) (vp_nar .boolean 0))) 14 (upd (gA a 14) (Int32.toNatClampNeg v1) (vp_nar .boolean 0)))
    else none)
    else none)
    else none)

def f_X5_blame (v1 : Int32) (a : xT) : Option xT :=
    (if (gI a 10) = 0 then
    some (sI (sI a 10 v1) 11 (gI a 7))
    else
    some a)

def f_X5_put (v1 : Int32) (v2 : Int32) (v3 : Int32) (a : xT) : Option xT :=
    (if 120 ≤ (gI a 9) then
    some a
    else
    (if xin (gI a 9) 120 then
    (if xin (gI a 9) 120 then
    (if xin (gI a 9) 120 then
    some (sI (sA (sA (sA a 9 (upd (gA a 9) (Int32.toNatClampNeg (gI a 9)) v1)) 10 (upd (gA a 10) (Int32.toNatClampNeg (gI a 9)) v2)) 11 (upd (gA a 11) (Int32.toNatClampNeg (gI a 9)) v3)) 9 ((gI a 9) + 1))
    else none)
    else none)
    else none))

def f_X5_end (a : xT) : Option xT :=
    (if xin (gI a 12) 5 then
    (if ((gA a 14) (Int32.toNatClampNeg (gI a 12))) = 0 then
    some a
    else
    (f_X5_put 9 0 0 a).bind (fun q17 =>
    some q17))
    else none)

def f_X5_endTest (a : xT) : Option xT :=
    (if xin (gI a 12) 5 then
    (if ((gA a 12) (Int32.toNatClampNeg (gI a 12))) = 0 then
    (if xin (gI a 12) 5 then
    (if ((gA a 13) (Int32.toNatClampNeg (gI a 12))) = 0 then
    some (sI a 13 0)
    else
    (f_X5_put 8 0 0 a).bind (fun q47 =>
    (if xin (gI q47 12) 5 then
    some (sI (sA q47 13 (upd (gA q47 13) (Int32.toNatClampNeg (gI q47 12)) (vp_nar .boolean 0))) 13 0)
    else none)))
    else none)
    else
    (f_X5_put 7 0 0 a).bind (fun q17 =>
    (if xin (gI q17 12) 5 then
    (if xin (gI q17 12) 5 then
    (if ((gA q17 13) (Int32.toNatClampNeg (gI q17 12))) = 0 then
    some (sI (sA q17 12 (upd (gA q17 12) (Int32.toNatClampNeg (gI q17 12)) (vp_nar .boolean 0))) 13 0)
    else
    (f_X5_put 8 0 0 (sA q17 12 (upd (gA q17 12) (Int32.toNatClampNeg (gI q17 12)) (vp_nar .boolean 0)))).bind (fun q47 =>
    (if xin (gI q47 12) 5 then
    some (sI (sA q47 13 (upd (gA q47 13) (Int32.toNatClampNeg (gI q47 12)) (vp_nar .boolean 0))) 13 0)
    else none)))
    else none)
    else none)))
    else none)

def f_X6_kindOf (v0 : Int32) : Option Int32 :=
    (if v0 < 97 then
    (if v0 < 48 then
    some 3
    else
    (if 57 < v0 then
    some 3
    else
    some 2))
    else
    (if 122 < v0 then
    (if v0 < 48 then
    some 3
    else
    (if 57 < v0 then
    some 3
    else
    some 2))
    else
    some 1))

def f_X6_advance_L0  : Nat → xT → Option (xT)
  | 0, _ => none
  | n + 1, a =>
    (if (gI a 5) ≤ (gI a 8) then
    some a
    else
    (if xin (gI a 8) 120 then
    (if ((gA a 7) (Int32.toNatClampNeg (gI a 8))) = 32 then
    f_X6_advance_L0 n (sI a 8 ((gI a 8) + 1))
    else
    some a)
    else none))

def f_X6_advance_L89  : Nat → xT → Option (xT)
  | 0, _ => none
  | n + 1, a =>
    (if (gI a 6) = 3 then
    some a
    else
    (if (gI a 5) ≤ (gI a 8) then
    some a
    else
    (if xin (gI a 8) 120 then
    (f_X6_kindOf ((gA a 7) (Int32.toNatClampNeg (gI a 8)))).bind (fun q117 =>
    (if q117 = (gI a 6) then
    f_X6_advance_L89 n (sI a 8 ((gI a 8) + 1))
    else
    some a))
    else none)))

def f_X6_advance (N : Nat) (a : xT) : Option xT :=
    (f_X6_advance_L0 N a).bind (fun q0 =>
    (if (gI q0 8) < (gI q0 5) then
    (if xin (gI q0 8) 120 then
    (f_X6_kindOf ((gA q0 7) (Int32.toNatClampNeg (gI q0 8)))).bind (fun q73 =>
    (f_X6_advance_L89 N (sI (sI (sI q0 7 (gI q0 8)) 6 q73) 8 ((gI q0 8) + 1))).bind (fun q89 =>
    some q89))
    else none)
    else
    some (sI (sI q0 7 (gI q0 8)) 6 0)))

def f_X6_isSign (v1 : Int32) (a : xT) : Option Int32 :=
    (if (gI a 6) = 3 then
    (if (gI a 5) ≤ (gI a 7) then
    some 0
    else
    (if xin (gI a 7) 120 then
    (if ((gA a 7) (Int32.toNatClampNeg (gI a 7))) = v1 then
    some 1
    else
    some 0)
    else none))
    else
    some 0)

def f_X6_isWord_L28 (k1 : Nat) (a : xT) : Nat → Int32 → Option ((Unit) ⊕ (Unit))
  | 0, _ => none
  | n + 1, v2 =>
    (if (f_strlen k1) ≤ v2 then
    some (.inl ())
    else
    (if xin ((gI a 7) + v2) 120 then
    (f_strchr k1 v2).bind (fun q49 =>
    (if ((gA a 7) (Int32.toNatClampNeg ((gI a 7) + v2))) = q49 then
    f_X6_isWord_L28 k1 a n (v2 + 1)
    else
    some (.inr (()))))
    else none))

def f_X6_isWord (N : Nat) (k1 : Nat) (a : xT) : Option Int32 :=
    (if (gI a 6) = 1 then
    (if ((gI a 8) - (gI a 7)) = (f_strlen k1) then
    (f_X6_isWord_L28 k1 a N 0).bind (fun q28 =>
    (Sum.elim (fun z28_63 =>
    some 1) (fun z28_55 =>
    some 0)) q28)
    else
    some 0)
    else
    some 0)

def f_X5_takeJoint (N : Nat) (a : xT) : Option xT :=
    (f_X6_isWord N 7 a).bind (fun q3 =>
    (if q3 = 0 then
    (f_X6_isWord N 8 a).bind (fun q34 =>
    (if q34 = 0 then
    (if (gI a 12) ≤ 0 then
    (f_X5_blame 1 a).bind (fun q110 =>
    some q110)
    else
    (f_X6_isSign 41 a).bind (fun q76 =>
    (if q76 = 0 then
    (f_X5_blame 1 a).bind (fun q110 =>
    some q110)
    else
    (f_X6_advance N a).bind (fun q83 =>
    (f_X5_end q83).bind (fun q87 =>
    (f_X5_endTest (sI q87 12 ((gI q87 12) - 1))).bind (fun q101 =>
    some q101))))))
    else
    (f_X6_advance N a).bind (fun q41 =>
    (f_X5_end q41).bind (fun q45 =>
    (if xin (gI q45 12) 5 then
    some (sI (sA q45 14 (upd (gA q45 14) (Int32.toNatClampNeg (gI q45 12)) (vp_nar .boolean 1))) 13 1)
    else none)))))
    else
    (f_X6_advance N a).bind (fun q10 =>
    (if xin (gI q10 12) 5 then
    some (sI (sA q10 13 (upd (gA q10 13) (Int32.toNatClampNeg (gI q10 12)) (vp_nar .boolean 1))) 13 1)
    else none))))

def f_X5_takeOpening (N : Nat) (a : xT) : Option xT :=
    (if (gI a 12) < 4 then
    (f_X6_advance N a).bind (fun q16 =>
    (f_X5_begin ((gI q16 12) + 1) q16).bind (fun q26 =>
    some q26))
    else
    (f_X5_blame 3 a).bind (fun q11 =>
    some q11))

def f_X6_number_L30 (a : xT) : Nat → Int32 → Int32 → Option (Int32)
  | 0, _, _ => none
  | n + 1, v1, v2 =>
    (if (gI a 8) ≤ v2 then
    some v1
    else
    (if xin v2 120 then
    (some (((10 * v1) + ((gA a 7) (Int32.toNatClampNeg v2))) - 48)).bind (fun w52 =>
    f_X6_number_L30 a n w52 (v2 + 1))
    else none))

def f_X6_number (N : Nat) (a : xT) : Option Int32 :=
    (if (gI a 6) = 2 then
    (if ((gI a 8) - (gI a 7)) ≤ 2 then
    (f_X6_number_L30 a N 0 (gI a 7)).bind (fun q30 =>
    some q30)
    else
    some (-1))
    else
    some (-1))

def f_X5_takeNumber (N : Nat) (v2 : Int32) (v3 : Int32) (a : xT) : Option (Int32 × xT) :=
    (if (gI a 6) = 2 then
    (f_X6_number N a).bind (fun q17 =>
    (if q17 < v2 then
    (f_X5_blame 2 a).bind (fun q37 =>
    some (v2, q37))
    else
    (if q17 ≤ v3 then
    (f_X6_advance N a).bind (fun q43 =>
    some (q17, q43))
    else
    (f_X5_blame 2 a).bind (fun q37 =>
    some (v2, q37)))))
    else
    (f_X5_blame 1 a).bind (fun q11 =>
    some (v2, q11)))

def f_X5_takeNumbered (N : Nat) (v2 : Int32) (v3 : Int32) (a : xT) : Option xT :=
    (f_X6_advance N a).bind (fun q1 =>
    (f_X5_takeNumber N 0 v3 q1).bind (fun q10 =>
    (f_X5_put v2 q10.1 0 q10.2).bind (fun q14 =>
    some q14)))

def f_X5_takeSum (N : Nat) (a : xT) : Option xT :=
    (f_X6_advance N a).bind (fun q1 =>
    (f_X5_takeNumber N 0 98 q1).bind (fun q9 =>
    (f_X6_isWord N 9 q9.2).bind (fun q16 =>
    (if q16 = 0 then
    (f_X5_blame 1 q9.2).bind (fun q25 =>
    some q25)
    else
    (f_X6_advance N q9.2).bind (fun q30 =>
    (f_X5_takeNumber N 1 99 q30).bind (fun q41 =>
    (f_X5_put 2 q9.1 q41.1 q41.2).bind (fun q44 =>
    some q44)))))))

def f_X5_takeWord (N : Nat) (a : xT) : Option xT :=
    (f_X6_isWord N 1 a).bind (fun q3 =>
    (if q3 = 0 then
    (f_X6_isWord N 2 a).bind (fun q20 =>
    (if q20 = 0 then
    (f_X6_isWord N 3 a).bind (fun q40 =>
    (if q40 = 0 then
    (f_X6_isWord N 4 a).bind (fun q60 =>
    (if q60 = 0 then
    (f_X6_isWord N 5 a).bind (fun q80 =>
    (if q80 = 0 then
    (f_X6_isWord N 6 a).bind (fun q100 =>
    (if q100 = 0 then
    (f_X5_blame 1 a).bind (fun q123 =>
    some q123)
    else
    (f_X6_advance N a).bind (fun q107 =>
    (f_X5_put 5 0 0 q107).bind (fun q114 =>
    some q114))))
    else
    (f_X5_takeNumbered N 6 5 a).bind (fun q91 =>
    some q91)))
    else
    (f_X5_takeNumbered N 4 12 a).bind (fun q71 =>
    some q71)))
    else
    (f_X5_takeNumbered N 3 11 a).bind (fun q51 =>
    some q51)))
    else
    (f_X5_takeNumbered N 1 12 a).bind (fun q31 =>
    some q31)))
    else
    (f_X5_takeSum N a).bind (fun q11 =>
    some q11)))

def f_X5_takeTest (N : Nat) (a : xT) : Option xT :=
    (f_X6_isWord N 0 a).bind (fun q3 =>
    (if q3 = 0 then
    (f_X6_isSign 40 a).bind (fun q45 =>
    (if q45 = 0 then
    (f_X5_takeWord N a).bind (fun q61 =>
    (f_X5_endTest q61).bind (fun q65 =>
    some q65))
    else
    (f_X5_takeOpening N a).bind (fun q53 =>
    some q53)))
    else
    (f_X6_advance N a).bind (fun q10 =>
    (if xin (gI q10 12) 5 then
    (if ((gA q10 12) (Int32.toNatClampNeg (gI q10 12))) = 0 then
    (if xin (gI q10 12) 5 then
    some (sA q10 12 (upd (gA q10 12) (Int32.toNatClampNeg (gI q10 12)) (vp_nar .boolean 1)))
    else none)
    else
    (if xin (gI q10 12) 5 then
    some (sA q10 12 (upd (gA q10 12) (Int32.toNatClampNeg (gI q10 12)) (vp_nar .boolean 0)))
    else none))
    else none))))

def f_X6_rewind (N : Nat) (a : xT) : Option xT :=
    (f_X6_advance N (sI a 8 0)).bind (fun q6 =>
    some q6)

def f_X5_parse_L31 (N : Nat) : Nat → Int32 → xT → Option (xT)
  | 0, _, _ => none
  | n + 1, v2, a =>
    (if 120 ≤ v2 then
    some a
    else
    (if (gI a 6) = 0 then
    some a
    else
    (if (gI a 10) = 0 then
    (if (gI a 13) = 0 then
    (f_X5_takeJoint N a).bind (fun q68 =>
    f_X5_parse_L31 N n (v2 + 1) q68)
    else
    (f_X5_takeTest N a).bind (fun q60 =>
    f_X5_parse_L31 N n (v2 + 1) q60))
    else
    some a)))

def f_X5_parse (N : Nat) (a : xT) : Option xT :=
    (f_X5_begin 0 (sI (sI (sI (sI a 9 0) 10 0) 11 (-1)) 13 1)).bind (fun q22 =>
    (f_X6_rewind N q22).bind (fun q26 =>
    (f_X5_parse_L31 N N 0 q26).bind (fun q31 =>
    (if (gI q31 13) = 0 then
    (if (gI q31 12) ≤ 0 then
    (f_X5_end q31).bind (fun q98 =>
    some q98)
    else
    (f_X5_blame 1 q31).bind (fun q94 =>
    (f_X5_end q94).bind (fun q98 =>
    some q98)))
    else
    (f_X5_blame 1 q31).bind (fun q94 =>
    (f_X5_end q94).bind (fun q98 =>
    some q98))))))

def f_X5_sumOf_L4 (v0 : Int32) : Nat → Int32 → Int32 → Option (Int32)
  | 0, _, _ => none
  | n + 1, v1, v2 =>
    (if 12 ≤ v2 then
    some v1
    else
    (some (v1 + (((v0 >>> (v2 &&& 31)) &&& 1) * (v2 + 1)))).bind (fun w21 =>
    f_X5_sumOf_L4 v0 n w21 (v2 + 1)))

def f_X5_sumOf (N : Nat) (v0 : Int32) : Option Int32 :=
    (f_X5_sumOf_L4 v0 N 0 0).bind (fun q4 =>
    some q4)

def f_X5_passes (N : Nat) (v1 : Int32) (v2 : Int32) (a : xT) : Option Int32 :=
    (if xin v1 120 then
    (if xin v1 120 then
    (if ((gA a 9) (Int32.toNatClampNeg v1)) = 1 then
    (f_J6_bitCount_0f7a4 v2).bind (fun q49 =>
    (if q49 = ((gA a 10) (Int32.toNatClampNeg v1)) then
    some 1
    else
    some 0))
    else
    (if ((gA a 9) (Int32.toNatClampNeg v1)) = 2 then
    (if xin v1 120 then
    (if ((gA a 11) (Int32.toNatClampNeg v1)) ≤ 0 then
    some 0
    else
    (f_X5_sumOf N v2).bind (fun q73 =>
    (if xin v1 120 then
    (if ¬ ((gA a 11) (Int32.toNatClampNeg v1)) = 0 then
    (if (q73 - q73 / ((gA a 11) (Int32.toNatClampNeg v1)) * ((gA a 11) (Int32.toNatClampNeg v1))) = ((gA a 10) (Int32.toNatClampNeg v1)) then
    some 1
    else
    some 0)
    else none)
    else none)))
    else none)
    else
    (if ((gA a 9) (Int32.toNatClampNeg v1)) = 3 then
    (if ((v2 >>> (((gA a 10) (Int32.toNatClampNeg v1)) &&& 31)) &&& 1) = 0 then
    some 0
    else
    some 1)
    else
    (if ((gA a 9) (Int32.toNatClampNeg v1)) = 4 then
    (f_J6_bitCount_0f7a4 (v2 &&& ((v2 <<< (1 &&& 31)) ^^^ (-1)))).bind (fun q116 =>
    (if q116 = ((gA a 10) (Int32.toNatClampNeg v1)) then
    some 1
    else
    some 0))
    else
    (if ((gA a 9) (Int32.toNatClampNeg v1)) = 5 then
    (f_X1_reversed N v2 a).bind (fun q132 =>
    (if q132 = v2 then
    some 1
    else
    some 0))
    else
    (if ((gA a 10) (Int32.toNatClampNeg v1)) < 0 then
    some 0
    else
    (if 6 ≤ ((gA a 10) (Int32.toNatClampNeg v1)) then
    some 0
    else
    (if xin ((gA a 10) (Int32.toNatClampNeg v1)) 6 then
    (f_X3_holds (Int32.toNatClampNeg ((gA a 10) (Int32.toNatClampNeg v1))) v2 a).bind (fun q164 =>
    (if q164 = 0 then
    some 0
    else
    some 1))
    else none))))))))
    else none)
    else none)

def f_X5_suits_L6 (N : Nat) (v1 : Int32) (a : xT) : Nat → Int64 → Int32 → Option (Int64)
  | 0, _, _ => none
  | n + 1, v4, v6 =>
    (if (gI a 9) ≤ v6 then
    some v4
    else
    (if xin v6 120 then
    (if ((gA a 9) (Int32.toNatClampNeg v6)) = 7 then
    f_X5_suits_L6 N v1 a n (v4 ^^^ 1) (v6 + 1)
    else
    (if xin v6 120 then
    (if ((gA a 9) (Int32.toNatClampNeg v6)) = 8 then
    (some ((v4 >>> ((1 : Int32).toInt64 &&& 63)) &&& (v4 ||| (-2)))).bind (fun w59 =>
    f_X5_suits_L6 N v1 a n w59 (v6 + 1))
    else
    (if xin v6 120 then
    (if ((gA a 9) (Int32.toNatClampNeg v6)) = 9 then
    (some ((v4 >>> ((1 : Int32).toInt64 &&& 63)) ||| (v4 &&& 1))).bind (fun w85 =>
    f_X5_suits_L6 N v1 a n w85 (v6 + 1))
    else
    (f_X5_passes N v6 v1 a).bind (fun q100 =>
    (if q100 = 0 then
    f_X5_suits_L6 N v1 a n ((v4 <<< ((1 : Int32).toInt64 &&& 63)) ||| 0) (v6 + 1)
    else
    f_X5_suits_L6 N v1 a n ((v4 <<< ((1 : Int32).toInt64 &&& 63)) ||| 1) (v6 + 1))))
    else none))
    else none))
    else none))

def f_X5_suits (N : Nat) (v1 : Int32) (a : xT) : Option Int32 :=
    (f_X5_suits_L6 N v1 a N 0 0).bind (fun q6 =>
    (if (q6 &&& 1) = 0 then
    some 0
    else
    some 1))

def f_X7_read_L60 (N : Nat) (v1 : Int32) : Nat → Int32 → xT → Option ((xT) ⊕ (xT))
  | 0, _, _ => none
  | n + 1, v2, a =>
    (f_X1_all a).bind (fun q65 =>
    (if q65 < v2 then
    some (.inl a)
    else
    (f_X5_suits N v2 a).bind (fun q84 =>
    (if q84 = 0 then
    f_X7_read_L60 N v1 n (v2 + 1) a
    else
    (f_X3_append 6 v2 a).bind (fun q95 =>
    (if q95.1 = 0 then
    some (.inr (q95.2))
    else
    f_X7_read_L60 N v1 n (v2 + 1) q95.2))))))

def f_X7_read (N : Nat) (v1 : Int32) (a : xT) : Option (Int32 × xT) :=
    (f_X7_isList v1).bind (fun q1 =>
    (if q1 = 0 then
    some ((-1001), a)
    else
    (f_X5_parse N a).bind (fun q19 =>
    (if (gI q19 10) = 0 then
    (f_X3_wipe N 6 (sI q19 5 0)).bind (fun q55 =>
    (f_X7_read_L60 N v1 N 0 q55).bind (fun q60 =>
    (Sum.elim (fun z60_111 =>
    (f_X7_becomesFresh v1 z60_111).bind (fun q113 =>
    some (q113.1, q113.2))) (fun z60_101 =>
    some ((-1005), z60_101))) q60))
    else
    some (((-10) - (gI q19 10)), (sI q19 5 0))))))

def f_X7_shorten_L47 (v1 : Int32) (v2 : Int32) (v4 : Int32) : Nat → Int32 → xT → Option (xT)
  | 0, _, _ => none
  | n + 1, v5, a =>
    (if xin v2 6 then
    (if (gI a (23 + (Int32.toNatClampNeg v2))) ≤ v5 then
    some a
    else
    (if xin v2 6 then
    (if xin v5 64 then
    (some ((gA a (30 + (Int32.toNatClampNeg v2))) (Int32.toNatClampNeg v5))).bind (fun w73 =>
    (f_X3_appendOnce 6 ((w73 &&& v4) ||| ((w73 >>> (1 &&& 31)) &&& (v4 ^^^ (-1)))) a).bind (fun q94 =>
    f_X7_shorten_L47 v1 v2 v4 n (v5 + 1) q94.2))
    else none)
    else none))
    else none)

def f_X7_shorten (N : Nat) (v1 : Int32) (v2 : Int32) (v3 : Int32) (a : xT) : Option (Int32 × xT) :=
    (f_X7_isList v1).bind (fun q1 =>
    (if q1 = 0 then
    some ((-1001), a)
    else
    (f_X7_isList v2).bind (fun q8 =>
    (if q8 = 0 then
    some ((-1001), a)
    else
    (f_X7_isPlace v3 a).bind (fun q20 =>
    (if q20 = 0 then
    some ((-1002), a)
    else
    (f_X3_wipe N 6 a).bind (fun q41 =>
    (f_X7_shorten_L47 v1 v2 (((1 : Int32) <<< (v3 &&& 31)) - 1) N 0 q41).bind (fun q47 =>
    (f_X7_becomesFresh v1 q47).bind (fun q106 =>
    some (q106.1, q106.2))))))))))

def f_X7_trace (N : Nat) (v1 : Int32) (v2 : Int32) (v3 : Int32) (v4 : Int32) (a : xT) : Option (Int32 × xT) :=
    (f_X7_isList v1).bind (fun q1 =>
    (if q1 = 0 then
    some ((-1001), a)
    else
    (f_X1_isSet v2 a).bind (fun q16 =>
    (if q16 = 0 then
    some ((-1002), a)
    else
    (f_X7_within v3 1 3).bind (fun q25 =>
    (if q25 = 0 then
    some ((-1002), a)
    else
    (f_X7_within v4 0 2).bind (fun q35 =>
    (if q35 = 0 then
    some ((-1002), a)
    else
    (f_X7_findRings N v1 v2 v3 a).bind (fun q49 =>
    (if v4 = 0 then
    some ((gI q49 19), q49)
    else
    (if v4 = 1 then
    some ((gI q49 20), q49)
    else
    (if (gI q49 19) = 0 then
    some ((-1), q49)
    else
    (f_J13_bitCount_95d88 (gJ q49 0)).bind (fun q117 =>
    some (q117, q49))))))))))))))

def f_X7_turn_L27 (N : Nat) (v1 : Int32) (v2 : Int32) : Nat → Int32 → xT → Option (xT)
  | 0, _, _ => none
  | n + 1, v3, a =>
    (if xin v2 6 then
    (if (gI a (23 + (Int32.toNatClampNeg v2))) ≤ v3 then
    some a
    else
    (if xin v2 6 then
    (if xin v3 64 then
    (f_X1_reversed N ((gA a (30 + (Int32.toNatClampNeg v2))) (Int32.toNatClampNeg v3)) a).bind (fun q59 =>
    (f_X3_appendOnce 6 q59 a).bind (fun q62 =>
    f_X7_turn_L27 N v1 v2 n (v3 + 1) q62.2))
    else none)
    else none))
    else none)

def f_X7_turn (N : Nat) (v1 : Int32) (v2 : Int32) (a : xT) : Option (Int32 × xT) :=
    (f_X7_isList v1).bind (fun q1 =>
    (if q1 = 0 then
    some ((-1001), a)
    else
    (f_X7_isList v2).bind (fun q8 =>
    (if q8 = 0 then
    some ((-1001), a)
    else
    (f_X3_wipe N 6 a).bind (fun q22 =>
    (f_X7_turn_L27 N v1 v2 N 0 q22).bind (fun q27 =>
    (f_X7_becomesFresh v1 q27).bind (fun q74 =>
    some (q74.1, q74.2))))))))

def f_X7_turned (N : Nat) (v1 : Int32) (a : xT) : Option Int32 :=
    (f_X1_isSet v1 a).bind (fun q5 =>
    (if q5 = 0 then
    some (-1002)
    else
    (f_X1_reversed N v1 a).bind (fun q16 =>
    some q16)))

def f_X8_empty_L2  : Nat → Int32 → xT → Option (xT)
  | 0, _, _ => none
  | n + 1, v1, b =>
    (if 6 ≤ v1 then
    some b
    else
    (if xin v1 6 then
    f_X8_empty_L2 n (v1 + 1) (sA b 45 (upd (gA b 45) (Int32.toNatClampNeg v1) 0))
    else none))

def f_X8_empty_L23  : Nat → Int32 → xT → Option (xT)
  | 0, _, _ => none
  | n + 1, v1, b =>
    (if 12 ≤ v1 then
    some b
    else
    (if xin v1 12 then
    f_X8_empty_L23 n (v1 + 1) (sA b 57 (upd (gA b 57) (Int32.toNatClampNeg v1) (-1)))
    else none))

def f_X8_empty (N : Nat) (b : xT) : Option xT :=
    (f_X8_empty_L2 N 0 b).bind (fun q2 =>
    (f_X8_empty_L23 N 0 q2).bind (fun q23 =>
    some q23))

def f_X8_at (v1 : Int32) (v2 : Int32) (b : xT) : Option Int32 :=
    (if xin ((64 * v1) + v2) 384 then
    some ((gA b 46) (Int32.toNatClampNeg ((64 * v1) + v2)))
    else none)

def f_X8_has_L5 (v1 : Int32) (v2 : Int32) (b : xT) : Nat → Int32 → Int32 → Option (Int32)
  | 0, _, _ => none
  | n + 1, v3, v4 =>
    (if xin v1 6 then
    (if ((gA b 45) (Int32.toNatClampNeg v1)) ≤ v4 then
    some v3
    else
    (if v3 = 0 then
    (f_X8_at v1 v4 b).bind (fun q24 =>
    (if q24 = v2 then
    f_X8_has_L5 v1 v2 b n 1 (v4 + 1)
    else
    f_X8_has_L5 v1 v2 b n 0 (v4 + 1)))
    else
    f_X8_has_L5 v1 v2 b n 1 (v4 + 1)))
    else none)

def f_X8_has (N : Nat) (v1 : Int32) (v2 : Int32) (b : xT) : Option Int32 :=
    (f_X8_has_L5 v1 v2 b N 0 0).bind (fun q5 =>
    (if q5 &&& 1 = q5 then some q5 else none))

def f_X8_in (v0 : Int64) (v2 : Int64) (v4 : Int64) : Option Int32 :=
    (if v0 < v2 then
    some 0
    else
    (if v4 < v0 then
    some 0
    else
    some 1))

def f_X8_isList (v0 : Int32) : Option Int32 :=
    (f_X8_in (Int32.toInt64 v0) 0 5).bind (fun q6 =>
    (if q6 &&& 1 = q6 then some q6 else none))

def f_X8_isMark (v1 : Int32) (b : xT) : Option Int32 :=
    (f_X8_in (Int32.toInt64 v1) 0 (Int32.toInt64 (((1 : Int32) <<< ((gI b 0) &&& 31)) - 1))).bind (fun q12 =>
    (if q12 &&& 1 = q12 then some q12 else none))

def f_X8_put (v1 : Int32) (v2 : Int32) (b : xT) : Option xT :=
    (if xin v1 6 then
    (if xin ((64 * v1) + ((gA b 45) (Int32.toNatClampNeg v1))) 384 then
    (if xin v1 6 then
    (if xin v1 6 then
    some (sA (sA b 46 (upd (gA b 46) (Int32.toNatClampNeg ((64 * v1) + ((gA b 45) (Int32.toNatClampNeg v1)))) v2)) 45 (upd (gA b 45) (Int32.toNatClampNeg v1) (((gA b 45) (Int32.toNatClampNeg v1)) + 1)))
    else none)
    else none)
    else none)
    else none)

def f_X8_add (N : Nat) (v1 : Int32) (v2 : Int32) (b : xT) : Option (Int32 × xT) :=
    (f_X8_isList v1).bind (fun q1 =>
    (if q1 = 0 then
    some ((-1001), b)
    else
    (f_X8_isMark v2 b).bind (fun q13 =>
    (if q13 = 0 then
    some ((-1002), b)
    else
    (f_X8_has N v1 v2 b).bind (fun q26 =>
    (if q26 = 0 then
    (if xin v1 6 then
    (if ((gA b 45) (Int32.toNatClampNeg v1)) = 64 then
    some ((-1004), b)
    else
    (f_X8_put v1 v2 b).bind (fun q54 =>
    (if xin v1 6 then
    some (((gA q54 45) (Int32.toNatClampNeg v1)), q54)
    else none)))
    else none)
    else
    some ((-1003), b)))))))

def f_X8_all_L4 (v1 : Int32) (b : xT) : Nat → Int32 → Int32 → Option (Int32)
  | 0, _, _ => none
  | n + 1, v2, v3 =>
    (if (gI b 31) ≤ v3 then
    some v2
    else
    (if xin v3 3 then
    (f_X8_at v1 ((gA b 59) (Int32.toNatClampNeg v3)) b).bind (fun q21 =>
    f_X8_all_L4 v1 b n (v2 ||| q21) (v3 + 1))
    else none))

def f_X8_all (N : Nat) (v1 : Int32) (b : xT) : Option Int32 :=
    (f_X8_all_L4 v1 b N 0 0).bind (fun q4 =>
    some q4)

def f_X8_bits_L4 (v0 : Int32) : Nat → Int32 → Int32 → Option (Int32)
  | 0, _, _ => none
  | n + 1, v1, v2 =>
    (if 12 ≤ v2 then
    some v1
    else
    f_X8_bits_L4 v0 n (v1 + ((v0 >>> (v2 &&& 31)) &&& 1)) (v2 + 1))

def f_X8_bits (N : Nat) (v0 : Int32) : Option Int32 :=
    (f_X8_bits_L4 v0 N 0 0).bind (fun q4 =>
    some q4)

def f_X8_meet (N : Nat) (v1 : Int32) (v2 : Int32) (b : xT) : Option Int32 :=
    (if 2 ≤ (gI b 1) then
    (f_X8_bits N (v1 &&& (v2 ^^^ (-1)))).bind (fun q27 =>
    (if ((gI b 2) + (gI b 3)) < q27 then
    some 0
    else
    (f_X8_bits N (v2 &&& (v1 ^^^ (-1)))).bind (fun q39 =>
    (if ((gI b 2) + (gI b 3)) < q39 then
    some 0
    else
    some 1))))
    else
    (f_X8_bits N (v1 &&& (v2 ^^^ (-1)))).bind (fun q27 =>
    (if ((gI b 2) + 0) < q27 then
    some 0
    else
    (f_X8_bits N (v2 &&& (v1 ^^^ (-1)))).bind (fun q39 =>
    (if ((gI b 2) + 0) < q39 then
    some 0
    else
    some 1)))))

def f_X8_turnedOf_L4 (v1 : Int32) (b : xT) : Nat → Int32 → Int32 → Option (Int32)
  | 0, _, _ => none
  | n + 1, v2, v3 =>
    (if (gI b 0) ≤ v3 then
    some v2
    else
    (some (v2 ||| (((v1 >>> (v3 &&& 31)) &&& 1) <<< ((((gI b 0) - 1) - v3) &&& 31)))).bind (fun w28 =>
    f_X8_turnedOf_L4 v1 b n w28 (v3 + 1)))

def f_X8_turnedOf (N : Nat) (v1 : Int32) (b : xT) : Option Int32 :=
    (f_X8_turnedOf_L4 v1 b N 0 0).bind (fun q4 =>
    some q4)

def f_X8_areAlike (N : Nat) (v1 : Int32) (v2 : Int32) (b : xT) : Option Int32 :=
    (if (gI b 1) = 0 then
    (f_X8_bits N (v1 ^^^ v2)).bind (fun q10 =>
    (if (gI b 2) < q10 then
    some 0
    else
    some 1))
    else
    (f_X8_meet N v1 v2 b).bind (fun q29 =>
    (if q29 = 0 then
    (if (gI b 1) = 3 then
    (f_X8_turnedOf N v1 b).bind (fun q46 =>
    (f_X8_meet N q46 v2 b).bind (fun q50 =>
    (if q50 = 0 then
    (f_X8_turnedOf N v2 b).bind (fun q60 =>
    (f_X8_meet N v1 q60 b).bind (fun q63 =>
    (if q63 = 0 then
    (f_X8_turnedOf N v1 b).bind (fun q72 =>
    (f_X8_turnedOf N v2 b).bind (fun q77 =>
    (f_X8_meet N q72 q77 b).bind (fun q80 =>
    (if q80 = 0 then
    some 0
    else
    some 1))))
    else
    some 1)))
    else
    some 1)))
    else
    some 0)
    else
    some 1)))

def f_X8_begin (b : xT) : Option xT :=
    (if xin 0 3 then
    some (sA (sI b 31 1) 59 (upd (gA b 59) (Int32.toNatClampNeg 0) (-1)))
    else none)

def f_X8_isNear (N : Nat) (v1 : Int32) (v2 : Int32) (b : xT) : Option Int32 :=
    (f_X8_bits N (v1 &&& (v2 ^^^ (-1)))).bind (fun q5 =>
    (if (gI b 2) < q5 then
    some 0
    else
    (f_X8_bits N (v2 &&& (v1 ^^^ (-1)))).bind (fun q20 =>
    (if 2 ≤ (gI b 1) then
    (if (gI b 3) < q20 then
    some 0
    else
    some 1)
    else
    (if 0 < q20 then
    some 0
    else
    some 1)))))

def f_X8_maySee (N : Nat) (v1 : Int32) (v2 : Int32) (v3 : Int32) (b : xT) : Option Int32 :=
    (if (gI b 1) = 0 then
    (f_X8_bits N v3).bind (fun q8 =>
    (if (gI b 2) < q8 then
    some 0
    else
    (if (v1 &&& (v3 ^^^ (-1))) = v2 then
    some 1
    else
    some 0)))
    else
    (if v3 = 0 then
    (f_X8_isNear N v1 v2 b).bind (fun q40 =>
    (if q40 = 0 then
    (if (gI b 1) = 3 then
    (f_X8_turnedOf N v1 b).bind (fun q57 =>
    (f_X8_isNear N q57 v2 b).bind (fun q61 =>
    (if q61 = 0 then
    some 0
    else
    some 1)))
    else
    some 0)
    else
    some 1))
    else
    some 0))

def f_X8_witness_L28 (N : Nat) (v1 : Int32) (v2 : Int32) (v3 : Int32) (b : xT) : Nat → Int32 → Option (Int32)
  | 0, _ => none
  | n + 1, v4 =>
    (f_X8_maySee N v1 v4 0 b).bind (fun q33 =>
    (if q33 = 0 then
    f_X8_witness_L28 N v1 v2 v3 b n (v4 + 1)
    else
    (f_X8_maySee N v2 v4 0 b).bind (fun q44 =>
    (if q44 = 0 then
    f_X8_witness_L28 N v1 v2 v3 b n (v4 + 1)
    else
    some v4))))

def f_X8_witness (N : Nat) (v1 : Int32) (v2 : Int32) (v3 : Int32) (b : xT) : Option Int32 :=
    (if (gI b 1) = 0 then
    (if v3 = 0 then
    some (v1 &&& ((v1 ^^^ v2) ^^^ (-1)))
    else
    some (v1 ^^^ v2))
    else
    (f_X8_witness_L28 N v1 v2 v3 b N 0).bind (fun q28 =>
    (if v3 = 0 then
    some q28
    else
    some 0)))

def f_X8_between (N : Nat) (v1 : Int32) (v2 : Int32) (v3 : Int32) (b : xT) : Option Int32 :=
    (f_X8_isMark v1 b).bind (fun q2 =>
    (if q2 = 0 then
    some (-1002)
    else
    (f_X8_isMark v2 b).bind (fun q10 =>
    (if q10 = 0 then
    some (-1002)
    else
    (f_X8_in (Int32.toInt64 v3) 0 1).bind (fun q20 =>
    (if q20 = 0 then
    some (-1002)
    else
    (f_X8_areAlike N v1 v2 b).bind (fun q33 =>
    (if q33 = 0 then
    some (-1)
    else
    (if v3 = 1 then
    (f_X8_witness N v1 v2 1 b).bind (fun q52 =>
    some q52)
    else
    (f_X8_witness N v1 v2 0 b).bind (fun q52 =>
    some q52))))))))))

def f_X8_bits32_L4 (v0 : Int32) : Nat → Int32 → Int32 → Option (Int32)
  | 0, _, _ => none
  | n + 1, v1, v2 =>
    (if 32 ≤ v2 then
    some v1
    else
    f_X8_bits32_L4 v0 n (v1 + ((xushr v0 v2) &&& 1)) (v2 + 1))

def f_X8_bits32 (N : Nat) (v0 : Int32) : Option Int32 :=
    (f_X8_bits32_L4 v0 N 0 0).bind (fun q4 =>
    some q4)

def f_X8_choose_L4 (v0 : Int32) (v1 : Int32) : Nat → Int32 → Int32 → Option (Int32)
  | 0, _, _ => none
  | n + 1, v2, v3 =>
    (if v1 < v3 then
    some v2
    else
    (if ¬ v3 = 0 then
    f_X8_choose_L4 v0 v1 n ((v2 * ((v0 - v3) + 1)) / v3) (v3 + 1)
    else none))

def f_X8_choose (N : Nat) (v0 : Int32) (v1 : Int32) : Option Int32 :=
    (f_X8_choose_L4 v0 v1 N 1 1).bind (fun q4 =>
    (if v1 ≤ v0 then
    some q4
    else
    some 0))

def f_X8_upTo_L4 (N : Nat) (v0 : Int32) (v1 : Int32) : Nat → Int32 → Int32 → Option (Int32)
  | 0, _, _ => none
  | n + 1, v2, v3 =>
    (if v1 < v3 then
    some v2
    else
    (f_X8_choose N v0 v3).bind (fun q12 =>
    f_X8_upTo_L4 N v0 v1 n (v2 + q12) (v3 + 1)))

def f_X8_upTo (N : Nat) (v0 : Int32) (v1 : Int32) : Option Int32 :=
    (f_X8_upTo_L4 N v0 v1 N 0 0).bind (fun q4 =>
    some q4)

def f_X8_filledByBoth_L47 (N : Nat) (v2 : Int32) (v3 : Int32) (v4 : Int32) (v6 : Int32) (b : xT) : Nat → Int32 → Int32 → Option (Int32)
  | 0, _, _ => none
  | n + 1, v5, v7 =>
    (if v2 < v7 then
    some v5
    else
    (if v7 ≤ v6 then
    (if v6 ≤ v7 then
    (if (gI b 2) < (v2 - v7) then
    f_X8_filledByBoth_L47 N v2 v3 v4 v6 b n (v5 + 0) (v7 + 1)
    else
    (if (gI b 3) < v7 then
    f_X8_filledByBoth_L47 N v2 v3 v4 v6 b n (v5 + 0) (v7 + 1)
    else
    (f_X8_choose N v2 v6).bind (fun q122 =>
    (f_X8_choose N v2 v7).bind (fun q128 =>
    (f_X8_upTo N v3 ((gI b 2) - (v2 - v7))).bind (fun q140 =>
    (f_X8_upTo N v4 ((gI b 3) - v7)).bind (fun q153 =>
    f_X8_filledByBoth_L47 N v2 v3 v4 v6 b n (v5 + (((q122 * q128) * q140) * q153)) (v7 + 1)))))))
    else
    (if (gI b 2) < (v2 - v7) then
    f_X8_filledByBoth_L47 N v2 v3 v4 v6 b n (v5 + 0) (v7 + 1)
    else
    (if (gI b 3) < v6 then
    f_X8_filledByBoth_L47 N v2 v3 v4 v6 b n (v5 + 0) (v7 + 1)
    else
    (f_X8_choose N v2 v6).bind (fun q122 =>
    (f_X8_choose N v2 v7).bind (fun q128 =>
    (f_X8_upTo N v3 ((gI b 2) - (v2 - v7))).bind (fun q140 =>
    (f_X8_upTo N v4 ((gI b 3) - v6)).bind (fun q153 =>
    f_X8_filledByBoth_L47 N v2 v3 v4 v6 b n (v5 + (((q122 * q128) * q140) * q153)) (v7 + 1))))))))
    else
    (if v6 ≤ v7 then
    (if (gI b 2) < (v2 - v6) then
    f_X8_filledByBoth_L47 N v2 v3 v4 v6 b n (v5 + 0) (v7 + 1)
    else
    (if (gI b 3) < v7 then
    f_X8_filledByBoth_L47 N v2 v3 v4 v6 b n (v5 + 0) (v7 + 1)
    else
    (f_X8_choose N v2 v6).bind (fun q122 =>
    (f_X8_choose N v2 v7).bind (fun q128 =>
    (f_X8_upTo N v3 ((gI b 2) - (v2 - v6))).bind (fun q140 =>
    (f_X8_upTo N v4 ((gI b 3) - v7)).bind (fun q153 =>
    f_X8_filledByBoth_L47 N v2 v3 v4 v6 b n (v5 + (((q122 * q128) * q140) * q153)) (v7 + 1)))))))
    else
    (if (gI b 2) < (v2 - v6) then
    f_X8_filledByBoth_L47 N v2 v3 v4 v6 b n (v5 + 0) (v7 + 1)
    else
    (if (gI b 3) < v6 then
    f_X8_filledByBoth_L47 N v2 v3 v4 v6 b n (v5 + 0) (v7 + 1)
    else
    (f_X8_choose N v2 v6).bind (fun q122 =>
    (f_X8_choose N v2 v7).bind (fun q128 =>
    (f_X8_upTo N v3 ((gI b 2) - (v2 - v6))).bind (fun q140 =>
    (f_X8_upTo N v4 ((gI b 3) - v6)).bind (fun q153 =>
    f_X8_filledByBoth_L47 N v2 v3 v4 v6 b n (v5 + (((q122 * q128) * q140) * q153)) (v7 + 1))))))))))

def f_X8_filledByBoth_L38 (N : Nat) (v2 : Int32) (v3 : Int32) (v4 : Int32) (b : xT) : Nat → Int32 → Int32 → Option (Int32)
  | 0, _, _ => none
  | n + 1, v5, v6 =>
    (if v2 < v6 then
    some v5
    else
    (f_X8_filledByBoth_L47 N v2 v3 v4 v6 b N v5 0).bind (fun q47 =>
    f_X8_filledByBoth_L38 N v2 v3 v4 b n q47 (v6 + 1)))

def f_X8_filledByBoth (N : Nat) (v1 : Int32) (b : xT) : Option Int32 :=
    (f_X8_turnedOf N v1 b).bind (fun q3 =>
    (f_X8_bits N (v1 &&& (q3 ^^^ (-1)))).bind (fun q9 =>
    (f_X8_bits N v1).bind (fun q14 =>
    (f_X8_filledByBoth_L38 N q9 (q14 - q9) (((gI b 0) - (q14 - q9)) - (2 * q9)) b N 0 0).bind (fun q38 =>
    some q38))))

def f_X8_filledBy (N : Nat) (v1 : Int32) (b : xT) : Option Int32 :=
    (f_X8_bits N v1).bind (fun q1 =>
    (if (gI b 1) = 0 then
    (f_X8_upTo N (gI b 0) (gI b 2)).bind (fun q20 =>
    some q20)
    else
    (f_X8_upTo N q1 (gI b 2)).bind (fun q29 =>
    (if 2 ≤ (gI b 1) then
    (f_X8_upTo N ((gI b 0) - q1) (gI b 3)).bind (fun q54 =>
    (if (gI b 1) < 3 then
    some (q29 * q54)
    else
    (f_X8_turnedOf N v1 b).bind (fun q69 =>
    (if q69 = v1 then
    some (q29 * q54)
    else
    (f_X8_filledByBoth N v1 b).bind (fun q85 =>
    some ((2 * (q29 * q54)) - q85))))))
    else
    (f_X8_upTo N ((gI b 0) - q1) 0).bind (fun q54 =>
    (if (gI b 1) < 3 then
    some (q29 * q54)
    else
    (f_X8_turnedOf N v1 b).bind (fun q69 =>
    (if q69 = v1 then
    some (q29 * q54)
    else
    (f_X8_filledByBoth N v1 b).bind (fun q85 =>
    some ((2 * (q29 * q54)) - q85))))))))))

def f_X8_bound_L15 (N : Nat) (v1 : Int32) (b : xT) : Nat → Int32 → Int32 → Option (Int32)
  | 0, _, _ => none
  | n + 1, v2, v3 =>
    (if v1 ≤ v3 then
    some v2
    else
    (f_X8_filledBy N v3 b).bind (fun q22 =>
    (if v2 ≤ q22 then
    f_X8_bound_L15 N v1 b n v2 (v3 + 1)
    else
    f_X8_bound_L15 N v1 b n q22 (v3 + 1))))

def f_X8_bound_L60 (N : Nat) (v2 : Int32) (b : xT) : Nat → Int32 → Int32 → Option (Int32)
  | 0, _, _ => none
  | n + 1, v3, v4 =>
    (if (gI b 2) < v4 then
    some v3
    else
    (if v4 ≤ (gI b 0) then
    (f_X8_choose N (gI b 0) v4).bind (fun q89 =>
    f_X8_bound_L60 N v2 b n (v3 + (q89 <<< (((gI b 0) - v4) &&& 31))) (v4 + 1))
    else
    f_X8_bound_L60 N v2 b n (v3 + 0) (v4 + 1)))

def f_X8_bound (N : Nat) (b : xT) : Option Int32 :=
    (f_X8_filledBy N 0 b).bind (fun q9 =>
    (f_X8_bound_L15 N ((1 : Int32) <<< ((gI b 0) &&& 31)) b N q9 1).bind (fun q15 =>
    (if (gI b 1) = 0 then
    (f_X8_bound_L60 N q15 b N 0 0).bind (fun q60 =>
    (if ¬ q15 = 0 then
    some (q60 / q15)
    else none))
    else
    (if ¬ q15 = 0 then
    some (((1 : Int32) <<< ((gI b 0) &&& 31)) / q15)
    else none))))

def f_X8_isApart_L2 (N : Nat) (v1 : Int32) (v2 : Int32) (b : xT) : Nat → Int32 → Option ((Unit) ⊕ (Unit))
  | 0, _ => none
  | n + 1, v3 =>
    (if xin v1 6 then
    (if ((gA b 45) (Int32.toNatClampNeg v1)) ≤ v3 then
    some (.inl ())
    else
    (f_X8_at v1 v3 b).bind (fun q16 =>
    (f_X8_areAlike N q16 v2 b).bind (fun q20 =>
    (if q20 = 0 then
    f_X8_isApart_L2 N v1 v2 b n (v3 + 1)
    else
    some (.inr (()))))))
    else none)

def f_X8_isApart (N : Nat) (v1 : Int32) (v2 : Int32) (b : xT) : Option Int32 :=
    (f_X8_isApart_L2 N v1 v2 b N 0).bind (fun q2 =>
    (Sum.elim (fun z2_34 =>
    some 1) (fun z2_26 =>
    some 0)) q2)

def f_X8_build_L50 (N : Nat) (v1 : Int32) (v2 : Int32) (v3 : Int32) (v4 : Int32) : Nat → Int32 → xT → Option (xT)
  | 0, _, _ => none
  | n + 1, v5, b =>
    (if v4 ≤ v5 then
    some b
    else
    (if xin v1 6 then
    (if v3 ≤ ((gA b 45) (Int32.toNatClampNeg v1)) then
    some b
    else
    (if ¬ v4 = 0 then
    (some (((v5 * ((2 * v2) + 1)) + v2) - ((v5 * ((2 * v2) + 1)) + v2) / v4 * v4)).bind (fun w80 =>
    (f_X8_isApart N v1 w80 b).bind (fun q86 =>
    (if q86 = 0 then
    f_X8_build_L50 N v1 v2 v3 v4 n (v5 + 1) b
    else
    (f_X8_put v1 w80 b).bind (fun q96 =>
    f_X8_build_L50 N v1 v2 v3 v4 n (v5 + 1) q96))))
    else none))
    else none))

def f_X8_build (N : Nat) (v1 : Int32) (v2 : Int32) (v3 : Int32) (b : xT) : Option (Int32 × xT) :=
    (f_X8_isList v1).bind (fun q1 =>
    (if q1 = 0 then
    some ((-1001), b)
    else
    (f_X8_in (Int32.toInt64 v2) 0 4095).bind (fun q17 =>
    (if q17 = 0 then
    some ((-1002), b)
    else
    (f_X8_in (Int32.toInt64 v3) 0 64).bind (fun q29 =>
    (if q29 = 0 then
    some ((-1002), b)
    else
    (f_X8_build_L50 N v1 v2 v3 ((1 : Int32) <<< ((gI b 0) &&& 31)) N 0 b).bind (fun q50 =>
    (if xin v1 6 then
    some (((gA q50 45) (Int32.toNatClampNeg v1)), q50)
    else none))))))))

def f_X8_canMake (v0 : Int32) (v1 : Int32) (v2 : Int32) : Option Int32 :=
    (if (v0 &&& (v2 ^^^ (-1))) = 0 then
    (if (v2 &&& (v1 ^^^ (-1))) = 0 then
    some 1
    else
    some 0)
    else
    some 0)

def f_X8_chanceOf_L5 (v1 : Int32) (b : xT) : Nat → Int64 → Int32 → Option (Int64)
  | 0, _, _ => none
  | n + 1, v2, v4 =>
    (if (gI b 0) ≤ v4 then
    some v2
    else
    (if xin v4 12 then
    (if 0 ≤ ((gA b 57) (Int32.toNatClampNeg v4)) then
    (if ((v1 >>> (v4 &&& 31)) &&& 1) = 1 then
    (if xin v4 12 then
    (some (v2 * (Int32.toInt64 ((gA b 57) (Int32.toNatClampNeg v4))))).bind (fun w62 =>
    f_X8_chanceOf_L5 v1 b n w62 (v4 + 1))
    else none)
    else
    (if xin v4 12 then
    (some (v2 * (Int32.toInt64 (9 - ((gA b 57) (Int32.toNatClampNeg v4)))))).bind (fun w62 =>
    f_X8_chanceOf_L5 v1 b n w62 (v4 + 1))
    else none))
    else
    f_X8_chanceOf_L5 v1 b n (v2 * 1) (v4 + 1))
    else none))

def f_X8_chanceOf (N : Nat) (v1 : Int32) (b : xT) : Option Int64 :=
    (f_X8_chanceOf_L5 v1 b N 1 0).bind (fun q5 =>
    some q5)

def f_X8_isOf (v1 : Int32) (v2 : Int32) (b : xT) : Option Int32 :=
    (f_X8_isList v1).bind (fun q1 =>
    (if q1 = 0 then
    some 0
    else
    (if xin v1 6 then
    (f_X8_in (Int32.toInt64 v2) 0 (Int32.toInt64 (((gA b 45) (Int32.toNatClampNeg v1)) - 1))).bind (fun q19 =>
    (if q19 = 0 then
    some 0
    else
    some 1))
    else none)))

def f_X8_chance (N : Nat) (v1 : Int32) (v2 : Int32) (b : xT) : Option Int64 :=
    (f_X8_isOf v1 v2 b).bind (fun q3 =>
    (if q3 = 0 then
    some (-1001)
    else
    (f_X8_at v1 v2 b).bind (fun q13 =>
    (f_X8_chanceOf N q13 b).bind (fun q16 =>
    some q16))))

def f_X8_clear (v1 : Int32) (b : xT) : Option (Int32 × xT) :=
    (f_X8_isList v1).bind (fun q1 =>
    (if q1 = 0 then
    some ((-1001), b)
    else
    (if xin v1 6 then
    (if xin v1 6 then
    some (((gA b 45) (Int32.toNatClampNeg v1)), (sA b 45 (upd (gA b 45) (Int32.toNatClampNeg v1) 0)))
    else none)
    else none)))

def f_X8_code (v0 : Int32) (v1 : Int32) (v2 : Int32) (v3 : Int32) (v4 : Int32) : Option Int64 :=
    (some (((27 * ((Int32.toInt64 v0) - 96)) + (Int32.toInt64 v1)) - 96)).bind (fun w17 =>
    (if v2 = 0 then
    (if v3 = 0 then
    (if v4 = 0 then
    some w17
    else
    some (((27 * w17) + (Int32.toInt64 v4)) - 96))
    else
    (if v4 = 0 then
    some (((27 * w17) + (Int32.toInt64 v3)) - 96)
    else
    some (((27 * (((27 * w17) + (Int32.toInt64 v3)) - 96)) + (Int32.toInt64 v4)) - 96)))
    else
    (if v3 = 0 then
    (if v4 = 0 then
    some (((27 * w17) + (Int32.toInt64 v2)) - 96)
    else
    some (((27 * (((27 * w17) + (Int32.toInt64 v2)) - 96)) + (Int32.toInt64 v4)) - 96))
    else
    (some (((27 * (((27 * w17) + (Int32.toInt64 v2)) - 96)) + (Int32.toInt64 v3)) - 96)).bind (fun w65 =>
    (if v4 = 0 then
    some w65
    else
    some (((27 * w65) + (Int32.toInt64 v4)) - 96))))))

def f_X8_come_L2 (v1 : Int32) (b : xT) : Nat → Int32 → Option ((Unit) ⊕ (Unit))
  | 0, _ => none
  | n + 1, v2 =>
    (if (gI b 11) ≤ v2 then
    some (.inl ())
    else
    (if xin v2 4096 then
    (if ((gA b 51) (Int32.toNatClampNeg v2)) = v1 then
    some (.inr (()))
    else
    f_X8_come_L2 v1 b n (v2 + 1))
    else none))

def f_X8_come (N : Nat) (v1 : Int32) (b : xT) : Option xT :=
    (f_X8_come_L2 v1 b N 0).bind (fun q2 =>
    (Sum.elim (fun z2_27 =>
    (if xin (gI b 11) 4096 then
    some (sI (sA b 51 (upd (gA b 51) (Int32.toNatClampNeg (gI b 11)) v1)) 11 ((gI b 11) + 1))
    else none)) (fun z2_20 =>
    some b)) q2)

def f_X8_common_L4 (v1 : Int32) (b : xT) : Nat → Int32 → Int32 → Option (Int32)
  | 0, _, _ => none
  | n + 1, v2, v3 =>
    (if (gI b 31) ≤ v3 then
    some v2
    else
    (if xin v3 3 then
    (f_X8_at v1 ((gA b 59) (Int32.toNatClampNeg v3)) b).bind (fun q21 =>
    f_X8_common_L4 v1 b n (v2 &&& q21) (v3 + 1))
    else none))

def f_X8_common (N : Nat) (v1 : Int32) (b : xT) : Option Int32 :=
    (f_X8_common_L4 v1 b N (-1) 0).bind (fun q4 =>
    some q4)

def f_X8_count_L4 (v1 : Int32) (b : xT) : Nat → Int32 → Int32 → Option (Int32)
  | 0, _, _ => none
  | n + 1, v2, v3 =>
    (if 6 ≤ v3 then
    some v2
    else
    (if xin v3 6 then
    f_X8_count_L4 v1 b n (v2 + ((gA b 45) (Int32.toNatClampNeg v3))) (v3 + 1)
    else none))

def f_X8_count_L30 (v1 : Int32) (v2 : Int32) (b : xT) : Nat → Int32 → Int32 → Option (Int32)
  | 0, _, _ => none
  | n + 1, v3, v4 =>
    (if 12 ≤ v4 then
    some v3
    else
    (if xin v4 12 then
    (if ((gA b 57) (Int32.toNatClampNeg v4)) < 0 then
    f_X8_count_L30 v1 v2 b n (v3 + 0) (v4 + 1)
    else
    f_X8_count_L30 v1 v2 b n (v3 + 1) (v4 + 1))
    else none))

def f_X8_count (N : Nat) (v1 : Int32) (b : xT) : Option Int32 :=
    (f_X8_count_L4 v1 b N 0 0).bind (fun q4 =>
    (f_X8_count_L30 v1 q4 b N 0 0).bind (fun q30 =>
    (if v1 = 0 then
    some q4
    else
    (if v1 = 1 then
    some (gI b 14)
    else
    (if v1 = 2 then
    some q30
    else
    some (-1002))))))

def f_X8_drop_L25 (v1 : Int32) : Nat → Int32 → xT → Option (xT)
  | 0, _, _ => none
  | n + 1, v3, b =>
    (if xin v1 6 then
    (if ((gA b 45) (Int32.toNatClampNeg v1)) ≤ v3 then
    some b
    else
    (if xin (((64 * v1) + v3) + 1) 384 then
    (if xin ((64 * v1) + v3) 384 then
    f_X8_drop_L25 v1 n (v3 + 1) (sA b 46 (upd (gA b 46) (Int32.toNatClampNeg ((64 * v1) + v3)) ((gA b 46) (Int32.toNatClampNeg (((64 * v1) + v3) + 1)))))
    else none)
    else none))
    else none)

def f_X8_drop (N : Nat) (v1 : Int32) (v2 : Int32) (b : xT) : Option (Int32 × xT) :=
    (f_X8_isOf v1 v2 b).bind (fun q3 =>
    (if q3 = 0 then
    some ((-1001), b)
    else
    (if xin v1 6 then
    (if xin v1 6 then
    (f_X8_drop_L25 v1 N v2 (sA b 45 (upd (gA b 45) (Int32.toNatClampNeg v1) (((gA b 45) (Int32.toNatClampNeg v1)) - 1)))).bind (fun q25 =>
    (if xin v1 6 then
    some (((gA q25 45) (Int32.toNatClampNeg v1)), q25)
    else none))
    else none)
    else none)))

def f_X8_keep_L22 (v1 : Int32) : Nat → Int32 → xT → Option (xT)
  | 0, _, _ => none
  | n + 1, v2, b =>
    (if (gI b 11) ≤ v2 then
    some b
    else
    (if xin v2 4096 then
    (f_X8_put v1 ((gA b 51) (Int32.toNatClampNeg v2)) b).bind (fun q38 =>
    f_X8_keep_L22 v1 n (v2 + 1) q38)
    else none))

def f_X8_keep (N : Nat) (v1 : Int32) (b : xT) : Option (Int32 × xT) :=
    (if (gI b 11) ≤ 64 then
    (if xin v1 6 then
    (f_X8_keep_L22 v1 N 0 (sA b 45 (upd (gA b 45) (Int32.toNatClampNeg v1) 0))).bind (fun q22 =>
    some ((gI q22 11), q22))
    else none)
    else
    some ((-1004), b))

def f_X8_even_L46 (N : Nat) (v1 : Int32) (v2 : Int32) (v3 : Int32) : Nat → Int32 → xT → Option (xT)
  | 0, _, _ => none
  | n + 1, v4, b =>
    (if xin v2 6 then
    (if ((gA b 45) (Int32.toNatClampNeg v2)) ≤ v4 then
    some b
    else
    (f_X8_at v2 v4 b).bind (fun q61 =>
    (some (q61 &&& (((1 : Int32) <<< (v3 &&& 31)) ^^^ (-1)))).bind (fun w70 =>
    (f_X8_bits N w70).bind (fun q75 =>
    (if (q75 - q75 / 2 * 2) = 1 then
    (f_X8_come N (w70 ||| ((1 : Int32) <<< (v3 &&& 31))) b).bind (fun q95 =>
    f_X8_even_L46 N v1 v2 v3 n (v4 + 1) q95)
    else
    (f_X8_come N w70 b).bind (fun q95 =>
    f_X8_even_L46 N v1 v2 v3 n (v4 + 1) q95))))))
    else none)

def f_X8_even (N : Nat) (v1 : Int32) (v2 : Int32) (v3 : Int32) (b : xT) : Option (Int32 × xT) :=
    (f_X8_isList v1).bind (fun q1 =>
    (if q1 = 0 then
    some ((-1001), b)
    else
    (f_X8_isList v2).bind (fun q8 =>
    (if q8 = 0 then
    some ((-1001), b)
    else
    (f_X8_in (Int32.toInt64 v3) 0 (Int32.toInt64 ((gI b 0) - 1))).bind (fun q28 =>
    (if q28 = 0 then
    some ((-1002), b)
    else
    (f_X8_even_L46 N v1 v2 v3 N 0 (sI b 11 0)).bind (fun q46 =>
    (f_X8_keep N v1 q46).bind (fun q106 =>
    some (q106.1, q106.2)))))))))

def f_X8_fails (v1 : Int32) (v2 : Int32) (b : xT) : Option (Int32 × xT) :=
    some (v1, (sI b 15 v2))

def f_X8_fault (b : xT) : Option Int32 :=
    some (gI b 15)

def f_X8_feed_L36 (v2 : Int64) : Nat → Int32 → xT → Option (xT)
  | 0, _, _ => none
  | n + 1, v4, b =>
    (if v4 < 0 then
    some b
    else
    (if xin (gI b 14) 120 then
    f_X8_feed_L36 v2 n (v4 + (-1)) (sI (sA b 52 (upd (gA b 52) (Int32.toNatClampNeg (gI b 14)) (Int64.toInt32 ((v2 >>> (((8 * v4) : Int32).toInt64 &&& 63)) &&& 255)))) 14 ((gI b 14) + 1))
    else none))

def f_X8_feed (N : Nat) (v1 : Int32) (v2 : Int64) (b : xT) : Option (Int32 × xT) :=
    (f_X8_in (Int32.toInt64 v1) 1 8).bind (fun q6 =>
    (if q6 = 0 then
    some ((-1002), b)
    else
    (if ((gI b 14) + v1) ≤ 120 then
    (f_X8_feed_L36 v2 N (v1 - 1) b).bind (fun q36 =>
    some ((gI q36 14), q36))
    else
    some ((-1004), b))))

def f_X8_fills (N : Nat) (v1 : Int32) (b : xT) : Option Int32 :=
    (f_X8_isMark v1 b).bind (fun q2 =>
    (if q2 = 0 then
    some (-1002)
    else
    (f_X8_filledBy N v1 b).bind (fun q10 =>
    some q10)))

def f_X8_findMost_L54 (N : Nat) (v1 : Int32) (v2 : Int32) (v3 : Int32) (v4 : Int32) : Nat → Int32 → xT → Option (xT)
  | 0, _, _ => none
  | n + 1, v5, b =>
    (if v2 ≤ v5 then
    some b
    else
    (if xin v4 32 then
    (f_X8_areAlike N v4 v5 b).bind (fun q73 =>
    (if q73 = 0 then
    (if xin v4 32 then
    f_X8_findMost_L54 N v1 v2 v3 v4 n (v5 + 1) (sA b 50 (upd (gA b 50) (Int32.toNatClampNeg v4) (((gA b 50) (Int32.toNatClampNeg v4)) ||| 0)))
    else none)
    else
    (if xin v4 32 then
    f_X8_findMost_L54 N v1 v2 v3 v4 n (v5 + 1) (sA b 50 (upd (gA b 50) (Int32.toNatClampNeg v4) (((gA b 50) (Int32.toNatClampNeg v4)) ||| ((1 : Int32) <<< (v5 &&& 31)))))
    else none)))
    else none))

def f_X8_findMost_L12 (N : Nat) (v1 : Int32) (v2 : Int32) : Nat → Int32 → Int32 → xT → Option (Int32 × xT)
  | 0, _, _, _ => none
  | n + 1, v3, v4, b =>
    (if v2 ≤ v4 then
    some (v3, b)
    else
    (if v1 = (-1) then
    (if xin v4 32 then
    (f_X8_findMost_L54 N v1 v2 (v3 ||| ((1 : Int32) <<< (v4 &&& 31))) v4 N 0 (sA b 50 (upd (gA b 50) (Int32.toNatClampNeg v4) 0))).bind (fun q54 =>
    f_X8_findMost_L12 N v1 v2 n (v3 ||| ((1 : Int32) <<< (v4 &&& 31))) (v4 + 1) q54)
    else none)
    else
    (f_X8_bits N v4).bind (fun q26 =>
    (if q26 = v1 then
    (if xin v4 32 then
    (f_X8_findMost_L54 N v1 v2 (v3 ||| ((1 : Int32) <<< (v4 &&& 31))) v4 N 0 (sA b 50 (upd (gA b 50) (Int32.toNatClampNeg v4) 0))).bind (fun q54 =>
    f_X8_findMost_L12 N v1 v2 n (v3 ||| ((1 : Int32) <<< (v4 &&& 31))) (v4 + 1) q54)
    else none)
    else
    (if xin v4 32 then
    (f_X8_findMost_L54 N v1 v2 (v3 ||| 0) v4 N 0 (sA b 50 (upd (gA b 50) (Int32.toNatClampNeg v4) 0))).bind (fun q54 =>
    f_X8_findMost_L12 N v1 v2 n (v3 ||| 0) (v4 + 1) q54)
    else none)))))

def f_X8_findMost_L205 (v4 : Int32) (b : xT) : Nat → Int32 → Option (Int32)
  | 0, _ => none
  | n + 1, v5 =>
    (if xin v4 34 then
    (if ((xushr ((gA b 48) (Int32.toNatClampNeg v4)) v5) &&& 1) = 0 then
    f_X8_findMost_L205 v4 b n (v5 + 1)
    else
    some v5)
    else none)

def f_X8_findMost_L139 (v4 : Int32) : Nat → Int32 → xT → Option (xT)
  | 0, _, _ => none
  | n + 1, v5, b =>
    (if v4 ≤ v5 then
    some b
    else
    (if xin v5 34 then
    (if xin v5 34 then
    f_X8_findMost_L139 v4 n (v5 + 1) (sA b 49 (upd (gA b 49) (Int32.toNatClampNeg v5) ((gA b 47) (Int32.toNatClampNeg v5))))
    else none)
    else none))

def f_X8_findMost_L116 (N : Nat) : Nat → Int32 → xT → Option (xT)
  | 0, _, _ => none
  | n + 1, v4, b =>
    (if v4 < 0 then
    some b
    else
    (if v4 ≤ (gI b 9) then
    (if xin v4 34 then
    (if ((gA b 48) (Int32.toNatClampNeg v4)) = 0 then
    f_X8_findMost_L116 N n (v4 + (-1)) b
    else
    (if xin v4 34 then
    (f_X8_bits32 N ((gA b 48) (Int32.toNatClampNeg v4))).bind (fun q185 =>
    (if (gI b 9) < (v4 + q185) then
    (f_X8_findMost_L205 v4 b N 0).bind (fun q205 =>
    (if xin v4 34 then
    (if xin v4 34 then
    (if xin v4 34 then
    (if xin v4 34 then
    (if xin q205 32 then
    (if xin (v4 + 1) 34 then
    f_X8_findMost_L116 N n (v4 + 1) (sA (sA (sA b 48 (upd (gA b 48) (Int32.toNatClampNeg v4) (((gA b 48) (Int32.toNatClampNeg v4)) &&& (((1 : Int32) <<< (q205 &&& 31)) ^^^ (-1))))) 47 (upd (gA b 47) (Int32.toNatClampNeg v4) q205)) 48 (upd (upd (gA b 48) (Int32.toNatClampNeg v4) (((gA b 48) (Int32.toNatClampNeg v4)) &&& (((1 : Int32) <<< (q205 &&& 31)) ^^^ (-1)))) (Int32.toNatClampNeg (v4 + 1)) (((upd (gA b 48) (Int32.toNatClampNeg v4) (((gA b 48) (Int32.toNatClampNeg v4)) &&& (((1 : Int32) <<< (q205 &&& 31)) ^^^ (-1)))) (Int32.toNatClampNeg v4)) &&& (((gA b 50) (Int32.toNatClampNeg q205)) ^^^ (-1)))))
    else none)
    else none)
    else none)
    else none)
    else none)
    else none))
    else
    f_X8_findMost_L116 N n (v4 + (-1)) b))
    else none))
    else none)
    else
    (f_X8_findMost_L139 v4 N 0 (sI b 9 v4)).bind (fun q139 =>
    (if xin v4 34 then
    (if ((gA q139 48) (Int32.toNatClampNeg v4)) = 0 then
    f_X8_findMost_L116 N n (v4 + (-1)) q139
    else
    (if xin v4 34 then
    (f_X8_bits32 N ((gA q139 48) (Int32.toNatClampNeg v4))).bind (fun q185 =>
    (if (gI q139 9) < (v4 + q185) then
    (f_X8_findMost_L205 v4 q139 N 0).bind (fun q205 =>
    (if xin v4 34 then
    (if xin v4 34 then
    (if xin v4 34 then
    (if xin v4 34 then
    (if xin q205 32 then
    (if xin (v4 + 1) 34 then
    f_X8_findMost_L116 N n (v4 + 1) (sA (sA (sA q139 48 (upd (gA q139 48) (Int32.toNatClampNeg v4) (((gA q139 48) (Int32.toNatClampNeg v4)) &&& (((1 : Int32) <<< (q205 &&& 31)) ^^^ (-1))))) 47 (upd (gA q139 47) (Int32.toNatClampNeg v4) q205)) 48 (upd (upd (gA q139 48) (Int32.toNatClampNeg v4) (((gA q139 48) (Int32.toNatClampNeg v4)) &&& (((1 : Int32) <<< (q205 &&& 31)) ^^^ (-1)))) (Int32.toNatClampNeg (v4 + 1)) (((upd (gA q139 48) (Int32.toNatClampNeg v4) (((gA q139 48) (Int32.toNatClampNeg v4)) &&& (((1 : Int32) <<< (q205 &&& 31)) ^^^ (-1)))) (Int32.toNatClampNeg v4)) &&& (((gA q139 50) (Int32.toNatClampNeg q205)) ^^^ (-1)))))
    else none)
    else none)
    else none)
    else none)
    else none)
    else none))
    else
    f_X8_findMost_L116 N n (v4 + (-1)) q139))
    else none))
    else none))))

def f_X8_findMost (N : Nat) (v1 : Int32) (b : xT) : Option xT :=
    (f_X8_findMost_L12 N v1 ((1 : Int32) <<< ((gI b 0) &&& 31)) N 0 0 b).bind (fun q12 =>
    (if xin 0 34 then
    (f_X8_findMost_L116 N N 0 (sA (sI (q12.2) 9 0) 48 (upd (gA (q12.2) 48) (Int32.toNatClampNeg 0) (q12.1)))).bind (fun q116 =>
    some q116)
    else none))

def f_X8_goOn_L7 (v1 : Int32) (v2 : Int32) (b : xT) : Nat → Int32 → Option (Int32)
  | 0, _ => none
  | n + 1, v3 =>
    (if v3 < 0 then
    some v3
    else
    (if xin v3 3 then
    (if xin v1 6 then
    (if ((gA b 59) (Int32.toNatClampNeg v3)) < ((((gA b 45) (Int32.toNatClampNeg v1)) - (gI b 31)) + v3) then
    some v3
    else
    f_X8_goOn_L7 v1 v2 b n (v3 + (-1)))
    else none)
    else none))

def f_X8_goOn_L112 (v1 : Int32) (v2 : Int32) : Nat → Int32 → xT → Option (xT)
  | 0, _, _ => none
  | n + 1, v4, b =>
    (if (gI b 31) ≤ v4 then
    some b
    else
    (if 4 ≤ (gI b 31) then
    some b
    else
    (if xin (v4 - 1) 3 then
    (if xin v4 3 then
    f_X8_goOn_L112 v1 v2 n (v4 + 1) (sA b 59 (upd (gA b 59) (Int32.toNatClampNeg v4) (((gA b 59) (Int32.toNatClampNeg (v4 - 1))) + 1)))
    else none)
    else none)))

def f_X8_goOn (N : Nat) (v1 : Int32) (v2 : Int32) (b : xT) : Option (Int32 × xT) :=
    (f_X8_goOn_L7 v1 v2 b N ((gI b 31) - 1)).bind (fun q7 =>
    (if xin 0 3 then
    (if ((gA b 59) (Int32.toNatClampNeg 0)) = (-1) then
    (if xin 0 3 then
    (if xin v1 6 then
    (if ((gA b 45) (Int32.toNatClampNeg v1)) ≤ 0 then
    some (0, (sA b 59 (upd (gA b 59) (Int32.toNatClampNeg 0) 0)))
    else
    some (1, (sA b 59 (upd (gA b 59) (Int32.toNatClampNeg 0) 0))))
    else none)
    else none)
    else
    (if q7 < 0 then
    (if xin 0 3 then
    (f_X8_goOn_L112 v1 v2 N (0 + 1) (sA (sI b 31 ((gI b 31) + 1)) 59 (upd (gA b 59) (Int32.toNatClampNeg 0) 0))).bind (fun q112 =>
    (if v2 < (gI q112 31) then
    some (0, q112)
    else
    (if xin v1 6 then
    (if ((gA q112 45) (Int32.toNatClampNeg v1)) < (gI q112 31) then
    some (0, q112)
    else
    some (1, q112))
    else none)))
    else none)
    else
    (if xin q7 3 then
    (if xin q7 3 then
    (f_X8_goOn_L112 v1 v2 N (q7 + 1) (sA b 59 (upd (gA b 59) (Int32.toNatClampNeg q7) (((gA b 59) (Int32.toNatClampNeg q7)) + 1)))).bind (fun q112 =>
    (if v2 < (gI q112 31) then
    some (0, q112)
    else
    (if xin v1 6 then
    (if ((gA q112 45) (Int32.toNatClampNeg v1)) < (gI q112 31) then
    some (0, q112)
    else
    some (1, q112))
    else none)))
    else none)
    else none)))
    else none))

def f_X8_findRings_L53 (v1 : Int32) (v2 : Int32) (v3 : Int32) (b : xT) : Nat → Int64 → Int32 → Option (Int64)
  | 0, _, _ => none
  | n + 1, v4, v6 =>
    (if (gI b 31) ≤ v6 then
    some v4
    else
    (if xin v6 3 then
    (some (v4 ||| ((1 : Int64) <<< ((((gA b 59) (Int32.toNatClampNeg v6)) : Int32).toInt64 &&& 63)))).bind (fun w74 =>
    f_X8_findRings_L53 v1 v2 v3 b n w74 (v6 + 1))
    else none))

def f_X8_findRings_L21 (N : Nat) (v1 : Int32) (v2 : Int32) (v3 : Int32) : Nat → xT → Option (xT)
  | 0, _ => none
  | n + 1, b =>
    (f_X8_goOn N v1 v3 b).bind (fun q24 =>
    (if q24.1 = 0 then
    some q24.2
    else
    (f_X8_common N v1 q24.2).bind (fun q32 =>
    (f_X8_all N v1 q24.2).bind (fun q37 =>
    (f_X8_canMake q32 q37 v2).bind (fun q41 =>
    (if q41 = 0 then
    f_X8_findRings_L21 N v1 v2 v3 n q24.2
    else
    (f_X8_findRings_L53 v1 v2 v3 q24.2 N 0 0).bind (fun q53 =>
    (if (gI q24.2 32) = 0 then
    f_X8_findRings_L21 N v1 v2 v3 n (sI (sI (sJ q24.2 34 ((gJ q24.2 34) &&& q53)) 33 (gI q24.2 31)) 32 ((gI q24.2 32) + 1))
    else
    f_X8_findRings_L21 N v1 v2 v3 n (sI (sI (sJ q24.2 34 ((gJ q24.2 34) &&& q53)) 33 (gI q24.2 33)) 32 ((gI q24.2 32) + 1))))))))))

def f_X8_findRings (N : Nat) (v1 : Int32) (v2 : Int32) (v3 : Int32) (b : xT) : Option xT :=
    (f_X8_begin (sJ (sI (sI b 32 0) 33 (-1)) 34 (-1))).bind (fun q18 =>
    (f_X8_findRings_L21 N v1 v2 v3 N q18).bind (fun q21 =>
    (if (gI q21 32) = 0 then
    some (sJ q21 34 0)
    else
    some (sJ q21 34 (gJ q21 34)))))

def f_X8_isPicked_L4 (v1 : Int32) (b : xT) : Nat → Int32 → Int32 → Option (Int32)
  | 0, _, _ => none
  | n + 1, v2, v3 =>
    (if (gI b 31) ≤ v3 then
    some v2
    else
    (if v2 = 0 then
    (if xin v3 3 then
    (if ((gA b 59) (Int32.toNatClampNeg v3)) = v1 then
    f_X8_isPicked_L4 v1 b n 1 (v3 + 1)
    else
    f_X8_isPicked_L4 v1 b n 0 (v3 + 1))
    else none)
    else
    f_X8_isPicked_L4 v1 b n 1 (v3 + 1)))

def f_X8_isPicked (N : Nat) (v1 : Int32) (b : xT) : Option Int32 :=
    (f_X8_isPicked_L4 v1 b N 0 0).bind (fun q4 =>
    (if q4 &&& 1 = q4 then some q4 else none))

def f_X8_framed_L59 (N : Nat) (v1 : Int32) (v2 : Int32) (v5 : Int32) (v6 : Int32) (b : xT) : Nat → Int64 → Int32 → Option (Int64)
  | 0, _, _ => none
  | n + 1, v3, v7 =>
    (if xin v1 6 then
    (if ((gA b 45) (Int32.toNatClampNeg v1)) ≤ v7 then
    some v3
    else
    (if ((v3 >>> ((v7 : Int32).toInt64 &&& 63)) &&& 1) = 0 then
    (f_X8_at v1 v7 b).bind (fun q89 =>
    (f_X8_canMake v5 v6 q89).bind (fun q92 =>
    (if q92 = 0 then
    f_X8_framed_L59 N v1 v2 v5 v6 b n (v3 ||| 0) (v7 + 1)
    else
    (f_X8_isPicked N v7 b).bind (fun q114 =>
    (if q114 = 0 then
    (some (v3 ||| ((1 : Int64) <<< ((v7 : Int32).toInt64 &&& 63)))).bind (fun w129 =>
    f_X8_framed_L59 N v1 v2 v5 v6 b n w129 (v7 + 1))
    else
    f_X8_framed_L59 N v1 v2 v5 v6 b n (v3 ||| 0) (v7 + 1))))))
    else
    f_X8_framed_L59 N v1 v2 v5 v6 b n (v3 ||| 0) (v7 + 1)))
    else none)

def f_X8_framed_L33 (N : Nat) (v1 : Int32) (v2 : Int32) : Nat → Int64 → xT → Option (Int64 × xT)
  | 0, _, _ => none
  | n + 1, v3, b =>
    (f_X8_goOn N v1 v2 b).bind (fun q36 =>
    (if q36.1 = 0 then
    some (v3, q36.2)
    else
    (f_X8_common N v1 q36.2).bind (fun q44 =>
    (f_X8_all N v1 q36.2).bind (fun q51 =>
    (f_X8_framed_L59 N v1 v2 q44 q51 q36.2 N v3 0).bind (fun q59 =>
    f_X8_framed_L33 N v1 v2 n q59 q36.2)))))

def f_X8_framed_L145 (v3 : Int64) (b : xT) : Nat → Int32 → Int32 → Option (Int32)
  | 0, _, _ => none
  | n + 1, v5, v6 =>
    (if 64 ≤ v6 then
    some v5
    else
    (some (v5 + (Int64.toInt32 ((v3 >>> ((v6 : Int32).toInt64 &&& 63)) &&& 1)))).bind (fun w162 =>
    f_X8_framed_L145 v3 b n w162 (v6 + 1)))

def f_X8_framed (N : Nat) (v1 : Int32) (v2 : Int32) (b : xT) : Option (Int32 × xT) :=
    (f_X8_isList v1).bind (fun q1 =>
    (if q1 = 0 then
    some ((-1001), b)
    else
    (f_X8_in (Int32.toInt64 v2) 1 3).bind (fun q17 =>
    (if q17 = 0 then
    some ((-1002), b)
    else
    (f_X8_begin b).bind (fun q30 =>
    (f_X8_framed_L33 N v1 v2 N 0 q30).bind (fun q33 =>
    (f_X8_framed_L145 (q33.1) (q33.2) N 0 0).bind (fun q145 =>
    some (q145, (q33.2)))))))))

def f_X8_good_L44 (N : Nat) (v1 : Int32) (v2 : Int32) (v3 : Int32) (b : xT) : Nat → Int32 → Option ((Unit) ⊕ (Int32))
  | 0, _ => none
  | n + 1, v4 =>
    (if xin v1 6 then
    (if ((gA b 45) (Int32.toNatClampNeg v1)) ≤ v4 then
    some (.inl ())
    else
    (f_X8_at v1 v3 b).bind (fun q59 =>
    (f_X8_at v1 v4 b).bind (fun q66 =>
    (f_X8_areAlike N q59 q66 b).bind (fun q69 =>
    (if q69 = 0 then
    f_X8_good_L44 N v1 v2 v3 b n (v4 + 1)
    else
    some (.inr (v4)))))))
    else none)

def f_X8_good_L29 (N : Nat) (v1 : Int32) (v2 : Int32) (b : xT) : Nat → Int32 → Option ((Unit) ⊕ (Int32 × Int32))
  | 0, _ => none
  | n + 1, v3 =>
    (if xin v1 6 then
    (if ((gA b 45) (Int32.toNatClampNeg v1)) ≤ v3 then
    some (.inl ())
    else
    (f_X8_good_L44 N v1 v2 v3 b N (v3 + 1)).bind (fun q44 =>
    (Sum.elim (fun z44_136 =>
    f_X8_good_L29 N v1 v2 b n (v3 + 1)) (fun z44_75 =>
    some (.inr ((v3, z44_75))))) q44))
    else none)

def f_X8_good (N : Nat) (v1 : Int32) (v2 : Int32) (b : xT) : Option Int32 :=
    (f_X8_isList v1).bind (fun q1 =>
    (if q1 = 0 then
    some (-1001)
    else
    (f_X8_in (Int32.toInt64 v2) 0 4).bind (fun q17 =>
    (if q17 = 0 then
    some (-1002)
    else
    (f_X8_good_L29 N v1 v2 b N 0).bind (fun q29 =>
    (Sum.elim (fun z29_142 =>
    (if v2 = 0 then
    some 1
    else
    some (-1))) (fun z29_75 =>
    (if v2 = 0 then
    some 0
    else
    (if v2 = 1 then
    some (z29_75.1)
    else
    (if v2 = 2 then
    some (z29_75.2)
    else
    (f_X8_at v1 (z29_75.1) b).bind (fun q106 =>
    (f_X8_at v1 (z29_75.2) b).bind (fun q113 =>
    (if v2 = 4 then
    (f_X8_witness N q106 q113 1 b).bind (fun q126 =>
    some q126)
    else
    (f_X8_witness N q106 q113 0 b).bind (fun q126 =>
    some q126))))))))) q29)))))

def f_X8_isAsked (v1 : Int32) (v2 : Int32) (v3 : Int32) (b : xT) : Option Int32 :=
    (f_X8_isMark v2 b).bind (fun q2 =>
    (if q2 = 0 then
    some 0
    else
    (f_X8_in (Int32.toInt64 v3) 1 3).bind (fun q14 =>
    (if q14 = 0 then
    some 0
    else
    some 1))))

def f_X8_heap_L50 (N : Nat) (v1 : Int32) (v2 : Int32) (v3 : Int32) (v4 : Int32) : Nat → Int32 → Int32 → xT → Option (Int32 × Int32 × xT)
  | 0, _, _, _ => none
  | n + 1, v5, v6, b =>
    (f_X8_goOn N v1 v3 b).bind (fun q53 =>
    (if q53.1 = 0 then
    some (v5, v6, q53.2)
    else
    (f_X8_all N v1 q53.2).bind (fun q61 =>
    (if q61 = v2 then
    (if v5 = 0 then
    (if v4 = 0 then
    f_X8_heap_L50 N v1 v2 v3 v4 n (v5 + 1) (gI q53.2 31) q53.2
    else
    (if v4 ≤ 0 then
    f_X8_heap_L50 N v1 v2 v3 v4 n (v5 + 1) (-1) q53.2
    else
    (if (gI q53.2 31) < v4 then
    f_X8_heap_L50 N v1 v2 v3 v4 n (v5 + 1) (-1) q53.2
    else
    (if xin (v4 - 1) 3 then
    (some ((gA q53.2 59) (Int32.toNatClampNeg (v4 - 1)))).bind (fun w112 =>
    f_X8_heap_L50 N v1 v2 v3 v4 n (v5 + 1) w112 q53.2)
    else none))))
    else
    f_X8_heap_L50 N v1 v2 v3 v4 n (v5 + 1) v6 q53.2)
    else
    f_X8_heap_L50 N v1 v2 v3 v4 n v5 v6 q53.2))))

def f_X8_heap (N : Nat) (v1 : Int32) (v2 : Int32) (v3 : Int32) (v4 : Int32) (b : xT) : Option (Int32 × xT) :=
    (f_X8_isList v1).bind (fun q1 =>
    (if q1 = 0 then
    some ((-1001), b)
    else
    (f_X8_isAsked v1 v2 v3 b).bind (fun q15 =>
    (if q15 = 0 then
    some ((-1002), b)
    else
    (f_X8_in (Int32.toInt64 v4) (-1) 3).bind (fun q30 =>
    (if q30 = 0 then
    some ((-1002), b)
    else
    (f_X8_begin b).bind (fun q47 =>
    (f_X8_heap_L50 N v1 v2 v3 v4 N 0 (-1) q47).bind (fun q50 =>
    (if v4 = (-1) then
    some ((q50.1), (q50.2.2))
    else
    some ((q50.2.1), (q50.2.2)))))))))))

def f_X8_here_L0  : Nat → xT → Option (xT)
  | 0, _ => none
  | n + 1, b =>
    (if (gI b 14) ≤ (gI b 16) then
    some b
    else
    (if xin (gI b 16) 120 then
    (if ((gA b 52) (Int32.toNatClampNeg (gI b 16))) = 32 then
    f_X8_here_L0 n (sI b 16 ((gI b 16) + 1))
    else
    some b)
    else none))

def f_X8_here (N : Nat) (b : xT) : Option (Int32 × xT) :=
    (f_X8_here_L0 N b).bind (fun q0 =>
    (if (gI q0 14) ≤ (gI q0 16) then
    some ((-1), q0)
    else
    (if xin (gI q0 16) 120 then
    some (((gA q0 52) (Int32.toNatClampNeg (gI q0 16))), q0)
    else none)))

def f_X8_hold (v1 : Int32) (b : xT) : Option xT :=
    (if xin (gI b 23) 130 then
    some (sI (sA b 55 (upd (gA b 55) (Int32.toNatClampNeg (gI b 23)) v1)) 23 ((gI b 23) + 1))
    else none)

def f_X8_sumOf_L4 (v1 : Int32) (b : xT) : Nat → Int32 → Int32 → Option (Int32)
  | 0, _, _ => none
  | n + 1, v2, v3 =>
    (if (gI b 0) ≤ v3 then
    some v2
    else
    (some (v2 + (((v1 >>> (v3 &&& 31)) &&& 1) * (v3 + 1)))).bind (fun w23 =>
    f_X8_sumOf_L4 v1 b n w23 (v3 + 1)))

def f_X8_sumOf (N : Nat) (v1 : Int32) (b : xT) : Option Int32 :=
    (f_X8_sumOf_L4 v1 b N 0 0).bind (fun q4 =>
    some q4)

def f_X8_isSo (N : Nat) (v1 : Int32) (v2 : Int32) (v3 : Int32) (b : xT) : Option Int32 :=
    (if v1 = 3 then
    (f_X8_bits N v3).bind (fun q37 =>
    (if q37 = v2 then
    some 1
    else
    some 0))
    else
    (if v1 = 4 then
    (f_X8_sumOf N v3 b).bind (fun q52 =>
    (if ¬ (v2 - v2 / 100 * 100) = 0 then
    (if (q52 - q52 / (v2 - v2 / 100 * 100) * (v2 - v2 / 100 * 100)) = (v2 / 100) then
    some 1
    else
    some 0)
    else none))
    else
    (if v1 = 5 then
    (if ((v3 >>> (v2 &&& 31)) &&& 1) = 1 then
    some 1
    else
    some 0)
    else
    (if v1 = 6 then
    (f_X8_bits N (v3 &&& ((v3 <<< (1 &&& 31)) ^^^ (-1)))).bind (fun q95 =>
    (if q95 = v2 then
    some 1
    else
    some 0))
    else
    (if v1 = 7 then
    (f_X8_turnedOf N v3 b).bind (fun q110 =>
    (if q110 = v3 then
    some 1
    else
    some 0))
    else
    (f_X8_has N v2 v3 b).bind (fun q126 =>
    (if q126 &&& 1 = q126 then some q126 else none)))))))

def f_X8_holds_L4 (N : Nat) (v1 : Int32) : Nat → Int32 → Int32 → xT → Option (xT)
  | 0, _, _, _ => none
  | n + 1, v2, v3, b =>
    (if (gI b 20) ≤ v3 then
    some b
    else
    (if xin v3 130 then
    (if 2 ≤ ((gA b 53) (Int32.toNatClampNeg v3)) then
    (if xin v3 130 then
    (if ((gA b 53) (Int32.toNatClampNeg v3)) = 2 then
    (if xin (v2 - 1) 130 then
    (if ((gA b 56) (Int32.toNatClampNeg (v2 - 1))) = 0 then
    (if xin (v2 - 1) 130 then
    f_X8_holds_L4 N v1 n v2 (v3 + 1) (sA b 56 (upd (gA b 56) (Int32.toNatClampNeg (v2 - 1)) (vp_nar .boolean 1)))
    else none)
    else
    (if xin (v2 - 1) 130 then
    f_X8_holds_L4 N v1 n v2 (v3 + 1) (sA b 56 (upd (gA b 56) (Int32.toNatClampNeg (v2 - 1)) (vp_nar .boolean 0)))
    else none))
    else none)
    else
    (if xin v3 130 then
    (if xin v3 130 then
    (f_X8_isSo N ((gA b 53) (Int32.toNatClampNeg v3)) ((gA b 54) (Int32.toNatClampNeg v3)) v1 b).bind (fun q154 =>
    (if xin v2 130 then
    f_X8_holds_L4 N v1 n (v2 + 1) (v3 + 1) (sA b 56 (upd (gA b 56) (Int32.toNatClampNeg v2) (vp_nar .boolean q154)))
    else none))
    else none)
    else none))
    else none)
    else
    (if xin v3 130 then
    (if ((gA b 53) (Int32.toNatClampNeg v3)) = 0 then
    (if xin ((v2 + (-1)) - 1) 130 then
    (if ((gA b 56) (Int32.toNatClampNeg ((v2 + (-1)) - 1))) = 0 then
    (if xin (v2 + (-1)) 130 then
    (if ((gA b 56) (Int32.toNatClampNeg (v2 + (-1)))) = 0 then
    (if xin ((v2 + (-1)) - 1) 130 then
    f_X8_holds_L4 N v1 n (v2 + (-1)) (v3 + 1) (sA b 56 (upd (gA b 56) (Int32.toNatClampNeg ((v2 + (-1)) - 1)) (vp_nar .boolean 0)))
    else none)
    else
    (if xin ((v2 + (-1)) - 1) 130 then
    f_X8_holds_L4 N v1 n (v2 + (-1)) (v3 + 1) (sA b 56 (upd (gA b 56) (Int32.toNatClampNeg ((v2 + (-1)) - 1)) (vp_nar .boolean 1)))
    else none))
    else none)
    else
    (if xin ((v2 + (-1)) - 1) 130 then
    f_X8_holds_L4 N v1 n (v2 + (-1)) (v3 + 1) (sA b 56 (upd (gA b 56) (Int32.toNatClampNeg ((v2 + (-1)) - 1)) (vp_nar .boolean 1)))
    else none))
    else none)
    else
    (if xin ((v2 + (-1)) - 1) 130 then
    (if ((gA b 56) (Int32.toNatClampNeg ((v2 + (-1)) - 1))) = 0 then
    (if xin ((v2 + (-1)) - 1) 130 then
    f_X8_holds_L4 N v1 n (v2 + (-1)) (v3 + 1) (sA b 56 (upd (gA b 56) (Int32.toNatClampNeg ((v2 + (-1)) - 1)) (vp_nar .boolean 0)))
    else none)
    else
    (if xin (v2 + (-1)) 130 then
    (if ((gA b 56) (Int32.toNatClampNeg (v2 + (-1)))) = 0 then
    (if xin ((v2 + (-1)) - 1) 130 then
    f_X8_holds_L4 N v1 n (v2 + (-1)) (v3 + 1) (sA b 56 (upd (gA b 56) (Int32.toNatClampNeg ((v2 + (-1)) - 1)) (vp_nar .boolean 0)))
    else none)
    else
    (if xin ((v2 + (-1)) - 1) 130 then
    f_X8_holds_L4 N v1 n (v2 + (-1)) (v3 + 1) (sA b 56 (upd (gA b 56) (Int32.toNatClampNeg ((v2 + (-1)) - 1)) (vp_nar .boolean 1)))
    else none))
    else none))
    else none))
    else none))
    else none))

def f_X8_holds (N : Nat) (v1 : Int32) (b : xT) : Option (Int32 × xT) :=
    (f_X8_holds_L4 N v1 N 0 0 b).bind (fun q4 =>
    (if xin 0 130 then
    (if ((gA q4 56) (Int32.toNatClampNeg 0)) &&& 1 = ((gA q4 56) (Int32.toNatClampNeg 0)) then some (((gA q4 56) (Int32.toNatClampNeg 0)), q4) else none)
    else none))

def f_X8_inAll_L38 (v4 : Int32) (b : xT) : Nat → Int32 → Int32 → Option ((Unit) ⊕ (Int32))
  | 0, _, _ => none
  | n + 1, v5, v6 =>
    (if 64 ≤ v6 then
    some (.inl ())
    else
    (if (((gJ b 34) >>> ((v6 : Int32).toInt64 &&& 63)) &&& 1) = 1 then
    (if v5 = v4 then
    some (.inr (v6))
    else
    f_X8_inAll_L38 v4 b n (v5 + 1) (v6 + 1))
    else
    f_X8_inAll_L38 v4 b n v5 (v6 + 1)))

def f_X8_inAll (N : Nat) (v1 : Int32) (v2 : Int32) (v3 : Int32) (v4 : Int32) (b : xT) : Option (Int32 × xT) :=
    (f_X8_isList v1).bind (fun q1 =>
    (if q1 = 0 then
    some ((-1001), b)
    else
    (f_X8_isAsked v1 v2 v3 b).bind (fun q15 =>
    (if q15 = 0 then
    some ((-1002), b)
    else
    (f_X8_findRings N v1 v2 v3 b).bind (fun q29 =>
    (f_X8_inAll_L38 v4 q29 N 0 0).bind (fun q38 =>
    (Sum.elim (fun z38_78 =>
    some ((-1), q29)) (fun z38_66 =>
    some (z38_66, q29))) q38))))))

def f_X8_is (v1 : Int32) (b : xT) : Option Int32 :=
    (if v1 = 0 then
    some (gI b 0)
    else
    (if v1 = 1 then
    some (gI b 1)
    else
    (if v1 = 2 then
    some (gI b 2)
    else
    (if v1 = 3 then
    some (gI b 3)
    else
    some (-1002)))))

def f_X8_isSeen (v1 : Int32) (v2 : Int32) (b : xT) : Option Int32 :=
    (f_X8_isMark v1 b).bind (fun q2 =>
    (if q2 = 0 then
    some 0
    else
    (f_X8_isMark v2 b).bind (fun q10 =>
    (if q10 = 0 then
    some 0
    else
    (if (v1 &&& v2) = 0 then
    some 1
    else
    some 0)))))

def f_X8_island (v1 : Int32) (v2 : Int32) (v3 : Int32) (b : xT) : Option (Int32 × xT) :=
    (f_X8_in (Int32.toInt64 v1) 0 3).bind (fun q6 =>
    (if q6 = 0 then
    some ((-1002), b)
    else
    (f_X8_in (Int32.toInt64 v2) 0 4).bind (fun q18 =>
    (if q18 = 0 then
    some ((-1002), b)
    else
    (f_X8_in (Int32.toInt64 v3) 0 4).bind (fun q30 =>
    (if q30 = 0 then
    some ((-1002), b)
    else
    some (1, (sI (sI (sI b 1 v1) 2 v2) 3 v3))))))))

def f_X8_join_L33 (N : Nat) (v1 : Int32) (v2 : Int32) (v3 : Int32) : Nat → Int32 → xT → Option (xT)
  | 0, _, _ => none
  | n + 1, v4, b =>
    (if xin v2 6 then
    (if ((gA b 45) (Int32.toNatClampNeg v2)) ≤ v4 then
    some b
    else
    (f_X8_at v2 v4 b).bind (fun q49 =>
    (f_X8_come N q49 b).bind (fun q52 =>
    f_X8_join_L33 N v1 v2 v3 n (v4 + 1) q52)))
    else none)

def f_X8_join_L64 (N : Nat) (v1 : Int32) (v3 : Int32) : Nat → Int32 → xT → Option (xT)
  | 0, _, _ => none
  | n + 1, v4, b =>
    (if xin v3 6 then
    (if ((gA b 45) (Int32.toNatClampNeg v3)) ≤ v4 then
    some b
    else
    (f_X8_at v3 v4 b).bind (fun q80 =>
    (f_X8_come N q80 b).bind (fun q83 =>
    f_X8_join_L64 N v1 v3 n (v4 + 1) q83)))
    else none)

def f_X8_join (N : Nat) (v1 : Int32) (v2 : Int32) (v3 : Int32) (b : xT) : Option (Int32 × xT) :=
    (f_X8_isList v1).bind (fun q1 =>
    (if q1 = 0 then
    some ((-1001), b)
    else
    (f_X8_isList v2).bind (fun q8 =>
    (if q8 = 0 then
    some ((-1001), b)
    else
    (f_X8_isList v3).bind (fun q15 =>
    (if q15 = 0 then
    some ((-1001), b)
    else
    (f_X8_join_L33 N v1 v2 v3 N 0 (sI b 11 0)).bind (fun q33 =>
    (f_X8_join_L64 N v1 v3 N 0 q33).bind (fun q64 =>
    (f_X8_keep N v1 q64).bind (fun q94 =>
    some (q94.1, q94.2))))))))))

def f_X8_lay_L68 (N : Nat) (v1 : Int32) (v2 : Int32) (v3 : Int32) (v4 : Int32) (v5 : Int32) : Nat → Int32 → xT → Option (xT)
  | 0, _, _ => none
  | n + 1, v6, b =>
    (if xin v3 6 then
    (if ((gA b 45) (Int32.toNatClampNeg v3)) ≤ v6 then
    some b
    else
    (f_X8_at v2 v5 b).bind (fun q83 =>
    (f_X8_at v3 v6 b).bind (fun q99 =>
    (some (q99 &&& (((1 : Int32) <<< (((gI b 0) - v4) &&& 31)) - 1))).bind (fun w114 =>
    (f_X8_come N ((q83 &&& (((1 : Int32) <<< (v4 &&& 31)) - 1)) ||| (w114 <<< (v4 &&& 31))) b).bind (fun q125 =>
    f_X8_lay_L68 N v1 v2 v3 v4 v5 n (v6 + 1) q125)))))
    else none)

def f_X8_lay_L54 (N : Nat) (v1 : Int32) (v2 : Int32) (v3 : Int32) (v4 : Int32) : Nat → Int32 → xT → Option (xT)
  | 0, _, _ => none
  | n + 1, v5, b =>
    (if xin v2 6 then
    (if ((gA b 45) (Int32.toNatClampNeg v2)) ≤ v5 then
    some b
    else
    (f_X8_lay_L68 N v1 v2 v3 v4 v5 N 0 b).bind (fun q68 =>
    f_X8_lay_L54 N v1 v2 v3 v4 n (v5 + 1) q68))
    else none)

def f_X8_lay (N : Nat) (v1 : Int32) (v2 : Int32) (v3 : Int32) (v4 : Int32) (b : xT) : Option (Int32 × xT) :=
    (f_X8_isList v1).bind (fun q1 =>
    (if q1 = 0 then
    some ((-1001), b)
    else
    (f_X8_isList v2).bind (fun q8 =>
    (if q8 = 0 then
    some ((-1001), b)
    else
    (f_X8_isList v3).bind (fun q15 =>
    (if q15 = 0 then
    some ((-1001), b)
    else
    (f_X8_in (Int32.toInt64 v4) 1 (Int32.toInt64 ((gI b 0) - 1))).bind (fun q36 =>
    (if q36 = 0 then
    some ((-1002), b)
    else
    (f_X8_lay_L54 N v1 v2 v3 v4 N 0 (sI b 11 0)).bind (fun q54 =>
    (f_X8_keep N v1 q54).bind (fun q142 =>
    some (q142.1, q142.2)))))))))))

def f_X8_likely_L16 (N : Nat) (v1 : Int32) (v2 : Int32) : Nat → Int32 → Int32 → xT → Option (Int32 × xT)
  | 0, _, _, _ => none
  | n + 1, v3, v4, b =>
    (if xin v1 6 then
    (if ((gA b 45) (Int32.toNatClampNeg v1)) ≤ v4 then
    some (v3, b)
    else
    (f_X8_at v1 v4 b).bind (fun q38 =>
    (f_X8_chanceOf N q38 b).bind (fun q41 =>
    (if xin v4 64 then
    (if xin v4 64 then
    (if ((vp_updL (gB b 58) (Int32.toNatClampNeg v4) q41) (Int32.toNatClampNeg v4)) ≤ 0 then
    f_X8_likely_L16 N v1 v2 n (v3 + 0) (v4 + 1) (sB b 58 (vp_updL (gB b 58) (Int32.toNatClampNeg v4) q41))
    else
    f_X8_likely_L16 N v1 v2 n (v3 + 1) (v4 + 1) (sB b 58 (vp_updL (gB b 58) (Int32.toNatClampNeg v4) q41)))
    else none)
    else none))))
    else none)

def f_X8_likely_L113 (v1 : Int32) (v2 : Int32) (v5 : Int32) (b : xT) : Nat → Int32 → Int32 → Option (Int32)
  | 0, _, _ => none
  | n + 1, v4, v6 =>
    (if xin v1 6 then
    (if ((gA b 45) (Int32.toNatClampNeg v1)) ≤ v6 then
    some v4
    else
    (if xin v6 64 then
    (if xin v4 64 then
    (if ((gB b 58) (Int32.toNatClampNeg v6)) ≤ ((gB b 58) (Int32.toNatClampNeg v4)) then
    f_X8_likely_L113 v1 v2 v5 b n v4 (v6 + 1)
    else
    f_X8_likely_L113 v1 v2 v5 b n v6 (v6 + 1))
    else none)
    else none))
    else none)

def f_X8_likely_L101 (N : Nat) (v1 : Int32) (v2 : Int32) : Nat → Int32 → Int32 → xT → Option (Int32 × xT)
  | 0, _, _, _ => none
  | n + 1, v4, v5, b =>
    (if v2 < v5 then
    some (v4, b)
    else
    (f_X8_likely_L113 v1 v2 v5 b N 0 1).bind (fun q113 =>
    (if v2 ≤ v5 then
    (if xin q113 64 then
    (if xin q113 64 then
    f_X8_likely_L101 N v1 v2 n q113 (v5 + 1) (sB b 58 (vp_updL (gB b 58) (Int32.toNatClampNeg q113) ((gB b 58) (Int32.toNatClampNeg q113))))
    else none)
    else none)
    else
    (if xin q113 64 then
    f_X8_likely_L101 N v1 v2 n q113 (v5 + 1) (sB b 58 (vp_updL (gB b 58) (Int32.toNatClampNeg q113) 0))
    else none))))

def f_X8_likely (N : Nat) (v1 : Int32) (v2 : Int32) (b : xT) : Option (Int32 × xT) :=
    (f_X8_isList v1).bind (fun q1 =>
    (if q1 = 0 then
    some ((-1001), b)
    else
    (f_X8_likely_L16 N v1 v2 N 0 0 b).bind (fun q16 =>
    (f_X8_in (Int32.toInt64 v2) 0 (Int32.toInt64 ((q16.1) - 1))).bind (fun q78 =>
    (if q78 = 0 then
    (if v2 = (-1) then
    some ((q16.1), (q16.2))
    else
    some ((-1), (q16.2)))
    else
    (f_X8_likely_L101 N v1 v2 N (-1) 0 (q16.2)).bind (fun q101 =>
    some ((q101.1), (q101.2))))))))

def f_X8_look (v1 : Int32) (v2 : Int32) (b : xT) : Option (Int32 × xT) :=
    (f_X8_in (Int32.toInt64 v1) 0 (Int32.toInt64 ((gI b 0) - 1))).bind (fun q10 =>
    (if q10 = 0 then
    some ((-1002), b)
    else
    (f_X8_in (Int32.toInt64 v2) (-1) 9).bind (fun q24 =>
    (if q24 = 0 then
    some ((-1002), b)
    else
    (if xin v1 12 then
    (if xin v1 12 then
    some (((gA b 57) (Int32.toNatClampNeg v1)), (sA b 57 (upd (gA b 57) (Int32.toNatClampNeg v1) v2)))
    else none)
    else none)))))

def f_X8_make (v1 : Int32) (v2 : Int32) (v3 : Int32) (v4 : Int32) (v5 : Int32) (b : xT) : Option Int32 :=
    (f_X8_isOf v1 v2 b).bind (fun q3 =>
    (if q3 = 0 then
    some (-1001)
    else
    (if v3 = (-1) then
    (if v4 = (-1) then
    (f_X8_isMark v5 b).bind (fun q46 =>
    (if q46 = 0 then
    some (-1002)
    else
    (f_X8_at v1 v2 b).bind (fun q59 =>
    (if v3 = (-1) then
    (if v4 = (-1) then
    (f_X8_canMake ((q59 &&& q59) &&& q59) ((q59 ||| q59) ||| q59) v5).bind (fun q120 =>
    (if q120 = 0 then
    some 0
    else
    some 1))
    else
    (f_X8_at v1 v4 b).bind (fun q97 =>
    (f_X8_canMake ((q59 &&& q59) &&& q97) ((q59 ||| q59) ||| q97) v5).bind (fun q120 =>
    (if q120 = 0 then
    some 0
    else
    some 1))))
    else
    (f_X8_at v1 v3 b).bind (fun q77 =>
    (if v4 = (-1) then
    (f_X8_canMake ((q59 &&& q77) &&& q59) ((q59 ||| q77) ||| q59) v5).bind (fun q120 =>
    (if q120 = 0 then
    some 0
    else
    some 1))
    else
    (f_X8_at v1 v4 b).bind (fun q97 =>
    (f_X8_canMake ((q59 &&& q77) &&& q97) ((q59 ||| q77) ||| q97) v5).bind (fun q120 =>
    (if q120 = 0 then
    some 0
    else
    some 1)))))))))
    else
    (f_X8_isOf v1 v4 b).bind (fun q33 =>
    (if q33 = 0 then
    some (-1001)
    else
    (f_X8_isMark v5 b).bind (fun q46 =>
    (if q46 = 0 then
    some (-1002)
    else
    (f_X8_at v1 v2 b).bind (fun q59 =>
    (if v3 = (-1) then
    (if v4 = (-1) then
    (f_X8_canMake ((q59 &&& q59) &&& q59) ((q59 ||| q59) ||| q59) v5).bind (fun q120 =>
    (if q120 = 0 then
    some 0
    else
    some 1))
    else
    (f_X8_at v1 v4 b).bind (fun q97 =>
    (f_X8_canMake ((q59 &&& q59) &&& q97) ((q59 ||| q59) ||| q97) v5).bind (fun q120 =>
    (if q120 = 0 then
    some 0
    else
    some 1))))
    else
    (f_X8_at v1 v3 b).bind (fun q77 =>
    (if v4 = (-1) then
    (f_X8_canMake ((q59 &&& q77) &&& q59) ((q59 ||| q77) ||| q59) v5).bind (fun q120 =>
    (if q120 = 0 then
    some 0
    else
    some 1))
    else
    (f_X8_at v1 v4 b).bind (fun q97 =>
    (f_X8_canMake ((q59 &&& q77) &&& q97) ((q59 ||| q77) ||| q97) v5).bind (fun q120 =>
    (if q120 = 0 then
    some 0
    else
    some 1))))))))))))
    else
    (f_X8_isOf v1 v3 b).bind (fun q17 =>
    (if q17 = 0 then
    some (-1001)
    else
    (if v4 = (-1) then
    (f_X8_isMark v5 b).bind (fun q46 =>
    (if q46 = 0 then
    some (-1002)
    else
    (f_X8_at v1 v2 b).bind (fun q59 =>
    (if v3 = (-1) then
    (if v4 = (-1) then
    (f_X8_canMake ((q59 &&& q59) &&& q59) ((q59 ||| q59) ||| q59) v5).bind (fun q120 =>
    (if q120 = 0 then
    some 0
    else
    some 1))
    else
    (f_X8_at v1 v4 b).bind (fun q97 =>
    (f_X8_canMake ((q59 &&& q59) &&& q97) ((q59 ||| q59) ||| q97) v5).bind (fun q120 =>
    (if q120 = 0 then
    some 0
    else
    some 1))))
    else
    (f_X8_at v1 v3 b).bind (fun q77 =>
    (if v4 = (-1) then
    (f_X8_canMake ((q59 &&& q77) &&& q59) ((q59 ||| q77) ||| q59) v5).bind (fun q120 =>
    (if q120 = 0 then
    some 0
    else
    some 1))
    else
    (f_X8_at v1 v4 b).bind (fun q97 =>
    (f_X8_canMake ((q59 &&& q77) &&& q97) ((q59 ||| q77) ||| q97) v5).bind (fun q120 =>
    (if q120 = 0 then
    some 0
    else
    some 1)))))))))
    else
    (f_X8_isOf v1 v4 b).bind (fun q33 =>
    (if q33 = 0 then
    some (-1001)
    else
    (f_X8_isMark v5 b).bind (fun q46 =>
    (if q46 = 0 then
    some (-1002)
    else
    (f_X8_at v1 v2 b).bind (fun q59 =>
    (if v3 = (-1) then
    (if v4 = (-1) then
    (f_X8_canMake ((q59 &&& q59) &&& q59) ((q59 ||| q59) ||| q59) v5).bind (fun q120 =>
    (if q120 = 0 then
    some 0
    else
    some 1))
    else
    (f_X8_at v1 v4 b).bind (fun q97 =>
    (f_X8_canMake ((q59 &&& q59) &&& q97) ((q59 ||| q59) ||| q97) v5).bind (fun q120 =>
    (if q120 = 0 then
    some 0
    else
    some 1))))
    else
    (f_X8_at v1 v3 b).bind (fun q77 =>
    (if v4 = (-1) then
    (f_X8_canMake ((q59 &&& q77) &&& q59) ((q59 ||| q77) ||| q59) v5).bind (fun q120 =>
    (if q120 = 0 then
    some 0
    else
    some 1))
    else
    (f_X8_at v1 v4 b).bind (fun q97 =>
    (f_X8_canMake ((q59 &&& q77) &&& q97) ((q59 ||| q77) ||| q97) v5).bind (fun q120 =>
    (if q120 = 0 then
    some 0
    else
    some 1)))))))))))))))))

def f_X8_mark (v1 : Int32) (v2 : Int32) (b : xT) : Option Int32 :=
    (f_X8_isList v1).bind (fun q1 =>
    (if q1 = 0 then
    some (-1001)
    else
    (if v2 = (-1) then
    (if v2 = (-1) then
    (if xin v1 6 then
    some ((gA b 45) (Int32.toNatClampNeg v1))
    else none)
    else
    (f_X8_at v1 v2 b).bind (fun q42 =>
    some q42))
    else
    (f_X8_isOf v1 v2 b).bind (fun q15 =>
    (if q15 = 0 then
    some (-1001)
    else
    (if v2 = (-1) then
    (if xin v1 6 then
    some ((gA b 45) (Int32.toNatClampNeg v1))
    else none)
    else
    (f_X8_at v1 v2 b).bind (fun q42 =>
    some q42)))))))

def f_X8_may (N : Nat) (v1 : Int32) (v2 : Int32) (v3 : Int32) (b : xT) : Option Int32 :=
    (f_X8_isMark v1 b).bind (fun q2 =>
    (if q2 = 0 then
    some (-1002)
    else
    (f_X8_isSeen v2 v3 b).bind (fun q11 =>
    (if q11 = 0 then
    some (-1002)
    else
    (f_X8_maySee N v1 v2 v3 b).bind (fun q25 =>
    (if q25 = 0 then
    some 0
    else
    some 1))))))

def f_X8_most (N : Nat) (v1 : Int32) (v2 : Int32) (b : xT) : Option (Int32 × xT) :=
    (f_X8_in (Int32.toInt64 v1) (-1) 5).bind (fun q8 =>
    (if q8 = 0 then
    some ((-1002), b)
    else
    (if (gI b 0) ≤ 5 then
    (f_X8_findMost N v1 b).bind (fun q32 =>
    (if v2 = (-1) then
    some ((gI q32 9), q32)
    else
    (f_X8_in (Int32.toInt64 v2) 0 (Int32.toInt64 ((gI q32 9) - 1))).bind (fun q57 =>
    (if q57 = 0 then
    some ((-1), q32)
    else
    (if xin v2 34 then
    some (((gA q32 49) (Int32.toNatClampNeg v2)), q32)
    else none)))))
    else
    some ((-1005), b))))

def f_X8_owner_L30 (N : Nat) (v1 : Int32) (v2 : Int32) (v3 : Int32) (v4 : Int32) (b : xT) : Nat → Int32 → Int32 → Option ((Int32) ⊕ (Int32))
  | 0, _, _ => none
  | n + 1, v5, v6 =>
    (if xin v1 6 then
    (if ((gA b 45) (Int32.toNatClampNeg v1)) ≤ v6 then
    some (.inl v5)
    else
    (f_X8_at v1 v6 b).bind (fun q46 =>
    (f_X8_maySee N q46 v2 v3 b).bind (fun q51 =>
    (if q51 = 0 then
    f_X8_owner_L30 N v1 v2 v3 v4 b n v5 (v6 + 1)
    else
    (if v5 = v4 then
    some (.inr (v6))
    else
    f_X8_owner_L30 N v1 v2 v3 v4 b n (v5 + 1) (v6 + 1))))))
    else none)

def f_X8_owner (N : Nat) (v1 : Int32) (v2 : Int32) (v3 : Int32) (v4 : Int32) (b : xT) : Option Int32 :=
    (f_X8_isList v1).bind (fun q1 =>
    (if q1 = 0 then
    some (-1001)
    else
    (f_X8_isSeen v2 v3 b).bind (fun q14 =>
    (if q14 = 0 then
    some (-1002)
    else
    (f_X8_owner_L30 N v1 v2 v3 v4 b N 0 0).bind (fun q30 =>
    (Sum.elim (fun z30_76 =>
    (if v4 = (-1) then
    some z30_76
    else
    some (-1))) (fun z30_64 =>
    some z30_64)) q30)))))

def f_X8_places (N : Nat) (v1 : Int32) (b : xT) : Option (Int32 × xT) :=
    (f_X8_in (Int32.toInt64 v1) 2 12).bind (fun q8 =>
    (if q8 = 0 then
    some ((-1002), b)
    else
    (f_X8_empty N (sI b 0 v1)).bind (fun q24 =>
    some ((gI q24 0), q24))))

def f_X8_readWord_L18  : Nat → xT → Option (xT)
  | 0, _ => none
  | n + 1, b =>
    (if (gI b 14) ≤ (gI b 18) then
    some b
    else
    (if xin (gI b 18) 120 then
    (f_X8_in (Int32.toInt64 ((gA b 52) (Int32.toNatClampNeg (gI b 18)))) 97 122).bind (fun q45 =>
    (if q45 = 0 then
    some b
    else
    (if (gJ b 17) ≤ 10000000000 then
    (if xin (gI b 18) 120 then
    f_X8_readWord_L18 n (sI (sJ b 17 (((27 * (gJ b 17)) + (Int32.toInt64 ((gA b 52) (Int32.toNatClampNeg (gI b 18))))) - 96)) 18 ((gI b 18) + 1))
    else none)
    else
    f_X8_readWord_L18 n (sI (sJ b 17 20000000000) 18 ((gI b 18) + 1)))))
    else none))

def f_X8_readWord (N : Nat) (b : xT) : Option xT :=
    (f_X8_here N b).bind (fun q1 =>
    (f_X8_readWord_L18 N (sI (sJ q1.2 17 0) 18 (gI q1.2 16))).bind (fun q18 =>
    some q18))

def f_X8_step (v1 : Int32) (v2 : Int32) (b : xT) : Option xT :=
    (if xin (gI b 20) 130 then
    (if xin (gI b 20) 130 then
    some (sI (sA (sA b 53 (upd (gA b 53) (Int32.toNatClampNeg (gI b 20)) v1)) 54 (upd (gA b 54) (Int32.toNatClampNeg (gI b 20)) v2)) 20 ((gI b 20) + 1))
    else none)
    else none)

def f_X8_work_L0 (v1 : Int32) : Nat → xT → Option (xT)
  | 0, _ => none
  | n + 1, b =>
    (if (gI b 23) ≤ 0 then
    some b
    else
    (if xin ((gI b 23) - 1) 130 then
    (if ((gA b 55) (Int32.toNatClampNeg ((gI b 23) - 1))) = 3 then
    some b
    else
    (if xin ((gI b 23) - 1) 130 then
    (if ((gA b 55) (Int32.toNatClampNeg ((gI b 23) - 1))) < v1 then
    some b
    else
    (if xin ((gI b 23) - 1) 130 then
    (f_X8_step ((gA b 55) (Int32.toNatClampNeg ((gI b 23) - 1))) 0 (sI b 23 ((gI b 23) - 1))).bind (fun q58 =>
    f_X8_work_L0 v1 n q58)
    else none))
    else none))
    else none))

def f_X8_work (N : Nat) (v1 : Int32) (b : xT) : Option xT :=
    (f_X8_work_L0 v1 N b).bind (fun q0 =>
    some q0)

def f_X8_readBehind (N : Nat) (b : xT) : Option (Int32 × xT) :=
    (f_X8_readWord N b).bind (fun q1 =>
    (f_X8_code 97 110 100 0 0).bind (fun q16 =>
    (if (gJ q1 17) = q16 then
    (f_X8_work N 1 (sI q1 16 (gI q1 18))).bind (fun q69 =>
    (f_X8_hold 1 q69).bind (fun q82 =>
    some (0, (sI q82 26 1))))
    else
    (f_X8_code 111 114 0 0 0).bind (fun q44 =>
    (if (gJ q1 17) = q44 then
    (f_X8_work N 0 (sI q1 16 (gI q1 18))).bind (fun q69 =>
    (f_X8_hold 0 q69).bind (fun q82 =>
    some (0, (sI q82 26 1))))
    else
    (f_X8_here N q1).bind (fun q93 =>
    (if q93.1 = 41 then
    (if (gI q93.2 25) ≤ 0 then
    (f_X8_fails 1 (gI q93.2 16) q93.2).bind (fun q156 =>
    some (q156.1, q156.2))
    else
    (f_X8_work N 0 (sI (sI q93.2 16 ((gI q93.2 16) + 1)) 25 ((gI q93.2 25) - 1))).bind (fun q130 =>
    (f_X8_work N 2 (sI q130 23 ((gI q130 23) - 1))).bind (fun q145 =>
    some (0, q145))))
    else
    (f_X8_fails 1 (gI q93.2 16) q93.2).bind (fun q156 =>
    some (q156.1, q156.2)))))))))

def f_X8_readNumber_L40 (v1 : Int32) (v2 : Int32) (v4 : Int32) : Nat → xT → Option (xT)
  | 0, _ => none
  | n + 1, b =>
    (if (gI b 14) ≤ (gI b 16) then
    some b
    else
    (if xin (gI b 16) 120 then
    (f_X8_in (Int32.toInt64 ((gA b 52) (Int32.toNatClampNeg (gI b 16)))) 48 57).bind (fun q67 =>
    (if q67 = 0 then
    some b
    else
    (if (gI b 19) ≤ 10000 then
    (if xin (gI b 16) 120 then
    f_X8_readNumber_L40 v1 v2 v4 n (sI (sI b 19 (((10 * (gI b 19)) + ((gA b 52) (Int32.toNatClampNeg (gI b 16)))) - 48)) 16 ((gI b 16) + 1))
    else none)
    else
    f_X8_readNumber_L40 v1 v2 v4 n (sI (sI b 19 (gI b 19)) 16 ((gI b 16) + 1)))))
    else none))

def f_X8_readNumber (N : Nat) (v1 : Int32) (v2 : Int32) (b : xT) : Option (Int32 × xT) :=
    (f_X8_here N b).bind (fun q1 =>
    (f_X8_in (Int32.toInt64 q1.1) 48 57).bind (fun q13 =>
    (if q13 = 0 then
    (f_X8_fails 1 (gI q1.2 16) q1.2).bind (fun q25 =>
    some (q25.1, q25.2))
    else
    (f_X8_readNumber_L40 v1 v2 (gI q1.2 16) N (sI q1.2 19 0)).bind (fun q40 =>
    (if 2 < ((gI q40 16) - (gI q1.2 16)) then
    (f_X8_fails 2 (gI q1.2 16) q40).bind (fun q157 =>
    some (q157.1, q157.2))
    else
    (f_X8_in (Int32.toInt64 (gI q40 19)) (Int32.toInt64 v1) (Int32.toInt64 v2)).bind (fun q147 =>
    (if q147 = 0 then
    (f_X8_fails 2 (gI q1.2 16) q40).bind (fun q157 =>
    some (q157.1, q157.2))
    else
    some (0, q40))))))))

def f_X8_readSum (N : Nat) (b : xT) : Option (Int32 × xT) :=
    (f_X8_readNumber N 0 98 b).bind (fun q4 =>
    (if q4.1 ≤ 0 then
    (f_X8_readWord N q4.2).bind (fun q20 =>
    (f_X8_code 111 102 0 0 0).bind (fun q34 =>
    (if (gJ q20 17) = q34 then
    (f_X8_readNumber N 1 99 (sI q20 16 (gI q20 18))).bind (fun q63 =>
    some (q63.1, (sI q63.2 19 ((100 * (gI q4.2 19)) + (gI q63.2 19)))))
    else
    (f_X8_fails 1 (gI q20 16) q20).bind (fun q47 =>
    some (q47.1, q47.2)))))
    else
    some (q4.1, q4.2)))

def f_X8_readLeaf (N : Nat) (b : xT) : Option (Int32 × xT) :=
    (f_X8_code 112 105 110 115 0).bind (fun q13 =>
    (if (gJ b 17) = q13 then
    (f_X8_readNumber N 0 12 (sI b 16 (gI b 18))).bind (fun q214 =>
    (if q214.1 = 0 then
    (f_X8_step 3 (gI q214.2 19) q214.2).bind (fun q228 =>
    (f_X8_work N 2 q228).bind (fun q233 =>
    some (q214.1, (sI q233 26 0))))
    else
    some (q214.1, q214.2)))
    else
    (f_X8_code 115 117 109 0 0).bind (fun q36 =>
    (if (gJ b 17) = q36 then
    (f_X8_readSum N (sI b 16 (gI b 18))).bind (fun q184 =>
    (if q184.1 = 0 then
    (f_X8_step 4 (gI q184.2 19) q184.2).bind (fun q228 =>
    (f_X8_work N 2 q228).bind (fun q233 =>
    some (q184.1, (sI q233 26 0))))
    else
    some (q184.1, q184.2)))
    else
    (f_X8_code 104 97 115 0 0).bind (fun q59 =>
    (if (gJ b 17) = q59 then
    (f_X8_readNumber N 0 11 (sI b 16 (gI b 18))).bind (fun q214 =>
    (if q214.1 = 0 then
    (f_X8_step 5 (gI q214.2 19) q214.2).bind (fun q228 =>
    (f_X8_work N 2 q228).bind (fun q233 =>
    some (q214.1, (sI q233 26 0))))
    else
    some (q214.1, q214.2)))
    else
    (f_X8_code 114 117 110 115 0).bind (fun q83 =>
    (if (gJ b 17) = q83 then
    (f_X8_readNumber N 0 12 (sI b 16 (gI b 18))).bind (fun q214 =>
    (if q214.1 = 0 then
    (f_X8_step 6 (gI q214.2 19) q214.2).bind (fun q228 =>
    (f_X8_work N 2 q228).bind (fun q233 =>
    some (q214.1, (sI q233 26 0))))
    else
    some (q214.1, q214.2)))
    else
    (f_X8_code 116 117 114 110 115).bind (fun q109 =>
    (if (gJ b 17) = q109 then
    (f_X8_step 7 (gI b 19) (sI b 16 (gI b 18))).bind (fun q228 =>
    (f_X8_work N 2 q228).bind (fun q233 =>
    some (0, (sI q233 26 0))))
    else
    (f_X8_code 105 110 0 0 0).bind (fun q132 =>
    (if (gJ b 17) = q132 then
    (f_X8_readNumber N 0 5 (sI b 16 (gI b 18))).bind (fun q214 =>
    (if q214.1 = 0 then
    (f_X8_step 8 (gI q214.2 19) q214.2).bind (fun q228 =>
    (f_X8_work N 2 q228).bind (fun q233 =>
    some (q214.1, (sI q233 26 0))))
    else
    some (q214.1, q214.2)))
    else
    (f_X8_fails 1 (gI b 16) b).bind (fun q156 =>
    some (q156.1, q156.2))))))))))))))

def f_X8_readOne (N : Nat) (b : xT) : Option (Int32 × xT) :=
    (f_X8_readWord N b).bind (fun q1 =>
    (f_X8_code 110 111 116 0 0).bind (fun q16 =>
    (if (gJ q1 17) = q16 then
    (f_X8_hold 2 (sI q1 16 (gI q1 18))).bind (fun q33 =>
    some (0, q33))
    else
    (f_X8_here N q1).bind (fun q39 =>
    (if q39.1 = 40 then
    (if (gI q39.2 25) = 4 then
    (f_X8_fails 3 (gI q39.2 16) q39.2).bind (fun q61 =>
    some (q61.1, q61.2))
    else
    (f_X8_hold 3 (sI (sI q39.2 25 ((gI q39.2 25) + 1)) 16 ((gI q39.2 16) + 1))).bind (fun q87 =>
    some (0, q87)))
    else
    (f_X8_readLeaf N q39.2).bind (fun q93 =>
    some (q93.1, q93.2)))))))

def f_X8_read_L43 (N : Nat) (v1 : Int32) : Nat → Int32 → xT → Option (Int32 × xT)
  | 0, _, _ => none
  | n + 1, v2, b =>
    (if v2 = 0 then
    (if (gI b 26) = 0 then
    (if 0 < (gI b 25) then
    (if (gI b 26) = 0 then
    (f_X8_readBehind N b).bind (fun q83 =>
    f_X8_read_L43 N v1 n q83.1 q83.2)
    else
    (f_X8_readOne N b).bind (fun q76 =>
    f_X8_read_L43 N v1 n q76.1 q76.2))
    else
    (f_X8_here N b).bind (fun q62 =>
    (if q62.1 < 0 then
    some (v2, q62.2)
    else
    (if (gI q62.2 26) = 0 then
    (f_X8_readBehind N q62.2).bind (fun q83 =>
    f_X8_read_L43 N v1 n q83.1 q83.2)
    else
    (f_X8_readOne N q62.2).bind (fun q76 =>
    f_X8_read_L43 N v1 n q76.1 q76.2)))))
    else
    (if (gI b 26) = 0 then
    (f_X8_readBehind N b).bind (fun q83 =>
    f_X8_read_L43 N v1 n q83.1 q83.2)
    else
    (f_X8_readOne N b).bind (fun q76 =>
    f_X8_read_L43 N v1 n q76.1 q76.2)))
    else
    some (v2, b))

def f_X8_read_L116 (N : Nat) (v1 : Int32) : Nat → Int32 → xT → Option (xT)
  | 0, _, _ => none
  | n + 1, v3, b =>
    (if ((1 : Int32) <<< ((gI b 0) &&& 31)) ≤ v3 then
    some b
    else
    (if 64 < (gI b 11) then
    f_X8_read_L116 N v1 n (v3 + 1) b
    else
    (f_X8_holds N v3 b).bind (fun q137 =>
    (if q137.1 = 0 then
    f_X8_read_L116 N v1 n (v3 + 1) q137.2
    else
    (if xin (gI q137.2 11) 4096 then
    f_X8_read_L116 N v1 n (v3 + 1) (sI (sA q137.2 51 (upd (gA q137.2 51) (Int32.toNatClampNeg (gI q137.2 11)) v3)) 11 ((gI q137.2 11) + 1))
    else none)))))

def f_X8_read (N : Nat) (v1 : Int32) (b : xT) : Option (Int32 × xT) :=
    (f_X8_isList v1).bind (fun q1 =>
    (if q1 = 0 then
    some ((-1001), b)
    else
    (f_X8_read_L43 N v1 N 0 (sI (sI (sI (sI (sI (sI b 15 (-1)) 16 0) 20 0) 23 0) 25 0) 26 1)).bind (fun q43 =>
    (if (q43.1) ≤ 0 then
    (f_X8_work N 0 (sI (q43.2) 14 0)).bind (fun q106 =>
    (f_X8_read_L116 N v1 N 0 (sI q106 11 0)).bind (fun q116 =>
    (if (gI q116 11) ≤ 64 then
    (f_X8_keep N v1 q116).bind (fun q186 =>
    some (q186.1, q186.2))
    else
    some ((-1005), q116))))
    else
    some (((-10) - (q43.1)), (sI (q43.2) 14 0))))))

def f_X8_shorten_L46 (N : Nat) (v1 : Int32) (v2 : Int32) (v3 : Int32) : Nat → Int32 → xT → Option (xT)
  | 0, _, _ => none
  | n + 1, v4, b =>
    (if xin v2 6 then
    (if ((gA b 45) (Int32.toNatClampNeg v2)) ≤ v4 then
    some b
    else
    (f_X8_at v2 v4 b).bind (fun q61 =>
    (f_X8_come N ((q61 &&& (((1 : Int32) <<< (v3 &&& 31)) - 1)) ||| ((q61 >>> ((v3 + 1) &&& 31)) <<< (v3 &&& 31))) b).bind (fun q84 =>
    f_X8_shorten_L46 N v1 v2 v3 n (v4 + 1) q84)))
    else none)

def f_X8_shorten (N : Nat) (v1 : Int32) (v2 : Int32) (v3 : Int32) (b : xT) : Option (Int32 × xT) :=
    (f_X8_isList v1).bind (fun q1 =>
    (if q1 = 0 then
    some ((-1001), b)
    else
    (f_X8_isList v2).bind (fun q8 =>
    (if q8 = 0 then
    some ((-1001), b)
    else
    (f_X8_in (Int32.toInt64 v3) 0 (Int32.toInt64 ((gI b 0) - 1))).bind (fun q28 =>
    (if q28 = 0 then
    some ((-1002), b)
    else
    (f_X8_shorten_L46 N v1 v2 v3 N 0 (sI b 11 0)).bind (fun q46 =>
    (f_X8_keep N v1 q46).bind (fun q95 =>
    some (q95.1, q95.2)))))))))

def f_X8_trace_L51 (v4 : Int32) (b : xT) : Nat → Int32 → Int32 → Option (Int32)
  | 0, _, _ => none
  | n + 1, v5, v6 =>
    (if 64 ≤ v6 then
    some v5
    else
    (some (v5 + (Int64.toInt32 (((gJ b 34) >>> ((v6 : Int32).toInt64 &&& 63)) &&& 1)))).bind (fun w71 =>
    f_X8_trace_L51 v4 b n w71 (v6 + 1)))

def f_X8_trace (N : Nat) (v1 : Int32) (v2 : Int32) (v3 : Int32) (v4 : Int32) (b : xT) : Option (Int32 × xT) :=
    (f_X8_isList v1).bind (fun q1 =>
    (if q1 = 0 then
    some ((-1001), b)
    else
    (f_X8_isAsked v1 v2 v3 b).bind (fun q15 =>
    (if q15 = 0 then
    some ((-1002), b)
    else
    (f_X8_in (Int32.toInt64 v4) 0 2).bind (fun q28 =>
    (if q28 = 0 then
    some ((-1002), b)
    else
    (f_X8_findRings N v1 v2 v3 b).bind (fun q42 =>
    (f_X8_trace_L51 v4 q42 N 0 0).bind (fun q51 =>
    (if v4 = 0 then
    some ((gI q42 32), q42)
    else
    (if v4 = 1 then
    some ((gI q42 33), q42)
    else
    (if (gI q42 32) = 0 then
    some ((-1), q42)
    else
    some (q51, q42))))))))))))

def f_X8_turn_L25 (N : Nat) (v1 : Int32) (v2 : Int32) : Nat → Int32 → xT → Option (xT)
  | 0, _, _ => none
  | n + 1, v3, b =>
    (if xin v2 6 then
    (if ((gA b 45) (Int32.toNatClampNeg v2)) ≤ v3 then
    some b
    else
    (f_X8_at v2 v3 b).bind (fun q40 =>
    (f_X8_turnedOf N q40 b).bind (fun q43 =>
    (f_X8_come N q43 b).bind (fun q46 =>
    f_X8_turn_L25 N v1 v2 n (v3 + 1) q46))))
    else none)

def f_X8_turn (N : Nat) (v1 : Int32) (v2 : Int32) (b : xT) : Option (Int32 × xT) :=
    (f_X8_isList v1).bind (fun q1 =>
    (if q1 = 0 then
    some ((-1001), b)
    else
    (f_X8_isList v2).bind (fun q8 =>
    (if q8 = 0 then
    some ((-1001), b)
    else
    (f_X8_turn_L25 N v1 v2 N 0 (sI b 11 0)).bind (fun q25 =>
    (f_X8_keep N v1 q25).bind (fun q57 =>
    some (q57.1, q57.2)))))))

def f_X8_turned (N : Nat) (v1 : Int32) (b : xT) : Option Int32 :=
    (f_X8_isMark v1 b).bind (fun q2 =>
    (if q2 = 0 then
    some (-1002)
    else
    (f_X8_turnedOf N v1 b).bind (fun q10 =>
    some q10)))
