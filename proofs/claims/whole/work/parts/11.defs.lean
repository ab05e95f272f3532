def fX0_forget (c_plainKnown : Int32) (c_exampleKey : Int32) : Option (Int32 × Int32) :=
some (0, (-1))
def fX10_put (n : Nat) (c_costs : (Nat → Int32)) (c_highs : (Nat → Int64)) (c_lows : (Nat → Int64)) (p1 : Int32) (p2 : Int32) (p3 : Int64) (p5 : Int64) : Option ((Nat → Int32) × (Nat → Int64) × (Nat → Int64)) :=
(as_ c_costs n p1 p2).bind fun f1 =>
(asL c_highs n p1 p3).bind fun f2 =>
(asL c_lows n p1 p5).bind fun f3 =>
some (f1, f2, f3)
def fX10_putNone (n : Nat) (c_costs : (Nat → Int32)) (c_highs : (Nat → Int64)) (c_lows : (Nat → Int64)) (p1 : Int32) : Option ((Nat → Int32) × (Nat → Int64) × (Nat → Int64)) :=
bd3 (fX10_put n c_costs c_highs c_lows p1 41984 0 0) fun o1 o2 o3 =>
some (o1, o2, o3)
def bX0_forgetKind_2 (p1 : Int32) (k4 : ((Nat → Int32) → (Nat → Int64) → (Nat → Int64) → Option ((Nat → Int32) × (Nat → Int64) × (Nat → Int64)))) (rc9 : Int32 → (Nat → Int32) → (Nat → Int64) → (Nat → Int64) → Option ((Nat → Int32) × (Nat → Int64) × (Nat → Int64))) (v5 : Int32) (v6 : (Nat → Int32)) (v7 : (Nat → Int64)) (v8 : (Nat → Int64)) : Option ((Nat → Int32) × (Nat → Int64) × (Nat → Int64)) :=
if 18 ≤ v5 then (k4 v6 v7 v8) else (bd3 (fX10_putNone 362 v6 v7 v8 (p1 + v5)) fun o10 o11 o12 =>
lt_ (v5 + 1) fun x13 =>
rc9 x13 o10 o11 o12)
def fX0_forgetKind (N : Nat) (c_words_costs : (Nat → Int32)) (c_words_highs : (Nat → Int64)) (c_words_lows : (Nat → Int64)) (p1 : Int32) : Option ((Nat → Int32) × (Nat → Int64) × (Nat → Int64)) :=
jn3 (fun (v1 : (Nat → Int32)) (v2 : (Nat → Int64)) (v3 : (Nat → Int64)) => some (v1, v2, v3)) fun k4 =>
itr4 (bX0_forgetKind_2 p1 k4) N 0 c_words_costs c_words_highs c_words_lows
def fX10_putTerminal (n : Nat) (c_costs : (Nat → Int32)) (c_highs : (Nat → Int64)) (c_lows : (Nat → Int64)) (p1 : Int32) (p2 : Int32) (p3 : Int32) : Option ((Nat → Int32) × (Nat → Int64) × (Nat → Int64)) :=
bd3 (fX10_put n c_costs c_highs c_lows p1 ((1024 : Int32) + p3) 0 ((p2 : Int32).toInt64)) fun o1 o2 o3 =>
some (o1, o2, o3)
def fX6_lengthOf (p0 : Int32) : Option (Int32) :=
some ((p0 >>> ((3 : Int32) &&& (31 : Int32))) &&& (7 : Int32))
def fX0_plainTail (p0 : Int32) (p1 : Int32) : Option (Int32) :=
some (((74 : Int32) + (p0 * (6 : Int32))) + p1)
def fX10_putEmpty (n : Nat) (c_costs : (Nat → Int32)) (c_highs : (Nat → Int64)) (c_lows : (Nat → Int64)) (p1 : Int32) : Option ((Nat → Int32) × (Nat → Int64) × (Nat → Int64)) :=
bd3 (fX10_put n c_costs c_highs c_lows p1 0 0 0) fun o1 o2 o3 =>
some (o1, o2, o3)
def fX6_symbolOf (p0 : Int32) (p1 : Int32) : Option (Int32) :=
some ((p0 >>> (((6 : Int32) + ((5 : Int32) * p1)) &&& (31 : Int32))) &&& (31 : Int32))
def fX10_putCopy (n : Nat) (c_costs : (Nat → Int32)) (c_highs : (Nat → Int64)) (c_lows : (Nat → Int64)) (p1 : Int32) (p2 : Int32) : Option ((Nat → Int32) × (Nat → Int64) × (Nat → Int64)) :=
(ag c_costs n p2).bind fun x1 =>
(agL c_highs n p2).bind fun x2 =>
(agL c_lows n p2).bind fun x3 =>
bd3 (fX10_put n c_costs c_highs c_lows p1 x1 x2 x3) fun o4 o5 o6 =>
some (o4, o5, o6)
def fX10_joinedHigh (n : Nat) (c_costs : (Nat → Int32)) (c_highs : (Nat → Int64)) (c_lows : (Nat → Int64)) (p1 : Int32) (p2 : Int32) : Option (Int64) :=
(ag c_costs n p2).bind fun x1 =>
lt_ ((3 : Int32) * (x1 >>> ((10 : Int32) &&& (31 : Int32)))) fun x2 =>
if x2 < 60 then ((agL c_highs n p1).bind fun x3 =>
(agL c_lows n p1).bind fun x4 =>
(agL c_highs n p2).bind fun x5 =>
some (((x3 <<< ((x2 : Int32).toInt64 &&& (63 : Int64))) ||| (x4 >>> ((((60 : Int32) - x2) : Int32).toInt64 &&& (63 : Int64)))) ||| x5)) else ((agL c_lows n p1).bind fun x6 =>
(agL c_highs n p2).bind fun x7 =>
some ((x6 <<< (((x2 - (60 : Int32)) : Int32).toInt64 &&& (63 : Int64))) ||| x7))
def fX10_joinedLow (n : Nat) (c_costs : (Nat → Int32)) (c_lows : (Nat → Int64)) (p1 : Int32) (p2 : Int32) : Option (Int64) :=
(ag c_costs n p2).bind fun x1 =>
lt_ ((3 : Int32) * (x1 >>> ((10 : Int32) &&& (31 : Int32)))) fun x2 =>
if x2 < 60 then ((agL c_lows n p1).bind fun x3 =>
(agL c_lows n p2).bind fun x4 =>
some (((x3 <<< ((x2 : Int32).toInt64 &&& (63 : Int64))) &&& (1152921504606846975 : Int64)) ||| x4)) else ((agL c_lows n p2).bind fun x5 =>
some x5)
def fX10_append (n : Nat) (c_costs : (Nat → Int32)) (c_highs : (Nat → Int64)) (c_lows : (Nat → Int64)) (p1 : Int32) (p2 : Int32) : Option ((Nat → Int32) × (Nat → Int64) × (Nat → Int64)) :=
(ag c_costs n p1).bind fun x1 =>
(ag c_costs n p2).bind fun x2 =>
lt_ (x1 + x2) fun x3 =>
jn3 (fun (v4 : (Nat → Int32)) (v5 : (Nat → Int64)) (v6 : (Nat → Int64)) => some (v4, v5, v6)) fun k7 =>
if x3 < 41984 then ((fX10_joinedHigh n c_costs c_highs c_lows p1 p2).bind fun x8 =>
(fX10_joinedLow n c_costs c_lows p1 p2).bind fun x9 =>
bd3 (fX10_put n c_costs c_highs c_lows p1 x3 x8 x9) fun o10 o11 o12 =>
k7 o10 o11 o12) else (bd3 (fX10_put n c_costs c_highs c_lows p1 41984 0 0) fun o13 o14 o15 =>
k7 o13 o14 o15)
def bX0_putPlainTails_32 (p1 : Int32) (x1 : Int32) (k11 : ((Nat → Int32) → (Nat → Int64) → (Nat → Int64) → Option ((Nat → Int32) × (Nat → Int64) × (Nat → Int64)))) (rc16 : Int32 → (Nat → Int32) → (Nat → Int64) → (Nat → Int64) → Option ((Nat → Int32) × (Nat → Int64) × (Nat → Int64))) (v12 : Int32) (v13 : (Nat → Int32)) (v14 : (Nat → Int64)) (v15 : (Nat → Int64)) : Option ((Nat → Int32) × (Nat → Int64) × (Nat → Int64)) :=
if v12 < 0 then (k11 v13 v14 v15) else ((fX0_plainTail p1 v12).bind fun x17 =>
(fX6_symbolOf x1 v12).bind fun x18 =>
bd3 (fX10_putCopy 362 v13 v14 v15 x17 ((0 : Int32) + x18)) fun o19 o20 o21 =>
(fX0_plainTail p1 v12).bind fun x22 =>
(fX0_plainTail p1 (v12 + (1 : Int32))).bind fun x23 =>
bd3 (fX10_append 362 o19 o20 o21 x22 x23) fun o24 o25 o26 =>
lt_ (v12 + (-1)) fun x27 =>
rc16 x27 o24 o25 o26)
def fX0_putPlainTails (N : Nat) (c_rules_codes : (Nat → Int32)) (c_words_costs : (Nat → Int32)) (c_words_highs : (Nat → Int64)) (c_words_lows : (Nat → Int64)) (p1 : Int32) : Option ((Nat → Int32) × (Nat → Int64) × (Nat → Int64)) :=
(ag c_rules_codes 24 p1).bind fun x1 =>
(fX6_lengthOf x1).bind fun x2 =>
(fX0_plainTail p1 x2).bind fun x3 =>
bd3 (fX10_putEmpty 362 c_words_costs c_words_highs c_words_lows x3) fun o4 o5 o6 =>
lt_ (x2 - (1 : Int32)) fun x7 =>
jn3 (fun (v8 : (Nat → Int32)) (v9 : (Nat → Int64)) (v10 : (Nat → Int64)) => some (v8, v9, v10)) fun k11 =>
itr4 (bX0_putPlainTails_32 p1 x1 k11) N x7 o4 o5 o6
def fX6_leftOf (p0 : Int32) : Option (Int32) :=
some (p0 &&& (7 : Int32))
def fX0_leftSymbol (c_rules_codes : (Nat → Int32)) (p1 : Int32) : Option (Int32) :=
(ag c_rules_codes 24 p1).bind fun x1 =>
(fX6_leftOf x1).bind fun x2 =>
some ((10 : Int32) + x2)
def fX10_isLess (n : Nat) (c_costs : (Nat → Int32)) (c_highs : (Nat → Int64)) (c_lows : (Nat → Int64)) (p1 : Int32) (p2 : Int32) (p3 : Int64) (p5 : Int64) : Option (Int32) :=
(ag c_costs n p1).bind fun x1 =>
if p2 = x1 then ((agL c_highs n p1).bind fun x2 =>
if (lg_cmp p3 x2) = 0 then ((agL c_lows n p1).bind fun x3 =>
jn_ (fun (v4 : Int32) => gz v4 (some v4)) fun k5 =>
if 0 ≤ (lg_cmp p5 x3) then (k5 0) else (k5 1)) else ((agL c_highs n p1).bind fun x6 =>
jn_ (fun (v7 : Int32) => gz v7 (some v7)) fun k8 =>
if 0 ≤ (lg_cmp p3 x6) then (k8 0) else (k8 1))) else ((ag c_costs n p1).bind fun x9 =>
jn_ (fun (v10 : Int32) => gz v10 (some v10)) fun k11 =>
if x9 ≤ p2 then (k11 0) else (k11 1))
def fX10_lower (n : Nat) (c_costs : (Nat → Int32)) (c_highs : (Nat → Int64)) (c_lows : (Nat → Int64)) (p1 : Int32) (p2 : Int32) : Option (Int32 × (Nat → Int32) × (Nat → Int64) × (Nat → Int64)) :=
(ag c_costs n p2).bind fun x1 =>
(agL c_highs n p2).bind fun x2 =>
(agL c_lows n p2).bind fun x3 =>
(fX10_isLess n c_costs c_highs c_lows p1 x1 x2 x3).bind fun x4 =>
if x4 = 0 then (some (0, c_costs, c_highs, c_lows)) else ((ag c_costs n p2).bind fun x5 =>
(agL c_highs n p2).bind fun x6 =>
(agL c_lows n p2).bind fun x7 =>
bd3 (fX10_put n c_costs c_highs c_lows p1 x5 x6 x7) fun o8 o9 o10 =>
some (1, o8, o9, o10))
def bX0_findPlain_58 (N : Nat) (c_rules_codes : (Nat → Int32)) (c_rules_count : Int32) (k22 : (Int32 → (Nat → Int32) → (Nat → Int64) → (Nat → Int64) → Option ((Nat → Int32) × (Nat → Int64) × (Nat → Int64) × Int32))) (rc28 : Int32 → Int32 → (Nat → Int32) → (Nat → Int64) → (Nat → Int64) → Option ((Nat → Int32) × (Nat → Int64) × (Nat → Int64) × Int32)) (v23 : Int32) (v24 : Int32) (v25 : (Nat → Int32)) (v26 : (Nat → Int64)) (v27 : (Nat → Int64)) : Option ((Nat → Int32) × (Nat → Int64) × (Nat → Int64) × Int32) :=
if c_rules_count ≤ v24 then (k22 v23 v25 v26 v27) else (bd3 (fX0_putPlainTails N c_rules_codes v25 v26 v27 v24) fun o29 o30 o31 =>
(fX0_leftSymbol c_rules_codes v24).bind fun x32 =>
(fX0_plainTail v24 0).bind fun x33 =>
bd4 (fX10_lower 362 o29 o30 o31 ((0 : Int32) + x32) x33) fun o37 o34 o35 o36 =>
jn_ (fun (v38 : Int32) => lt_ (v24 + 1) fun x39 =>
rc28 v38 x39 o34 o35 o36) fun k40 =>
jn_ (fun (v41 : Unit) => k40 1) fun k42 =>
if o37 = 0 then (if v23 = 0 then (k40 0) else (k42 ())) else (k42 ()))
def bX0_findPlain_43 (N : Nat) (c_rules_codes : (Nat → Int32)) (c_rules_count : Int32) (k10 : ((Nat → Int32) → (Nat → Int64) → (Nat → Int64) → Option ((Nat → Int32) × (Nat → Int64) × (Nat → Int64) × Int32))) (rc16 : Int32 → Int32 → (Nat → Int32) → (Nat → Int64) → (Nat → Int64) → Option ((Nat → Int32) × (Nat → Int64) × (Nat → Int64) × Int32)) (v11 : Int32) (v12 : Int32) (v13 : (Nat → Int32)) (v14 : (Nat → Int64)) (v15 : (Nat → Int64)) : Option ((Nat → Int32) × (Nat → Int64) × (Nat → Int64) × Int32) :=
if 1000 ≤ v12 then (k10 v13 v14 v15) else (if v11 = 0 then (k10 v13 v14 v15) else (jn4 (fun (v17 : Int32) (v18 : (Nat → Int32)) (v19 : (Nat → Int64)) (v20 : (Nat → Int64)) => lt_ (v12 + 1) fun x21 =>
rc16 v17 x21 v18 v19 v20) fun k22 =>
itr5 (bX0_findPlain_58 N c_rules_codes c_rules_count k22) N 0 0 v13 v14 v15))
def bX0_findPlain_15 (k50 : ((Nat → Int32) → (Nat → Int64) → (Nat → Int64) → Option ((Nat → Int32) × (Nat → Int64) × (Nat → Int64) × Int32))) (rc55 : Int32 → (Nat → Int32) → (Nat → Int64) → (Nat → Int64) → Option ((Nat → Int32) × (Nat → Int64) × (Nat → Int64) × Int32)) (v51 : Int32) (v52 : (Nat → Int32)) (v53 : (Nat → Int64)) (v54 : (Nat → Int64)) : Option ((Nat → Int32) × (Nat → Int64) × (Nat → Int64) × Int32) :=
if 8 ≤ v51 then (k50 v52 v53 v54) else (bd3 (fX10_putTerminal 362 v52 v53 v54 ((0 : Int32) + v51) v51 0) fun o56 o57 o58 =>
lt_ (v51 + 1) fun x59 =>
rc55 x59 o56 o57 o58)
def fX0_findPlain (N : Nat) (c_rules_codes : (Nat → Int32)) (c_rules_count : Int32) (c_words_costs : (Nat → Int32)) (c_words_highs : (Nat → Int64)) (c_words_lows : (Nat → Int64)) (c_plainKnown : Int32) : Option ((Nat → Int32) × (Nat → Int64) × (Nat → Int64) × Int32) :=
if c_plainKnown = 0 then (bd3 (fX0_forgetKind N c_words_costs c_words_highs c_words_lows 0) fun o1 o2 o3 =>
jn3 (fun (v4 : (Nat → Int32)) (v5 : (Nat → Int64)) (v6 : (Nat → Int64)) => jn3 (fun (v7 : (Nat → Int32)) (v8 : (Nat → Int64)) (v9 : (Nat → Int64)) => some (v7, v8, v9, 1)) fun k10 =>
itr5 (bX0_findPlain_43 N c_rules_codes c_rules_count k10) N 1 0 v4 v5 v6) fun k50 =>
itr4 (bX0_findPlain_15 k50) N 0 o1 o2 o3) else (some (c_words_costs, c_words_highs, c_words_lows, c_plainKnown))
def fX0_shortestWord (N : Nat) (c_rules_codes : (Nat → Int32)) (c_rules_count : Int32) (c_words_costs : (Nat → Int32)) (c_words_highs : (Nat → Int64)) (c_words_lows : (Nat → Int64)) (c_plainKnown : Int32) (p1 : Int32) : Option (Int32 × (Nat → Int32) × (Nat → Int64) × (Nat → Int64) × Int32) :=
bd4 (fX0_findPlain N c_rules_codes c_rules_count c_words_costs c_words_highs c_words_lows c_plainKnown) fun o1 o2 o3 o4 =>
some (((10 : Int32) + p1), o1, o2, o3, o4)
def fX6_has (c_count : Int32) (p1 : Int32) : Option (Int32) :=
jn_ (fun (v1 : Int32) => gz v1 (some v1)) fun k2 =>
jn_ (fun (v3 : Unit) => k2 0) fun k4 =>
if p1 < 0 then (k4 ()) else (if c_count ≤ p1 then (k4 ()) else (k2 1))
def fX0_startingTail (p0 : Int32) (p1 : Int32) : Option (Int32) :=
some (((218 : Int32) + (p0 * (6 : Int32))) + p1)
def fX10_isEmpty (n : Nat) (c_costs : (Nat → Int32)) (p1 : Int32) : Option (Int32) :=
(ag c_costs n p1).bind fun x1 =>
jn_ (fun (v2 : Int32) => gz v2 (some v2)) fun k3 =>
if x1 = 0 then (k3 1) else (k3 0)
def bX0_putStartingTails_32 (p1 : Int32) (x1 : Int32) (k11 : ((Nat → Int32) → (Nat → Int64) → (Nat → Int64) → Option ((Nat → Int32) × (Nat → Int64) × (Nat → Int64)))) (rc16 : Int32 → (Nat → Int32) → (Nat → Int64) → (Nat → Int64) → Option ((Nat → Int32) × (Nat → Int64) × (Nat → Int64))) (v12 : Int32) (v13 : (Nat → Int32)) (v14 : (Nat → Int64)) (v15 : (Nat → Int64)) : Option ((Nat → Int32) × (Nat → Int64) × (Nat → Int64)) :=
if v12 < 0 then (k11 v13 v14 v15) else ((fX6_symbolOf x1 v12).bind fun x17 =>
(fX0_startingTail p1 v12).bind fun x18 =>
bd3 (fX10_putCopy 362 v13 v14 v15 x18 ((18 : Int32) + x17)) fun o19 o20 o21 =>
(fX0_startingTail p1 v12).bind fun x22 =>
(fX0_plainTail p1 (v12 + (1 : Int32))).bind fun x23 =>
bd3 (fX10_append 362 o19 o20 o21 x22 x23) fun o24 o25 o26 =>
(fX10_isEmpty 362 o24 ((0 : Int32) + x17)).bind fun x27 =>
jn3 (fun (v28 : (Nat → Int32)) (v29 : (Nat → Int64)) (v30 : (Nat → Int64)) => lt_ (v12 + (-1)) fun x31 =>
rc16 x31 v28 v29 v30) fun k32 =>
if x27 = 0 then (k32 o24 o25 o26) else ((fX0_startingTail p1 v12).bind fun x33 =>
(fX0_startingTail p1 (v12 + (1 : Int32))).bind fun x34 =>
bd4 (fX10_lower 362 o24 o25 o26 x33 x34) fun o38 o35 o36 o37 =>
k32 o35 o36 o37))
def fX0_putStartingTails (N : Nat) (c_rules_codes : (Nat → Int32)) (c_words_costs : (Nat → Int32)) (c_words_highs : (Nat → Int64)) (c_words_lows : (Nat → Int64)) (p1 : Int32) : Option ((Nat → Int32) × (Nat → Int64) × (Nat → Int64)) :=
(ag c_rules_codes 24 p1).bind fun x1 =>
(fX6_lengthOf x1).bind fun x2 =>
(fX0_startingTail p1 x2).bind fun x3 =>
bd3 (fX10_putNone 362 c_words_costs c_words_highs c_words_lows x3) fun o4 o5 o6 =>
lt_ (x2 - (1 : Int32)) fun x7 =>
jn3 (fun (v8 : (Nat → Int32)) (v9 : (Nat → Int64)) (v10 : (Nat → Int64)) => some (v8, v9, v10)) fun k11 =>
itr4 (bX0_putStartingTails_32 p1 x1 k11) N x7 o4 o5 o6
def bX0_findStarting_45 (N : Nat) (c_rules_codes : (Nat → Int32)) (c_rules_count : Int32) (k22 : (Int32 → (Nat → Int32) → (Nat → Int64) → (Nat → Int64) → Option ((Nat → Int32) × (Nat → Int64) × (Nat → Int64)))) (rc28 : Int32 → Int32 → (Nat → Int32) → (Nat → Int64) → (Nat → Int64) → Option ((Nat → Int32) × (Nat → Int64) × (Nat → Int64))) (v23 : Int32) (v24 : Int32) (v25 : (Nat → Int32)) (v26 : (Nat → Int64)) (v27 : (Nat → Int64)) : Option ((Nat → Int32) × (Nat → Int64) × (Nat → Int64)) :=
if c_rules_count ≤ v24 then (k22 v23 v25 v26 v27) else (bd3 (fX0_putStartingTails N c_rules_codes v25 v26 v27 v24) fun o29 o30 o31 =>
(fX0_leftSymbol c_rules_codes v24).bind fun x32 =>
(fX0_startingTail v24 0).bind fun x33 =>
bd4 (fX10_lower 362 o29 o30 o31 ((18 : Int32) + x32) x33) fun o37 o34 o35 o36 =>
jn_ (fun (v38 : Int32) => lt_ (v24 + 1) fun x39 =>
rc28 v38 x39 o34 o35 o36) fun k40 =>
jn_ (fun (v41 : Unit) => k40 1) fun k42 =>
if o37 = 0 then (if v23 = 0 then (k40 0) else (k42 ())) else (k42 ()))
def bX0_findStarting_29 (N : Nat) (c_rules_codes : (Nat → Int32)) (c_rules_count : Int32) (k10 : ((Nat → Int32) → (Nat → Int64) → (Nat → Int64) → Option ((Nat → Int32) × (Nat → Int64) × (Nat → Int64)))) (rc16 : Int32 → Int32 → (Nat → Int32) → (Nat → Int64) → (Nat → Int64) → Option ((Nat → Int32) × (Nat → Int64) × (Nat → Int64))) (v11 : Int32) (v12 : Int32) (v13 : (Nat → Int32)) (v14 : (Nat → Int64)) (v15 : (Nat → Int64)) : Option ((Nat → Int32) × (Nat → Int64) × (Nat → Int64)) :=
if 1000 ≤ v12 then (k10 v13 v14 v15) else (if v11 = 0 then (k10 v13 v14 v15) else (jn4 (fun (v17 : Int32) (v18 : (Nat → Int32)) (v19 : (Nat → Int64)) (v20 : (Nat → Int64)) => lt_ (v12 + 1) fun x21 =>
rc16 v17 x21 v18 v19 v20) fun k22 =>
itr5 (bX0_findStarting_45 N c_rules_codes c_rules_count k22) N 0 0 v13 v14 v15))
def fX0_findStarting (N : Nat) (c_rules_codes : (Nat → Int32)) (c_rules_count : Int32) (c_words_costs : (Nat → Int32)) (c_words_highs : (Nat → Int64)) (c_words_lows : (Nat → Int64)) (p1 : Int32) : Option ((Nat → Int32) × (Nat → Int64) × (Nat → Int64)) :=
bd3 (fX0_forgetKind N c_words_costs c_words_highs c_words_lows 18) fun o1 o2 o3 =>
jn3 (fun (v4 : (Nat → Int32)) (v5 : (Nat → Int64)) (v6 : (Nat → Int64)) => jn3 (fun (v7 : (Nat → Int32)) (v8 : (Nat → Int64)) (v9 : (Nat → Int64)) => some (v7, v8, v9)) fun k10 =>
itr5 (bX0_findStarting_29 N c_rules_codes c_rules_count k10) N 1 0 v4 v5 v6) fun k50 =>
if p1 = 8 then (k50 o1 o2 o3) else (bd3 (fX10_putTerminal 362 o1 o2 o3 ((18 : Int32) + p1) p1 0) fun o51 o52 o53 =>
k50 o51 o52 o53)
def fX10_exists (n : Nat) (c_costs : (Nat → Int32)) (p1 : Int32) : Option (Int32) :=
(ag c_costs n p1).bind fun x1 =>
jn_ (fun (v2 : Int32) => gz v2 (some v2)) fun k3 =>
if 41984 ≤ x1 then (k3 0) else (k3 1)
def fX0_lowerEnded (c_rules_codes : (Nat → Int32)) (c_words_costs : (Nat → Int32)) (c_words_highs : (Nat → Int64)) (c_words_lows : (Nat → Int64)) (p1 : Int32) (p2 : Int32) : Option (Int32 × (Nat → Int32) × (Nat → Int64) × (Nat → Int64)) :=
bd3 (fX10_putCopy 362 c_words_costs c_words_highs c_words_lows 73 72) fun o1 o2 o3 =>
(ag c_rules_codes 24 p1).bind fun x4 =>
(fX6_symbolOf x4 p2).bind fun x5 =>
bd3 (fX10_append 362 o1 o2 o3 73 ((36 : Int32) + x5)) fun o6 o7 o8 =>
(fX0_plainTail p1 (p2 + (1 : Int32))).bind fun x9 =>
(fX10_isEmpty 362 o6 x9).bind fun x10 =>
jn4 (fun (v11 : Int32) (v12 : (Nat → Int32)) (v13 : (Nat → Int64)) (v14 : (Nat → Int64)) => (fX0_startingTail p1 (p2 + (1 : Int32))).bind fun x15 =>
bd3 (fX10_append 362 v12 v13 v14 73 x15) fun o16 o17 o18 =>
(fX0_leftSymbol c_rules_codes p1).bind fun x19 =>
bd4 (fX10_lower 362 o16 o17 o18 ((54 : Int32) + x19) 73) fun o23 o20 o21 o22 =>
jn_ (fun (v24 : Int32) => gz v24 (some (v24, o20, o21, o22))) fun k25 =>
jn_ (fun (v26 : Unit) => k25 1) fun k27 =>
if o23 = 0 then (if v11 = 0 then (k25 0) else (k27 ())) else (k27 ())) fun k28 =>
if x10 = 0 then (k28 0 o6 o7 o8) else ((fX0_leftSymbol c_rules_codes p1).bind fun x29 =>
bd4 (fX10_lower 362 o6 o7 o8 ((36 : Int32) + x29) 73) fun o33 o30 o31 o32 =>
k28 o33 o30 o31 o32)
def bX0_lowerMarked_24 (p1 : Int32) (c_rules_codes : (Nat → Int32)) (x1 : Int32) (k9 : (Int32 → (Nat → Int32) → (Nat → Int64) → (Nat → Int64) → Option (Int32 × (Nat → Int32) × (Nat → Int64) × (Nat → Int64)))) (rc15 : Int32 → Int32 → (Nat → Int32) → (Nat → Int64) → (Nat → Int64) → Option (Int32 × (Nat → Int32) × (Nat → Int64) × (Nat → Int64))) (v10 : Int32) (v11 : Int32) (v12 : (Nat → Int32)) (v13 : (Nat → Int64)) (v14 : (Nat → Int64)) : Option (Int32 × (Nat → Int32) × (Nat → Int64) × (Nat → Int64)) :=
(fX6_lengthOf x1).bind fun x16 =>
if x16 ≤ v11 then (k9 v10 v12 v13 v14) else ((fX6_symbolOf x1 v11).bind fun x17 =>
(fX10_exists 362 v12 ((54 : Int32) + x17)).bind fun x18 =>
jn4 (fun (v19 : Int32) (v20 : (Nat → Int32)) (v21 : (Nat → Int64)) (v22 : (Nat → Int64)) => (fX10_exists 362 v20 ((36 : Int32) + x17)).bind fun x23 =>
jn4 (fun (v24 : Int32) (v25 : (Nat → Int32)) (v26 : (Nat → Int64)) (v27 : (Nat → Int64)) => bd3 (fX10_append 362 v25 v26 v27 72 ((0 : Int32) + x17)) fun o28 o29 o30 =>
lt_ (v11 + 1) fun x31 =>
rc15 v24 x31 o28 o29 o30) fun k32 =>
if x23 = 0 then (k32 v19 v20 v21 v22) else (bd4 (fX0_lowerEnded c_rules_codes v20 v21 v22 p1 v11) fun o36 o33 o34 o35 =>
jn_ (fun (v37 : Int32) => k32 v37 o33 o34 o35) fun k38 =>
jn_ (fun (v39 : Unit) => k38 1) fun k40 =>
if o36 = 0 then (if v19 = 0 then (k38 0) else (k40 ())) else (k40 ()))) fun k41 =>
if x18 = 0 then (k41 v10 v12 v13 v14) else (bd3 (fX10_putCopy 362 v12 v13 v14 73 72) fun o42 o43 o44 =>
bd3 (fX10_append 362 o42 o43 o44 73 ((54 : Int32) + x17)) fun o45 o46 o47 =>
(fX0_plainTail p1 (v11 + (1 : Int32))).bind fun x48 =>
bd3 (fX10_append 362 o45 o46 o47 73 x48) fun o49 o50 o51 =>
(fX0_leftSymbol c_rules_codes p1).bind fun x52 =>
bd4 (fX10_lower 362 o49 o50 o51 ((54 : Int32) + x52) 73) fun o56 o53 o54 o55 =>
jn_ (fun (v57 : Int32) => k41 v57 o53 o54 o55) fun k58 =>
jn_ (fun (v59 : Unit) => k58 1) fun k60 =>
if o56 = 0 then (if v10 = 0 then (k58 0) else (k60 ())) else (k60 ())))
def fX0_lowerMarked (N : Nat) (c_rules_codes : (Nat → Int32)) (c_words_costs : (Nat → Int32)) (c_words_highs : (Nat → Int64)) (c_words_lows : (Nat → Int64)) (p1 : Int32) : Option (Int32 × (Nat → Int32) × (Nat → Int64) × (Nat → Int64)) :=
(ag c_rules_codes 24 p1).bind fun x1 =>
bd3 (fX10_putEmpty 362 c_words_costs c_words_highs c_words_lows 72) fun o2 o3 o4 =>
jn4 (fun (v5 : Int32) (v6 : (Nat → Int32)) (v7 : (Nat → Int64)) (v8 : (Nat → Int64)) => gz v5 (some (v5, v6, v7, v8))) fun k9 =>
itr5 (bX0_lowerMarked_24 p1 c_rules_codes x1 k9) N 0 0 o2 o3 o4
def bX0_findMarked_82 (N : Nat) (c_rules_codes : (Nat → Int32)) (c_rules_count : Int32) (k32 : (Int32 → (Nat → Int32) → (Nat → Int64) → (Nat → Int64) → Option ((Nat → Int32) × (Nat → Int64) × (Nat → Int64)))) (rc38 : Int32 → Int32 → (Nat → Int32) → (Nat → Int64) → (Nat → Int64) → Option ((Nat → Int32) × (Nat → Int64) × (Nat → Int64))) (v33 : Int32) (v34 : Int32) (v35 : (Nat → Int32)) (v36 : (Nat → Int64)) (v37 : (Nat → Int64)) : Option ((Nat → Int32) × (Nat → Int64) × (Nat → Int64)) :=
if c_rules_count ≤ v34 then (k32 v33 v35 v36 v37) else (bd4 (fX0_lowerMarked N c_rules_codes v35 v36 v37 v34) fun o42 o39 o40 o41 =>
jn_ (fun (v43 : Int32) => lt_ (v34 + 1) fun x44 =>
rc38 v43 x44 o39 o40 o41) fun k45 =>
jn_ (fun (v46 : Unit) => k45 1) fun k47 =>
if o42 = 0 then (if v33 = 0 then (k45 0) else (k47 ())) else (k47 ()))
def bX0_findMarked_66 (N : Nat) (c_rules_codes : (Nat → Int32)) (c_rules_count : Int32) (k20 : ((Nat → Int32) → (Nat → Int64) → (Nat → Int64) → Option ((Nat → Int32) × (Nat → Int64) × (Nat → Int64)))) (rc26 : Int32 → Int32 → (Nat → Int32) → (Nat → Int64) → (Nat → Int64) → Option ((Nat → Int32) × (Nat → Int64) × (Nat → Int64))) (v21 : Int32) (v22 : Int32) (v23 : (Nat → Int32)) (v24 : (Nat → Int64)) (v25 : (Nat → Int64)) : Option ((Nat → Int32) × (Nat → Int64) × (Nat → Int64)) :=
if 1000 ≤ v22 then (k20 v23 v24 v25) else (if v21 = 0 then (k20 v23 v24 v25) else (jn4 (fun (v27 : Int32) (v28 : (Nat → Int32)) (v29 : (Nat → Int64)) (v30 : (Nat → Int64)) => lt_ (v22 + 1) fun x31 =>
rc26 v27 x31 v28 v29 v30) fun k32 =>
itr5 (bX0_findMarked_82 N c_rules_codes c_rules_count k32) N 0 0 v23 v24 v25))
def fX0_findMarked (N : Nat) (c_rules_codes : (Nat → Int32)) (c_rules_count : Int32) (c_words_costs : (Nat → Int32)) (c_words_highs : (Nat → Int64)) (c_words_lows : (Nat → Int64)) (p1 : Int32) : Option ((Nat → Int32) × (Nat → Int64) × (Nat → Int64)) :=
bd3 (fX0_forgetKind N c_words_costs c_words_highs c_words_lows 36) fun o1 o2 o3 =>
bd3 (fX0_forgetKind N o1 o2 o3 54) fun o4 o5 o6 =>
(fX0_plainTail p1 0).bind fun x7 =>
(fX10_isEmpty 362 o4 x7).bind fun x8 =>
jn3 (fun (v9 : (Nat → Int32)) (v10 : (Nat → Int64)) (v11 : (Nat → Int64)) => (fX0_leftSymbol c_rules_codes p1).bind fun x12 =>
(fX0_startingTail p1 0).bind fun x13 =>
bd3 (fX10_putCopy 362 v9 v10 v11 ((54 : Int32) + x12) x13) fun o14 o15 o16 =>
jn3 (fun (v17 : (Nat → Int32)) (v18 : (Nat → Int64)) (v19 : (Nat → Int64)) => some (v17, v18, v19)) fun k20 =>
itr5 (bX0_findMarked_66 N c_rules_codes c_rules_count k20) N 1 0 o14 o15 o16) fun k55 =>
if x8 = 0 then (k55 o4 o5 o6) else ((fX0_leftSymbol c_rules_codes p1).bind fun x56 =>
bd3 (fX10_putEmpty 362 o4 o5 o6 ((36 : Int32) + x56)) fun o57 o58 o59 =>
k55 o57 o58 o59)
def fX0_exampleWord (N : Nat) (c_rules_codes : (Nat → Int32)) (c_rules_count : Int32) (c_words_costs : (Nat → Int32)) (c_words_highs : (Nat → Int64)) (c_words_lows : (Nat → Int64)) (c_plainKnown : Int32) (c_exampleKey : Int32) (p1 : Int32) (p2 : Int32) : Option (Int32 × (Nat → Int32) × (Nat → Int64) × (Nat → Int64) × Int32 × Int32) :=
lt_ ((p1 * (9 : Int32)) + p2) fun x1 =>
(fX6_has c_rules_count p1).bind fun x2 =>
jn5 (fun (v3 : (Nat → Int32)) (v4 : (Nat → Int64)) (v5 : (Nat → Int64)) (v6 : Int32) (v7 : Int32) => jn_ (fun (v8 : Int32) => some (((v8 + (10 : Int32)) + (0 : Int32)), v3, v4, v5, v6, v7)) fun k9 =>
if p2 = 8 then (k9 36) else (k9 54)) fun k10 =>
if x2 = 0 then (k10 c_words_costs c_words_highs c_words_lows c_plainKnown c_exampleKey) else (if x1 = c_exampleKey then (k10 c_words_costs c_words_highs c_words_lows c_plainKnown c_exampleKey) else (bd4 (fX0_findPlain N c_rules_codes c_rules_count c_words_costs c_words_highs c_words_lows c_plainKnown) fun o11 o12 o13 o14 =>
bd3 (fX0_findStarting N c_rules_codes c_rules_count o11 o12 o13 p2) fun o15 o16 o17 =>
bd3 (fX0_findMarked N c_rules_codes c_rules_count o15 o16 o17 p1) fun o18 o19 o20 =>
k10 o18 o19 o20 o14 x1))
def fX1_has (c_levels : Int32) (p1 : Int32) : Option (Int32) :=
jn_ (fun (v1 : Int32) => gz v1 (some v1)) fun k2 =>
jn_ (fun (v3 : Unit) => k2 0) fun k4 =>
if p1 < 0 then (k4 ()) else (if c_levels ≤ p1 then (k4 ()) else (k2 1))
def fX1_because (c_codes : (Nat → Int32)) (c_details : (Nat → Int32)) (c_levels : Int32) (p1 : Int32) (p2 : Int32) : Option ((Nat → Int32) × (Nat → Int32) × Int32) :=
jn3 (fun (v1 : (Nat → Int32)) (v2 : (Nat → Int32)) (v3 : Int32) => some (v1, v2, v3)) fun k4 =>
if 3 ≤ c_levels then (k4 c_codes c_details c_levels) else ((as_ c_codes 3 c_levels p1).bind fun f5 =>
(as_ c_details 3 c_levels p2).bind fun f6 =>
lt_ (c_levels + (1 : Int32)) fun x7 =>
k4 f5 f6 x7)
def fX1_begin (c_codes : (Nat → Int32)) (c_details : (Nat → Int32)) (c_levels : Int32) (p1 : Int32) (p2 : Int32) : Option ((Nat → Int32) × (Nat → Int32) × Int32) :=
bd3 (fX1_because c_codes c_details 0 p1 p2) fun o1 o2 o3 =>
some (o1, o2, o3)
def fX6_become (c_codes : (Nat → Int32)) (c_count : Int32) (c_p1_codes : (Nat → Int32)) (c_p1_count : Int32) : Option ((Nat → Int32) × Int32) :=
(acp c_p1_codes c_codes 24 24 0 0 c_p1_count).bind fun f1 =>
some (f1, c_p1_count)
def fX2_save (c_saved_codes : (Nat → Nat → Int32)) (c_saved_count : (Nat → Int32)) (c_newest : Int32) (c_size : Int32) (c_p1_codes : (Nat → Int32)) (c_p1_count : Int32) : Option (Nat × (Nat → Nat → Int32) × (Nat → Int32) × Int32 × Int32) :=
lt_ ((c_newest + (1 : Int32)) - (c_newest + (1 : Int32)) / (10 : Int32) * (10 : Int32)) fun x1 =>
lt_ (if 10 < (c_size + (1 : Int32)) then 10 else (c_size + (1 : Int32))) fun x2 =>
(agR 10 x1).bind fun j3 =>
bd2 (fX6_become (c_saved_codes j3) (c_saved_count j3) c_p1_codes c_p1_count) fun o4 o5 =>
(agR 10 x1).bind fun j6 =>
some (j6, (va_up c_saved_codes j3 o4), (va_up c_saved_count j3 o5), x1, x2)
def fX2_restore (c_saved_codes : (Nat → Nat → Int32)) (c_saved_count : (Nat → Int32)) (c_newest : Int32) (c_size : Int32) (c_p1_codes : (Nat → Int32)) (c_p1_count : Int32) : Option (Int32 × Int32 × (Nat → Int32) × Int32) :=
(agR 10 c_newest).bind fun j1 =>
bd2 (fX6_become c_p1_codes c_p1_count (c_saved_codes j1) (c_saved_count j1)) fun o2 o3 =>
lt_ (((c_newest + (10 : Int32)) - (1 : Int32)) - ((c_newest + (10 : Int32)) - (1 : Int32)) / (10 : Int32) * (10 : Int32)) fun x4 =>
lt_ (c_size - (1 : Int32)) fun x5 =>
some (x4, x5, o2, o3)
def bX3_terminalsIn_4 (k2 : (Int32 → Option (Int32))) (k4 : (Unit → Option (Int32))) (rc7 : Int32 → Int32 → Option (Int32)) (v5 : Int32) (v6 : Int32) : Option (Int32) :=
if v5 ≤ 0 then (k2 v6) else (if 10 ≤ v6 then (k2 v6) else (lt_ (v5 - v5 / (10 : Int32) * (10 : Int32)) fun x8 =>
if x8 < 1 then (k4 ()) else (if x8 ≤ 8 then (lt_ (v5 / (10 : Int32)) fun x9 =>
lt_ (v6 + 1) fun x10 =>
rc7 x9 x10) else (k4 ()))))
def fX3_terminalsIn (N : Nat) (p0 : Int32) : Option (Int32) :=
jn_ (fun (v1 : Int32) => some v1) fun k2 =>
jn_ (fun (v3 : Unit) => some 0) fun k4 =>
itr2 (bX3_terminalsIn_4 k2 k4) N p0 0
def bX3_append_12 (c_length : Int32) (k4 : ((Nat → Int32) → Option ((Nat → Int32) × Int32))) (rc8 : Int32 → Int32 → (Nat → Int32) → Option ((Nat → Int32) × Int32)) (v5 : Int32) (v6 : Int32) (v7 : (Nat → Int32)) : Option ((Nat → Int32) × Int32) :=
if v6 < c_length then (k4 v7) else (if 40 ≤ v6 then (k4 v7) else ((as_ v7 40 v6 ((v5 - v5 / (10 : Int32) * (10 : Int32)) - (1 : Int32))).bind fun f9 =>
lt_ (v5 / (10 : Int32)) fun x10 =>
lt_ (v6 + (-1)) fun x11 =>
rc8 x10 x11 f9))
def fX3_append (N : Nat) (c_terminals : (Nat → Int32)) (c_length : Int32) (p1 : Int32) (p2 : Int32) : Option ((Nat → Int32) × Int32) :=
lt_ ((c_length + p2) - (1 : Int32)) fun x1 =>
jn_ (fun (v2 : (Nat → Int32)) => lt_ (c_length + p2) fun x3 =>
some (v2, x3)) fun k4 =>
itr3 (bX3_append_12 c_length k4) N p1 x1 c_terminals
def fX3_tokenAt (c_terminals : (Nat → Int32)) (c_length : Int32) (p1 : Int32) : Option (Int32) :=
jn_ (fun (v1 : Int32) => some v1) fun k2 =>
jn_ (fun (v3 : Unit) => k2 8) fun k4 =>
if p1 < 0 then (k4 ()) else (if c_length ≤ p1 then (k4 ()) else ((ag c_terminals 40 p1).bind fun x5 =>
k2 x5))
def fX4_push (c_stack : (Nat → Int32)) (c_bringers : (Nat → Int32)) (c_depth : Int32) (p1 : Int32) (p2 : Int32) : Option ((Nat → Int32) × (Nat → Int32) × Int32) :=
jn3 (fun (v1 : (Nat → Int32)) (v2 : (Nat → Int32)) (v3 : Int32) => some (v1, v2, v3)) fun k4 =>
if 65 ≤ c_depth then (k4 c_stack c_bringers c_depth) else ((as_ c_stack 65 c_depth p1).bind fun f5 =>
(as_ c_bringers 65 c_depth p2).bind fun f6 =>
lt_ (c_depth + (1 : Int32)) fun x7 =>
k4 f5 f6 x7)
def fX4_begin (c_traceLength : Int32) (c_tree_count : Int32) (c_stack : (Nat → Int32)) (c_bringers : (Nat → Int32)) (c_depth : Int32) (c_index : Int32) (c_steps : Int32) : Option (Int32 × Int32 × (Nat → Int32) × (Nat → Int32) × Int32 × Int32 × Int32) :=
bd3 (fX4_push c_stack c_bringers 0 10 (-1)) fun o1 o2 o3 =>
some (0, 0, o1, o2, o3, 0, 0)
def fX4_token (c_input_terminals : (Nat → Int32)) (c_input_length : Int32) (c_index : Int32) : Option (Int32) :=
(fX3_tokenAt c_input_terminals c_input_length c_index).bind fun x1 =>
some x1
def fX4_accepts (c_input_terminals : (Nat → Int32)) (c_input_length : Int32) (c_depth : Int32) (c_index : Int32) : Option (Int32) :=
jn_ (fun (v1 : Int32) => gz v1 (some v1)) fun k2 =>
jn_ (fun (v3 : Unit) => k2 0) fun k4 =>
if c_depth = 0 then ((fX4_token c_input_terminals c_input_length c_index).bind fun x5 =>
if x5 = 8 then (k2 1) else (k4 ())) else (k4 ())
def fX9_has (c_count : Int32) (p1 : Int32) : Option (Int32) :=
jn_ (fun (v1 : Int32) => gz v1 (some v1)) fun k2 =>
jn_ (fun (v3 : Unit) => k2 0) fun k4 =>
if p1 < 0 then (k4 ()) else (if c_count ≤ p1 then (k4 ()) else (k2 1))
def bX9_finish_18 (c_parents : (Nat → Int32)) (x1 : Int32) (k4 : ((Nat → Int32) → Option ((Nat → Int32) × Int32))) (rc7 : Int32 → (Nat → Int32) → Option ((Nat → Int32) × Int32)) (v5 : Int32) (v6 : (Nat → Int32)) : Option ((Nat → Int32) × Int32) :=
if v5 ≤ 0 then (k4 v6) else ((ag c_parents 300 v5).bind fun x8 =>
(fX9_has x1 x8).bind fun x9 =>
jn_ (fun (v10 : (Nat → Int32)) => lt_ (v5 + (-1)) fun x11 =>
rc7 x11 v10) fun k12 =>
if x9 = 0 then (k12 v6) else ((ag v6 300 x8).bind fun x13 =>
(ag v6 300 v5).bind fun x14 =>
(as_ v6 300 x8 (if x13 < (x14 + (1 : Int32)) then (x14 + (1 : Int32)) else x13)).bind fun f15 =>
k12 f15))
def fX9_finish (N : Nat) (c_parents : (Nat → Int32)) (c_heights : (Nat → Int32)) (c_count : Int32) (p1 : Int32) : Option ((Nat → Int32) × Int32) :=
lt_ (if 300 < p1 then 300 else p1) fun x1 =>
lt_ (x1 - (1 : Int32)) fun x2 =>
jn_ (fun (v3 : (Nat → Int32)) => some (v3, x1)) fun k4 =>
itr2 (bX9_finish_18 c_parents x1 k4) N x2 c_heights
def fX4_top (c_stack : (Nat → Int32)) (c_depth : Int32) : Option (Int32) :=
jn_ (fun (v1 : Int32) => some v1) fun k2 =>
if c_depth ≤ 0 then (k2 (-1)) else ((ag c_stack 65 (c_depth - (1 : Int32))).bind fun x3 =>
k2 x3)
def fX8_entry (c_possible : (Nat → Int32)) (c_lowest : (Nat → Int32)) (p1 : Int32) (p2 : Int32) : Option (Int32) :=
lt_ ((p1 * (9 : Int32)) + p2) fun x1 =>
(ag c_possible 72 x1).bind fun x2 =>
jn_ (fun (v3 : Int32) => some v3) fun k4 =>
if x2 ≤ 0 then (k4 (-2)) else ((ag c_lowest 72 x1).bind fun x5 =>
k4 x5)
def fX4_canMove (c_table_possible : (Nat → Int32)) (c_table_lowest : (Nat → Int32)) (c_input_terminals : (Nat → Int32)) (c_input_length : Int32) (c_stack : (Nat → Int32)) (c_depth : Int32) (c_index : Int32) : Option (Int32) :=
(fX4_top c_stack c_depth).bind fun x1 =>
if x1 < 10 then (jn_ (fun (v2 : Int32) => gz v2 (some v2)) fun k3 =>
jn_ (fun (v4 : Unit) => k3 0) fun k5 =>
if x1 < 0 then (k5 ()) else ((fX4_token c_input_terminals c_input_length c_index).bind fun x6 =>
if x1 = x6 then (k3 1) else (k5 ()))) else ((fX4_token c_input_terminals c_input_length c_index).bind fun x7 =>
(fX8_entry c_table_possible c_table_lowest (x1 - (10 : Int32)) x7).bind fun x8 =>
jn_ (fun (v9 : Int32) => gz v9 (some v9)) fun k10 =>
if x8 < 0 then (k10 0) else (k10 1))
def fX4_bringer (c_bringers : (Nat → Int32)) (c_depth : Int32) : Option (Int32) :=
jn_ (fun (v1 : Int32) => some v1) fun k2 =>
if c_depth ≤ 0 then (k2 (-1)) else ((ag c_bringers 65 (c_depth - (1 : Int32))).bind fun x3 =>
k2 x3)
def fX9_note (c_symbols : (Nat → Int32)) (c_parents : (Nat → Int32)) (c_heights : (Nat → Int32)) (p1 : Int32) (p2 : Int32) (p3 : Int32) : Option ((Nat → Int32) × (Nat → Int32) × (Nat → Int32)) :=
jn3 (fun (v1 : (Nat → Int32)) (v2 : (Nat → Int32)) (v3 : (Nat → Int32)) => some (v1, v2, v3)) fun k4 =>
if p1 < 0 then (k4 c_symbols c_parents c_heights) else (if 300 ≤ p1 then (k4 c_symbols c_parents c_heights) else ((as_ c_symbols 300 p1 p2).bind fun f5 =>
(as_ c_parents 300 p1 p3).bind fun f6 =>
(as_ c_heights 300 p1 0).bind fun f7 =>
k4 f5 f6 f7))
def bX4_expand_69 (c_steps : Int32) (x7 : Int32) (k13 : ((Nat → Int32) → (Nat → Int32) → Int32 → Option ((Nat → Int32) × Int32 × (Nat → Int32) × (Nat → Int32) × Int32))) (rc18 : Int32 → (Nat → Int32) → (Nat → Int32) → Int32 → Option ((Nat → Int32) × Int32 × (Nat → Int32) × (Nat → Int32) × Int32)) (v14 : Int32) (v15 : (Nat → Int32)) (v16 : (Nat → Int32)) (v17 : Int32) : Option ((Nat → Int32) × Int32 × (Nat → Int32) × (Nat → Int32) × Int32) :=
if v14 < 0 then (k13 v15 v16 v17) else ((fX6_symbolOf x7 v14).bind fun x19 =>
bd3 (fX4_push v15 v16 v17 x19 c_steps) fun o20 o21 o22 =>
lt_ (v14 + (-1)) fun x23 =>
rc18 x23 o20 o21 o22)
def fX4_expand (N : Nat) (c_rules_codes : (Nat → Int32)) (c_rules_count : Int32) (c_trace : (Nat → Int32)) (c_traceLength : Int32) (c_stack : (Nat → Int32)) (c_bringers : (Nat → Int32)) (c_depth : Int32) (c_steps : Int32) (p1 : Int32) : Option ((Nat → Int32) × Int32 × (Nat → Int32) × (Nat → Int32) × Int32) :=
(fX6_has c_rules_count p1).bind fun x1 =>
jn_ (fun (v2 : Unit) => some (c_trace, c_traceLength, c_stack, c_bringers, c_depth)) fun k3 =>
if x1 = 0 then (k3 ()) else (if c_traceLength < 300 then ((as_ c_trace 300 c_traceLength p1).bind fun f4 =>
lt_ (c_traceLength + (1 : Int32)) fun x5 =>
lt_ (c_depth - (1 : Int32)) fun x6 =>
(ag c_rules_codes 24 p1).bind fun x7 =>
(fX6_lengthOf x7).bind fun x8 =>
lt_ (x8 - (1 : Int32)) fun x9 =>
jn3 (fun (v10 : (Nat → Int32)) (v11 : (Nat → Int32)) (v12 : Int32) => some (f4, x5, v10, v11, v12)) fun k13 =>
itr4 (bX4_expand_69 c_steps x7 k13) N x9 c_stack c_bringers x6) else (k3 ()))
def fX4_move (N : Nat) (c_rules_codes : (Nat → Int32)) (c_rules_count : Int32) (c_table_possible : (Nat → Int32)) (c_table_lowest : (Nat → Int32)) (c_input_terminals : (Nat → Int32)) (c_input_length : Int32) (c_trace : (Nat → Int32)) (c_traceLength : Int32) (c_stack : (Nat → Int32)) (c_bringers : (Nat → Int32)) (c_depth : Int32) (c_index : Int32) (c_steps : Int32) : Option ((Nat → Int32) × Int32 × (Nat → Int32) × (Nat → Int32) × Int32 × Int32 × Int32) :=
(fX4_top c_stack c_depth).bind fun x1 =>
jn6 (fun (v2 : (Nat → Int32)) (v3 : Int32) (v4 : (Nat → Int32)) (v5 : (Nat → Int32)) (v6 : Int32) (v7 : Int32) => lt_ (c_steps + (1 : Int32)) fun x8 =>
some (v2, v3, v4, v5, v6, v7, x8)) fun k9 =>
if x1 < 10 then (lt_ (c_depth - (1 : Int32)) fun x10 =>
lt_ (c_index + (1 : Int32)) fun x11 =>
k9 c_trace c_traceLength c_stack c_bringers x10 x11) else ((fX4_token c_input_terminals c_input_length c_index).bind fun x12 =>
(fX8_entry c_table_possible c_table_lowest (x1 - (10 : Int32)) x12).bind fun x13 =>
bd5 (fX4_expand N c_rules_codes c_rules_count c_trace c_traceLength c_stack c_bringers c_depth c_steps x13) fun o14 o15 o16 o17 o18 =>
k9 o14 o15 o16 o17 o18 c_index)
def bX4_parseInput_6 (N : Nat) (c_rules_codes : (Nat → Int32)) (c_rules_count : Int32) (c_table_possible : (Nat → Int32)) (c_table_lowest : (Nat → Int32)) (c_input_terminals : (Nat → Int32)) (c_input_length : Int32) (o2 : Int32) (k18 : ((Nat → Int32) → Int32 → (Nat → Int32) → (Nat → Int32) → (Nat → Int32) → (Nat → Int32) → (Nat → Int32) → Int32 → Int32 → Int32 → Option (Int32 × (Nat → Int32) × Int32 × (Nat → Int32) × (Nat → Int32) × (Nat → Int32) × Int32 × (Nat → Int32) × (Nat → Int32) × Int32 × Int32 × Int32))) (rc30 : Int32 → (Nat → Int32) → Int32 → (Nat → Int32) → (Nat → Int32) → (Nat → Int32) → (Nat → Int32) → (Nat → Int32) → Int32 → Int32 → Int32 → Option (Int32 × (Nat → Int32) × Int32 × (Nat → Int32) × (Nat → Int32) × (Nat → Int32) × Int32 × (Nat → Int32) × (Nat → Int32) × Int32 × Int32 × Int32)) (v19 : Int32) (v20 : (Nat → Int32)) (v21 : Int32) (v22 : (Nat → Int32)) (v23 : (Nat → Int32)) (v24 : (Nat → Int32)) (v25 : (Nat → Int32)) (v26 : (Nat → Int32)) (v27 : Int32) (v28 : Int32) (v29 : Int32) : Option (Int32 × (Nat → Int32) × Int32 × (Nat → Int32) × (Nat → Int32) × (Nat → Int32) × Int32 × (Nat → Int32) × (Nat → Int32) × Int32 × Int32 × Int32) :=
if 300 < v19 then (k18 v20 v21 v22 v23 v24 v25 v26 v27 v28 v29) else ((fX4_accepts c_input_terminals c_input_length v27 v28).bind fun x31 =>
if x31 = 0 then ((fX4_canMove c_table_possible c_table_lowest c_input_terminals c_input_length v25 v27 v28).bind fun x32 =>
if x32 = 0 then (some ((-5), v20, v21, v22, v23, v24, o2, v25, v26, v27, v28, v29)) else (if v29 < 300 then ((fX4_top v25 v27).bind fun x33 =>
(fX4_bringer v26 v27).bind fun x34 =>
bd3 (fX9_note v22 v23 v24 v29 x33 x34) fun o35 o36 o37 =>
bd7 (fX4_move N c_rules_codes c_rules_count c_table_possible c_table_lowest c_input_terminals c_input_length v20 v21 v25 v26 v27 v28 v29) fun o38 o39 o40 o41 o42 o43 o44 =>
if o42 ≤ 60 then (lt_ (v19 + 1) fun x45 =>
rc30 x45 o38 o39 o35 o36 o37 o40 o41 o42 o43 o44) else (some ((-6), o38, o39, o35, o36, o37, o2, o40, o41, o42, o43, o44))) else (some ((-6), v20, v21, v22, v23, v24, o2, v25, v26, v27, v28, v29)))) else (bd2 (fX9_finish N v23 v24 o2 v29) fun o46 o47 =>
some (v29, v20, v21, v22, v23, o46, o47, v25, v26, v27, v28, v29)))
def fX4_parseInput (N : Nat) (c_rules_codes : (Nat → Int32)) (c_rules_count : Int32) (c_table_possible : (Nat → Int32)) (c_table_lowest : (Nat → Int32)) (c_input_terminals : (Nat → Int32)) (c_input_length : Int32) (c_trace : (Nat → Int32)) (c_traceLength : Int32) (c_tree_symbols : (Nat → Int32)) (c_tree_parents : (Nat → Int32)) (c_tree_heights : (Nat → Int32)) (c_tree_count : Int32) (c_stack : (Nat → Int32)) (c_bringers : (Nat → Int32)) (c_depth : Int32) (c_index : Int32) (c_steps : Int32) : Option (Int32 × (Nat → Int32) × Int32 × (Nat → Int32) × (Nat → Int32) × (Nat → Int32) × Int32 × (Nat → Int32) × (Nat → Int32) × Int32 × Int32 × Int32) :=
bd7 (fX4_begin c_traceLength c_tree_count c_stack c_bringers c_depth c_index c_steps) fun o1 o2 o3 o4 o5 o6 o7 =>
jn10 (fun (v8 : (Nat → Int32)) (v9 : Int32) (v10 : (Nat → Int32)) (v11 : (Nat → Int32)) (v12 : (Nat → Int32)) (v13 : (Nat → Int32)) (v14 : (Nat → Int32)) (v15 : Int32) (v16 : Int32) (v17 : Int32) => some ((-6), v8, v9, v10, v11, v12, o2, v13, v14, v15, v16, v17)) fun k18 =>
itr11 (bX4_parseInput_6 N c_rules_codes c_rules_count c_table_possible c_table_lowest c_input_terminals c_input_length o2 k18) N 0 c_trace o1 c_tree_symbols c_tree_parents c_tree_heights o3 o4 o5 o6 o7
def fX4_noteError (c_errorParts : (Nat → Int32)) (c_errorCount : Int32) (c_index : Int32) (p1 : Int32) (p2 : Int32) : Option ((Nat → Int32) × Int32) :=
jn2 (fun (v1 : (Nat → Int32)) (v2 : Int32) => some (v1, v2)) fun k3 =>
if 300 ≤ c_errorCount then (k3 c_errorParts c_errorCount) else (lt_ (c_errorCount * (3 : Int32)) fun x4 =>
(as_ c_errorParts 900 x4 c_index).bind fun f5 =>
(as_ f5 900 (x4 + (1 : Int32)) p1).bind fun f6 =>
(as_ f6 900 (x4 + (2 : Int32)) p2).bind fun f7 =>
lt_ (c_errorCount + (1 : Int32)) fun x8 =>
k3 f7 x8)
def fX11_bit (p0 : Int32) (p1 : Int32) : Option (Int32) :=
some ((p0 >>> (p1 &&& (31 : Int32))) &&& (1 : Int32))
def fX4_mayLeave (c_sets_follow : (Nat → Int32)) (c_input_terminals : (Nat → Int32)) (c_input_length : Int32) (c_synchronizing : (Nat → Int32)) (c_index : Int32) (p1 : Int32) : Option (Int32) :=
(ag c_sets_follow 8 p1).bind fun x1 =>
(ag c_synchronizing 8 p1).bind fun x2 =>
lt_ ((x1 ||| x2) ||| (256 : Int32)) fun x3 =>
(fX4_token c_input_terminals c_input_length c_index).bind fun x4 =>
(fX11_bit x3 x4).bind fun x5 =>
jn_ (fun (v6 : Int32) => gz v6 (some v6)) fun k7 =>
if x5 = 1 then (k7 1) else (k7 0)
def fX4_passError (c_sets_follow : (Nat → Int32)) (c_input_terminals : (Nat → Int32)) (c_input_length : Int32) (c_synchronizing : (Nat → Int32)) (c_errorParts : (Nat → Int32)) (c_errorCount : Int32) (c_stack : (Nat → Int32)) (c_depth : Int32) (c_index : Int32) (c_steps : Int32) : Option ((Nat → Int32) × Int32 × Int32 × Int32 × Int32) :=
(fX4_top c_stack c_depth).bind fun x1 =>
jn4 (fun (v2 : (Nat → Int32)) (v3 : Int32) (v4 : Int32) (v5 : Int32) => lt_ (c_steps + (1 : Int32)) fun x6 =>
some (v2, v3, v4, v5, x6)) fun k7 =>
if x1 = (-1) then (bd2 (fX4_noteError c_errorParts c_errorCount c_index 3 x1) fun o18 o19 =>
k7 o18 o19 c_depth c_input_length) else (if 10 ≤ x1 then ((fX4_mayLeave c_sets_follow c_input_terminals c_input_length c_synchronizing c_index (x1 - (10 : Int32))).bind fun x8 =>
if x8 = 0 then (bd2 (fX4_noteError c_errorParts c_errorCount c_index 2 x1) fun o9 o10 =>
lt_ (c_index + (1 : Int32)) fun x11 =>
k7 o9 o10 c_depth x11) else (bd2 (fX4_noteError c_errorParts c_errorCount c_index 1 x1) fun o12 o13 =>
lt_ (c_depth - (1 : Int32)) fun x14 =>
k7 o12 o13 x14 c_index)) else (bd2 (fX4_noteError c_errorParts c_errorCount c_index 0 x1) fun o15 o16 =>
lt_ (c_depth - (1 : Int32)) fun x17 =>
k7 o15 o16 x17 c_index))
def bX4_recoverInput_11 (N : Nat) (c_rules_codes : (Nat → Int32)) (c_rules_count : Int32) (c_sets_follow : (Nat → Int32)) (c_table_possible : (Nat → Int32)) (c_table_lowest : (Nat → Int32)) (c_input_terminals : (Nat → Int32)) (c_input_length : Int32) (c_synchronizing : (Nat → Int32)) (o2 : Int32) (k17 : ((Nat → Int32) → Int32 → (Nat → Int32) → Int32 → (Nat → Int32) → (Nat → Int32) → Int32 → Int32 → Int32 → Option (Int32 × (Nat → Int32) × Int32 × Int32 × (Nat → Int32) × Int32 × (Nat → Int32) × (Nat → Int32) × Int32 × Int32 × Int32))) (rc28 : Int32 → (Nat → Int32) → Int32 → (Nat → Int32) → Int32 → (Nat → Int32) → (Nat → Int32) → Int32 → Int32 → Int32 → Option (Int32 × (Nat → Int32) × Int32 × Int32 × (Nat → Int32) × Int32 × (Nat → Int32) × (Nat → Int32) × Int32 × Int32 × Int32)) (v18 : Int32) (v19 : (Nat → Int32)) (v20 : Int32) (v21 : (Nat → Int32)) (v22 : Int32) (v23 : (Nat → Int32)) (v24 : (Nat → Int32)) (v25 : Int32) (v26 : Int32) (v27 : Int32) : Option (Int32 × (Nat → Int32) × Int32 × Int32 × (Nat → Int32) × Int32 × (Nat → Int32) × (Nat → Int32) × Int32 × Int32 × Int32) :=
if 300 < v18 then (k17 v19 v20 v21 v22 v23 v24 v25 v26 v27) else ((fX4_accepts c_input_terminals c_input_length v25 v26).bind fun x29 =>
if x29 = 0 then (if v27 < 300 then ((fX4_canMove c_table_possible c_table_lowest c_input_terminals c_input_length v23 v25 v26).bind fun x30 =>
jn9 (fun (v31 : (Nat → Int32)) (v32 : Int32) (v33 : (Nat → Int32)) (v34 : Int32) (v35 : (Nat → Int32)) (v36 : (Nat → Int32)) (v37 : Int32) (v38 : Int32) (v39 : Int32) => if v37 ≤ 60 then (lt_ (v18 + 1) fun x40 =>
rc28 x40 v31 v32 v33 v34 v35 v36 v37 v38 v39) else (some ((-6), v31, v32, o2, v33, v34, v35, v36, v37, v38, v39))) fun k41 =>
if x30 = 0 then (bd5 (fX4_passError c_sets_follow c_input_terminals c_input_length c_synchronizing v21 v22 v23 v25 v26 v27) fun o42 o43 o44 o45 o46 =>
k41 v19 v20 o42 o43 v23 v24 o44 o45 o46) else (bd7 (fX4_move N c_rules_codes c_rules_count c_table_possible c_table_lowest c_input_terminals c_input_length v19 v20 v23 v24 v25 v26 v27) fun o47 o48 o49 o50 o51 o52 o53 =>
k41 o47 o48 v21 v22 o49 o50 o51 o52 o53)) else (some ((-6), v19, v20, o2, v21, v22, v23, v24, v25, v26, v27))) else (some (v22, v19, v20, o2, v21, v22, v23, v24, v25, v26, v27)))
def fX4_recoverInput (N : Nat) (c_rules_codes : (Nat → Int32)) (c_rules_count : Int32) (c_sets_follow : (Nat → Int32)) (c_table_possible : (Nat → Int32)) (c_table_lowest : (Nat → Int32)) (c_input_terminals : (Nat → Int32)) (c_input_length : Int32) (c_synchronizing : (Nat → Int32)) (c_trace : (Nat → Int32)) (c_traceLength : Int32) (c_tree_count : Int32) (c_errorParts : (Nat → Int32)) (c_errorCount : Int32) (c_stack : (Nat → Int32)) (c_bringers : (Nat → Int32)) (c_depth : Int32) (c_index : Int32) (c_steps : Int32) : Option (Int32 × (Nat → Int32) × Int32 × Int32 × (Nat → Int32) × Int32 × (Nat → Int32) × (Nat → Int32) × Int32 × Int32 × Int32) :=
bd7 (fX4_begin c_traceLength c_tree_count c_stack c_bringers c_depth c_index c_steps) fun o1 o2 o3 o4 o5 o6 o7 =>
jn9 (fun (v8 : (Nat → Int32)) (v9 : Int32) (v10 : (Nat → Int32)) (v11 : Int32) (v12 : (Nat → Int32)) (v13 : (Nat → Int32)) (v14 : Int32) (v15 : Int32) (v16 : Int32) => some ((-6), v8, v9, o2, v10, v11, v12, v13, v14, v15, v16)) fun k17 =>
itr10 (bX4_recoverInput_11 N c_rules_codes c_rules_count c_sets_follow c_table_possible c_table_lowest c_input_terminals c_input_length c_synchronizing o2 k17) N 0 c_trace o1 c_errorParts 0 o3 o4 o5 o6 o7
def fX6_isOf (p0 : Int32) (p1 : Int32) : Option (Int32) :=
(fX6_leftOf p0).bind fun x1 =>
jn_ (fun (v2 : Int32) => gz v2 (some v2)) fun k3 =>
if x1 = p1 then (k3 1) else (k3 0)
def bX6_productionsOf_4 (p1 : Int32) (c_codes : (Nat → Int32)) (c_count : Int32) (k2 : (Int32 → Option (Int32))) (rc5 : Int32 → Int32 → Option (Int32)) (v3 : Int32) (v4 : Int32) : Option (Int32) :=
if c_count ≤ v4 then (k2 v3) else ((ag c_codes 24 v4).bind fun x6 =>
(fX6_isOf x6 p1).bind fun x7 =>
jn_ (fun (v8 : Int32) => lt_ (v4 + 1) fun x9 =>
rc5 v8 x9) fun k10 =>
if x7 = 0 then (k10 v3) else (lt_ (v3 + 1) fun x11 =>
k10 x11))
def fX6_productionsOf (N : Nat) (c_codes : (Nat → Int32)) (c_count : Int32) (p1 : Int32) : Option (Int32) :=
jn_ (fun (v1 : Int32) => some v1) fun k2 =>
itr2 (bX6_productionsOf_4 p1 c_codes c_count k2) N 0 0
def bX8_entriesOf_4 (p1 : Int32) (c_possible : (Nat → Int32)) (k2 : (Int32 → Option (Int32))) (rc5 : Int32 → Int32 → Option (Int32)) (v3 : Int32) (v4 : Int32) : Option (Int32) :=
if 9 ≤ v4 then (k2 v3) else ((ag c_possible 72 ((p1 * (9 : Int32)) + v4)).bind fun x6 =>
jn_ (fun (v7 : Int32) => lt_ (v4 + 1) fun x8 =>
rc5 v7 x8) fun k9 =>
if x6 ≤ 0 then (k9 v3) else (lt_ (v3 + 1) fun x10 =>
k9 x10))
def fX8_entriesOf (N : Nat) (c_possible : (Nat → Int32)) (p1 : Int32) : Option (Int32) :=
jn_ (fun (v1 : Int32) => some v1) fun k2 =>
itr2 (bX8_entriesOf_4 p1 c_possible k2) N 0 0
def fX4_explainNoEntry (N : Nat) (c_rules_codes : (Nat → Int32)) (c_rules_count : Int32) (c_table_possible : (Nat → Int32)) (c_p1_codes : (Nat → Int32)) (c_p1_details : (Nat → Int32)) (c_p1_levels : Int32) (p2 : Int32) : Option ((Nat → Int32) × (Nat → Int32) × Int32) :=
bd3 (fX1_because c_p1_codes c_p1_details c_p1_levels 3 p2) fun o1 o2 o3 =>
(fX6_productionsOf N c_rules_codes c_rules_count p2).bind fun x4 =>
jn3 (fun (v5 : (Nat → Int32)) (v6 : (Nat → Int32)) (v7 : Int32) => some (v5, v6, v7)) fun k8 =>
if x4 = 0 then (bd3 (fX1_because o1 o2 o3 5 p2) fun o13 o14 o15 =>
k8 o13 o14 o15) else ((fX8_entriesOf N c_table_possible p2).bind fun x9 =>
bd3 (fX1_because o1 o2 o3 6 x9) fun o10 o11 o12 =>
k8 o10 o11 o12)
def fX4_explain (N : Nat) (c_rules_codes : (Nat → Int32)) (c_rules_count : Int32) (c_table_possible : (Nat → Int32)) (c_input_length : Int32) (c_stack : (Nat → Int32)) (c_depth : Int32) (c_index : Int32) (c_steps : Int32) (c_p1_codes : (Nat → Int32)) (c_p1_details : (Nat → Int32)) (c_p1_levels : Int32) (p2 : Int32) : Option ((Nat → Int32) × (Nat → Int32) × Int32) :=
bd3 (fX1_begin c_p1_codes c_p1_details c_p1_levels 1 c_index) fun o1 o2 o3 =>
jn3 (fun (v4 : (Nat → Int32)) (v5 : (Nat → Int32)) (v6 : Int32) => some (v4, v5, v6)) fun k7 =>
if p2 = (-6) then (bd3 (fX1_because o1 o2 o3 7 c_steps) fun o20 o21 o22 =>
k7 o20 o21 o22) else (if c_depth = 0 then (bd3 (fX1_because o1 o2 o3 4 (c_input_length - c_index)) fun o17 o18 o19 =>
k7 o17 o18 o19) else ((fX4_top c_stack c_depth).bind fun x8 =>
if 10 ≤ x8 then ((fX4_top c_stack c_depth).bind fun x9 =>
bd3 (fX4_explainNoEntry N c_rules_codes c_rules_count c_table_possible o1 o2 o3 (x9 - (10 : Int32))) fun o10 o11 o12 =>
k7 o10 o11 o12) else ((fX4_top c_stack c_depth).bind fun x13 =>
bd3 (fX1_because o1 o2 o3 2 x13) fun o14 o15 o16 =>
k7 o14 o15 o16)))
def fX4_errorPart (c_errorParts : (Nat → Int32)) (c_errorCount : Int32) (p1 : Int32) (p2 : Int32) : Option (Int32) :=
jn_ (fun (v1 : Int32) => some v1) fun k2 =>
jn_ (fun (v3 : Unit) => k2 (-2)) fun k4 =>
if p1 < 0 then (k4 ()) else (if c_errorCount ≤ p1 then (k4 ()) else ((ag c_errorParts 900 ((p1 * (3 : Int32)) + p2)).bind fun x5 =>
k2 x5))
def fX5_wordOf (p0 : Int32) (p1 : Int32) (p2 : Int32) : Option (Int32) :=
some ((((p0 * (9 : Int32)) + p1) * (18 : Int32)) + p2)
def bX5_putTerminals_2 (p1 : Int32) (p2 : Int32) (c_input_terminals : (Nat → Int32)) (c_input_length : Int32) (c_weights : (Nat → Int32)) (k4 : ((Nat → Int32) → (Nat → Int64) → (Nat → Int64) → Option ((Nat → Int32) × (Nat → Int64) × (Nat → Int64)))) (rc9 : Int32 → (Nat → Int32) → (Nat → Int64) → (Nat → Int64) → Option ((Nat → Int32) × (Nat → Int64) × (Nat → Int64))) (v5 : Int32) (v6 : (Nat → Int32)) (v7 : (Nat → Int64)) (v8 : (Nat → Int64)) : Option ((Nat → Int32) × (Nat → Int64) × (Nat → Int64)) :=
if 8 ≤ v5 then (k4 v6 v7 v8) else ((fX5_wordOf p1 p2 v5).bind fun x10 =>
jn3 (fun (v11 : (Nat → Int32)) (v12 : (Nat → Int64)) (v13 : (Nat → Int64)) => lt_ (v5 + 1) fun x14 =>
rc9 x14 v11 v12 v13) fun k15 =>
jn_ (fun (v16 : Unit) => (ag c_weights 8 v5).bind fun x17 =>
bd3 (fX10_putTerminal 1469 v6 v7 v8 x10 v5 x17) fun o18 o19 o20 =>
k15 o18 o19 o20) fun k21 =>
if p2 = p1 then (k21 ()) else (jn_ (fun (v22 : Unit) => bd3 (fX10_putNone 1469 v6 v7 v8 x10) fun o23 o24 o25 =>
k15 o23 o24 o25) fun k26 =>
if p2 = (p1 + (1 : Int32)) then ((fX3_tokenAt c_input_terminals c_input_length p1).bind fun x27 =>
if x27 = v5 then (k21 ()) else (k26 ())) else (k26 ())))
def fX5_putTerminals (N : Nat) (c_input_terminals : (Nat → Int32)) (c_input_length : Int32) (c_weights : (Nat → Int32)) (c_words_costs : (Nat → Int32)) (c_words_highs : (Nat → Int64)) (c_words_lows : (Nat → Int64)) (p1 : Int32) (p2 : Int32) : Option ((Nat → Int32) × (Nat → Int64) × (Nat → Int64)) :=
jn3 (fun (v1 : (Nat → Int32)) (v2 : (Nat → Int64)) (v3 : (Nat → Int64)) => some (v1, v2, v3)) fun k4 =>
itr4 (bX5_putTerminals_2 p1 p2 c_input_terminals c_input_length c_weights k4) N 0 c_words_costs c_words_highs c_words_lows
def fX10_lowerToJoined (n : Nat) (c_costs : (Nat → Int32)) (c_highs : (Nat → Int64)) (c_lows : (Nat → Int64)) (p1 : Int32) (p2 : Int32) (p3 : Int32) : Option ((Nat → Int32) × (Nat → Int64) × (Nat → Int64)) :=
(ag c_costs n p2).bind fun x1 =>
(ag c_costs n p3).bind fun x2 =>
lt_ (x1 + x2) fun x3 =>
jn_ (fun (v4 : Unit) => some (c_costs, c_highs, c_lows)) fun k5 =>
if 41984 ≤ x3 then (k5 ()) else ((ag c_costs n p1).bind fun x6 =>
if x3 ≤ x6 then ((fX10_joinedHigh n c_costs c_highs c_lows p2 p3).bind fun x7 =>
(fX10_joinedLow n c_costs c_lows p2 p3).bind fun x8 =>
(fX10_isLess n c_costs c_highs c_lows p1 x3 x7 x8).bind fun x9 =>
jn3 (fun (v10 : (Nat → Int32)) (v11 : (Nat → Int64)) (v12 : (Nat → Int64)) => some (v10, v11, v12)) fun k13 =>
if x9 = 0 then (k13 c_costs c_highs c_lows) else (bd3 (fX10_put n c_costs c_highs c_lows p1 x3 x7 x8) fun o14 o15 o16 =>
k13 o14 o15 o16)) else (k5 ()))
def bX5_extendCover_24 (p1 : Int32) (p3 : Int32) (v5 : Int32) (k20 : ((Nat → Int32) → (Nat → Int64) → (Nat → Int64) → Option ((Nat → Int32) × (Nat → Int64) × (Nat → Int64)))) (rc25 : Int32 → (Nat → Int32) → (Nat → Int64) → (Nat → Int64) → Option ((Nat → Int32) × (Nat → Int64) × (Nat → Int64))) (v21 : Int32) (v22 : (Nat → Int32)) (v23 : (Nat → Int64)) (v24 : (Nat → Int64)) : Option ((Nat → Int32) × (Nat → Int64) × (Nat → Int64)) :=
if v5 < v21 then (k20 v22 v23 v24) else (if p3 < v21 then (k20 v22 v23 v24) else ((fX5_wordOf v21 v5 p1).bind fun x26 =>
bd3 (fX10_lowerToJoined 1469 v22 v23 v24 1467 ((1458 : Int32) + v21) x26) fun o27 o28 o29 =>
lt_ (v21 + 1) fun x30 =>
rc25 x30 o27 o28 o29))
def bX5_extendCover_4 (N : Nat) (p1 : Int32) (p2 : Int32) (p3 : Int32) (p4 : Int32) (k4 : ((Nat → Int32) → (Nat → Int64) → (Nat → Int64) → Option ((Nat → Int32) × (Nat → Int64) × (Nat → Int64)))) (rc9 : Int32 → (Nat → Int32) → (Nat → Int64) → (Nat → Int64) → Option ((Nat → Int32) × (Nat → Int64) × (Nat → Int64))) (v5 : Int32) (v6 : (Nat → Int32)) (v7 : (Nat → Int64)) (v8 : (Nat → Int64)) : Option ((Nat → Int32) × (Nat → Int64) × (Nat → Int64)) :=
if v5 < p4 then (k4 v6 v7 v8) else (bd3 (fX10_putNone 1469 v6 v7 v8 1467) fun o10 o11 o12 =>
jn3 (fun (v13 : (Nat → Int32)) (v14 : (Nat → Int64)) (v15 : (Nat → Int64)) => bd3 (fX10_putCopy 1469 v13 v14 v15 ((1458 : Int32) + v5) 1467) fun o16 o17 o18 =>
lt_ (v5 + (-1)) fun x19 =>
rc9 x19 o16 o17 o18) fun k20 =>
itr4 (bX5_extendCover_24 p1 p3 v5 k20) N p2 o10 o11 o12)
def fX5_extendCover (N : Nat) (c_words_costs : (Nat → Int32)) (c_words_highs : (Nat → Int64)) (c_words_lows : (Nat → Int64)) (p1 : Int32) (p2 : Int32) (p3 : Int32) (p4 : Int32) (p5 : Int32) : Option ((Nat → Int32) × (Nat → Int64) × (Nat → Int64)) :=
jn3 (fun (v1 : (Nat → Int32)) (v2 : (Nat → Int64)) (v3 : (Nat → Int64)) => some (v1, v2, v3)) fun k4 =>
itr4 (bX5_extendCover_4 N p1 p2 p3 p4 k4) N p5 c_words_costs c_words_highs c_words_lows
def bX5_lowerBy_51 (N : Nat) (p1 : Int32) (p2 : Int32) (p3 : Int32) (x8 : Int32) (k18 : ((Nat → Int32) → (Nat → Int64) → (Nat → Int64) → Option (Int32 × (Nat → Int32) × (Nat → Int64) × (Nat → Int64)))) (rc23 : Int32 → (Nat → Int32) → (Nat → Int64) → (Nat → Int64) → Option (Int32 × (Nat → Int32) × (Nat → Int64) × (Nat → Int64))) (v19 : Int32) (v20 : (Nat → Int32)) (v21 : (Nat → Int64)) (v22 : (Nat → Int64)) : Option (Int32 × (Nat → Int32) × (Nat → Int64) × (Nat → Int64)) :=
if x8 < v19 then (k18 v20 v21 v22) else ((fX6_symbolOf p1 v19).bind fun x24 =>
jn_ (fun (v25 : Int32) => jn_ (fun (v26 : Int32) => bd3 (fX5_extendCover N v20 v21 v22 x24 p2 v25 v26 p3) fun o27 o28 o29 =>
lt_ (v19 + 1) fun x30 =>
rc23 x30 o27 o28 o29) fun k31 =>
if v19 = x8 then (k31 p3) else (k31 p2)) fun k32 =>
if v19 = 0 then (k32 p2) else (k32 p3))
def bX5_lowerBy_3 (p3 : Int32) (k36 : ((Nat → Int32) → (Nat → Int64) → (Nat → Int64) → Option (Int32 × (Nat → Int32) × (Nat → Int64) × (Nat → Int64)))) (rc41 : Int32 → (Nat → Int32) → (Nat → Int64) → (Nat → Int64) → Option (Int32 × (Nat → Int32) × (Nat → Int64) × (Nat → Int64))) (v37 : Int32) (v38 : (Nat → Int32)) (v39 : (Nat → Int64)) (v40 : (Nat → Int64)) : Option (Int32 × (Nat → Int32) × (Nat → Int64) × (Nat → Int64)) :=
if p3 < v37 then (k36 v38 v39 v40) else (bd3 (fX10_putNone 1469 v38 v39 v40 ((1458 : Int32) + v37)) fun o42 o43 o44 =>
lt_ (v37 + 1) fun x45 =>
rc41 x45 o42 o43 o44)
def fX5_lowerBy (N : Nat) (c_words_costs : (Nat → Int32)) (c_words_highs : (Nat → Int64)) (c_words_lows : (Nat → Int64)) (p1 : Int32) (p2 : Int32) (p3 : Int32) : Option (Int32 × (Nat → Int32) × (Nat → Int64) × (Nat → Int64)) :=
jn3 (fun (v1 : (Nat → Int32)) (v2 : (Nat → Int64)) (v3 : (Nat → Int64)) => bd3 (fX10_putEmpty 1469 v1 v2 v3 ((1458 : Int32) + p2)) fun o4 o5 o6 =>
(fX6_lengthOf p1).bind fun x7 =>
lt_ (x7 - (1 : Int32)) fun x8 =>
jn3 (fun (v9 : (Nat → Int32)) (v10 : (Nat → Int64)) (v11 : (Nat → Int64)) => (fX6_leftOf p1).bind fun x12 =>
(fX5_wordOf p2 p3 ((10 : Int32) + x12)).bind fun x13 =>
bd4 (fX10_lower 1469 v9 v10 v11 x13 ((1458 : Int32) + p3)) fun o17 o14 o15 o16 =>
gz o17 (some (o17, o14, o15, o16))) fun k18 =>
itr4 (bX5_lowerBy_51 N p1 p2 p3 x8 k18) N 0 o4 o5 o6) fun k36 =>
itr4 (bX5_lowerBy_3 p3 k36) N p2 c_words_costs c_words_highs c_words_lows
def bX5_findWords_58 (N : Nat) (p1 : Int32) (p2 : Int32) (c_rules_codes : (Nat → Int32)) (c_rules_count : Int32) (k22 : (Int32 → (Nat → Int32) → (Nat → Int64) → (Nat → Int64) → Option ((Nat → Int32) × (Nat → Int64) × (Nat → Int64)))) (rc28 : Int32 → Int32 → (Nat → Int32) → (Nat → Int64) → (Nat → Int64) → Option ((Nat → Int32) × (Nat → Int64) × (Nat → Int64))) (v23 : Int32) (v24 : Int32) (v25 : (Nat → Int32)) (v26 : (Nat → Int64)) (v27 : (Nat → Int64)) : Option ((Nat → Int32) × (Nat → Int64) × (Nat → Int64)) :=
if c_rules_count ≤ v24 then (k22 v23 v25 v26 v27) else ((ag c_rules_codes 24 v24).bind fun x29 =>
bd4 (fX5_lowerBy N v25 v26 v27 x29 p1 p2) fun o33 o30 o31 o32 =>
jn_ (fun (v34 : Int32) => lt_ (v24 + 1) fun x35 =>
rc28 v34 x35 o30 o31 o32) fun k36 =>
jn_ (fun (v37 : Unit) => k36 1) fun k38 =>
if o33 = 0 then (if v23 = 0 then (k36 0) else (k38 ())) else (k38 ()))
def bX5_findWords_41 (N : Nat) (p1 : Int32) (p2 : Int32) (c_rules_codes : (Nat → Int32)) (c_rules_count : Int32) (k10 : ((Nat → Int32) → (Nat → Int64) → (Nat → Int64) → Option ((Nat → Int32) × (Nat → Int64) × (Nat → Int64)))) (rc16 : Int32 → Int32 → (Nat → Int32) → (Nat → Int64) → (Nat → Int64) → Option ((Nat → Int32) × (Nat → Int64) × (Nat → Int64))) (v11 : Int32) (v12 : Int32) (v13 : (Nat → Int32)) (v14 : (Nat → Int64)) (v15 : (Nat → Int64)) : Option ((Nat → Int32) × (Nat → Int64) × (Nat → Int64)) :=
if 1000 ≤ v12 then (k10 v13 v14 v15) else (if v11 = 0 then (k10 v13 v14 v15) else (jn4 (fun (v17 : Int32) (v18 : (Nat → Int32)) (v19 : (Nat → Int64)) (v20 : (Nat → Int64)) => lt_ (v12 + 1) fun x21 =>
rc16 v17 x21 v18 v19 v20) fun k22 =>
itr5 (bX5_findWords_58 N p1 p2 c_rules_codes c_rules_count k22) N 0 0 v13 v14 v15))
def bX5_findWords_8 (p1 : Int32) (p2 : Int32) (k46 : ((Nat → Int32) → (Nat → Int64) → (Nat → Int64) → Option ((Nat → Int32) × (Nat → Int64) × (Nat → Int64)))) (rc51 : Int32 → (Nat → Int32) → (Nat → Int64) → (Nat → Int64) → Option ((Nat → Int32) × (Nat → Int64) × (Nat → Int64))) (v47 : Int32) (v48 : (Nat → Int32)) (v49 : (Nat → Int64)) (v50 : (Nat → Int64)) : Option ((Nat → Int32) × (Nat → Int64) × (Nat → Int64)) :=
if 8 ≤ v47 then (k46 v48 v49 v50) else ((fX5_wordOf p1 p2 ((10 : Int32) + v47)).bind fun x52 =>
bd3 (fX10_putNone 1469 v48 v49 v50 x52) fun o53 o54 o55 =>
lt_ (v47 + 1) fun x56 =>
rc51 x56 o53 o54 o55)
def fX5_findWords (N : Nat) (c_rules_codes : (Nat → Int32)) (c_rules_count : Int32) (c_input_terminals : (Nat → Int32)) (c_input_length : Int32) (c_weights : (Nat → Int32)) (c_words_costs : (Nat → Int32)) (c_words_highs : (Nat → Int64)) (c_words_lows : (Nat → Int64)) (p1 : Int32) (p2 : Int32) : Option ((Nat → Int32) × (Nat → Int64) × (Nat → Int64)) :=
bd3 (fX5_putTerminals N c_input_terminals c_input_length c_weights c_words_costs c_words_highs c_words_lows p1 p2) fun o1 o2 o3 =>
jn3 (fun (v4 : (Nat → Int32)) (v5 : (Nat → Int64)) (v6 : (Nat → Int64)) => jn3 (fun (v7 : (Nat → Int32)) (v8 : (Nat → Int64)) (v9 : (Nat → Int64)) => some (v7, v8, v9)) fun k10 =>
itr5 (bX5_findWords_41 N p1 p2 c_rules_codes c_rules_count k10) N 1 0 v4 v5 v6) fun k46 =>
itr4 (bX5_findWords_8 p1 p2 k46) N 0 o1 o2 o3
def fX10_lengthOf (n : Nat) (c_costs : (Nat → Int32)) (p1 : Int32) : Option (Int32) :=
(fX10_exists n c_costs p1).bind fun x1 =>
jn_ (fun (v2 : Int32) => some v2) fun k3 =>
if x1 = 0 then (k3 (-2)) else ((ag c_costs n p1).bind fun x4 =>
k3 (x4 >>> ((10 : Int32) &&& (31 : Int32))))
def bX5_findLeastInsertions_21 (N : Nat) (c_rules_codes : (Nat → Int32)) (c_rules_count : Int32) (c_input_terminals : (Nat → Int32)) (c_input_length : Int32) (c_weights : (Nat → Int32)) (x1 : Int32) (v12 : Int32) (k21 : ((Nat → Int32) → (Nat → Int64) → (Nat → Int64) → Option (Int32 × (Nat → Int32) × (Nat → Int64) × (Nat → Int64)))) (rc26 : Int32 → (Nat → Int32) → (Nat → Int64) → (Nat → Int64) → Option (Int32 × (Nat → Int32) × (Nat → Int64) × (Nat → Int64))) (v22 : Int32) (v23 : (Nat → Int32)) (v24 : (Nat → Int64)) (v25 : (Nat → Int64)) : Option (Int32 × (Nat → Int32) × (Nat → Int64) × (Nat → Int64)) :=
if x1 < v22 then (k21 v23 v24 v25) else (bd3 (fX5_findWords N c_rules_codes c_rules_count c_input_terminals c_input_length c_weights v23 v24 v25 v12 v22) fun o27 o28 o29 =>
lt_ (v22 + 1) fun x30 =>
rc26 x30 o27 o28 o29)
def bX5_findLeastInsertions_15 (N : Nat) (c_rules_codes : (Nat → Int32)) (c_rules_count : Int32) (c_input_terminals : (Nat → Int32)) (c_input_length : Int32) (c_weights : (Nat → Int32)) (x1 : Int32) (k11 : ((Nat → Int32) → (Nat → Int64) → (Nat → Int64) → Option (Int32 × (Nat → Int32) × (Nat → Int64) × (Nat → Int64)))) (rc16 : Int32 → (Nat → Int32) → (Nat → Int64) → (Nat → Int64) → Option (Int32 × (Nat → Int32) × (Nat → Int64) × (Nat → Int64))) (v12 : Int32) (v13 : (Nat → Int32)) (v14 : (Nat → Int64)) (v15 : (Nat → Int64)) : Option (Int32 × (Nat → Int32) × (Nat → Int64) × (Nat → Int64)) :=
if v12 < 0 then (k11 v13 v14 v15) else (jn3 (fun (v17 : (Nat → Int32)) (v18 : (Nat → Int64)) (v19 : (Nat → Int64)) => lt_ (v12 + (-1)) fun x20 =>
rc16 x20 v17 v18 v19) fun k21 =>
itr4 (bX5_findLeastInsertions_21 N c_rules_codes c_rules_count c_input_terminals c_input_length c_weights x1 v12 k21) N v12 v13 v14 v15)
def fX5_findLeastInsertions (N : Nat) (c_rules_codes : (Nat → Int32)) (c_rules_count : Int32) (c_input_terminals : (Nat → Int32)) (c_input_length : Int32) (c_weights : (Nat → Int32)) (c_words_costs : (Nat → Int32)) (c_words_highs : (Nat → Int64)) (c_words_lows : (Nat → Int64)) : Option (Int32 × (Nat → Int32) × (Nat → Int64) × (Nat → Int64)) :=
lt_ (if 8 < c_input_length then 8 else c_input_length) fun x1 =>
jn3 (fun (v2 : (Nat → Int32)) (v3 : (Nat → Int64)) (v4 : (Nat → Int64)) => (fX5_wordOf 0 x1 10).bind fun x5 =>
(fX10_exists 1469 v2 x5).bind fun x6 =>
if x6 = 0 then (some ((-2), v2, v3, v4)) else (bd3 (fX10_putCopy 1469 v2 v3 v4 1468 x5) fun o7 o8 o9 =>
(fX10_lengthOf 1469 o7 1468).bind fun x10 =>
some ((x10 - x1), o7, o8, o9))) fun k11 =>
itr4 (bX5_findLeastInsertions_15 N c_rules_codes c_rules_count c_input_terminals c_input_length c_weights x1 k11) N x1 c_words_costs c_words_highs c_words_lows
def fX6_emptyOf (p0 : Int32) : Option (Int32) :=
some p0
def fX6_isRecursive (p0 : Int32) : Option (Int32) :=
(fX6_lengthOf p0).bind fun x1 =>
jn_ (fun (v2 : Int32) => gz v2 (some v2)) fun k3 =>
jn_ (fun (v4 : Unit) => k3 0) fun k5 =>
if x1 ≤ 0 then (k5 ()) else ((fX6_symbolOf p0 0).bind fun x6 =>
(fX6_leftOf p0).bind fun x7 =>
if x6 = ((10 : Int32) + x7) then (k3 1) else (k5 ()))
def fX6_extended (p0 : Int32) (p1 : Int32) : Option (Int32) :=
(fX6_lengthOf p0).bind fun x1 =>
some ((p0 + (8 : Int32)) + (p1 <<< (((6 : Int32) + ((5 : Int32) * x1)) &&& (31 : Int32))))
def fX6_extendedByArgument (p0 : Int32) (p1 : Int32) (p2 : Int32) : Option (Int32) :=
jn_ (fun (v1 : Unit) => some p0) fun k2 =>
if p0 < 0 then (k2 ()) else (if p2 = (-1) then (k2 ()) else (jn_ (fun (v3 : Int32) => jn_ (fun (v4 : Int32) => (fX6_lengthOf p0).bind fun x5 =>
jn_ (fun (v6 : Unit) => some (-1)) fun k7 =>
if x5 = p1 then (jn_ (fun (v8 : Unit) => (fX6_extended p0 p2).bind fun x9 =>
some x9) fun k10 =>
if v3 = 0 then (if v4 = 0 then (k7 ()) else (k10 ())) else (k10 ())) else (k7 ())) fun k11 =>
jn_ (fun (v12 : Unit) => k11 0) fun k13 =>
if p2 < 10 then (k13 ()) else (if 18 ≤ p2 then (k13 ()) else (k11 1))) fun k14 =>
jn_ (fun (v15 : Unit) => k14 0) fun k16 =>
if p2 < 0 then (k16 ()) else (if 8 ≤ p2 then (k16 ()) else (k14 1))))
def bX6_nonterminalsIn_4 (p0 : Int32) (k2 : (Int32 → Option (Int32))) (rc5 : Int32 → Int32 → Option (Int32)) (v3 : Int32) (v4 : Int32) : Option (Int32) :=
(fX6_lengthOf p0).bind fun x6 =>
if x6 ≤ v4 then (k2 v3) else ((fX6_symbolOf p0 v4).bind fun x7 =>
jn_ (fun (v8 : Int32) => lt_ (v4 + 1) fun x9 =>
rc5 v8 x9) fun k10 =>
if x7 < 10 then (k10 v3) else (lt_ (v3 ||| ((1 : Int32) <<< ((x7 - (10 : Int32)) &&& (31 : Int32)))) fun x11 =>
k10 x11))
def fX6_nonterminalsIn (N : Nat) (p0 : Int32) : Option (Int32) :=
jn_ (fun (v1 : Int32) => some v1) fun k2 =>
itr2 (bX6_nonterminalsIn_4 p0 k2) N 0 0
def bX6_prefixOf_10 (p0 : Int32) (p1 : Int32) (k4 : (Int32 → Option (Int32))) (rc7 : Int32 → Int32 → Option (Int32)) (v5 : Int32) (v6 : Int32) : Option (Int32) :=
if p1 ≤ v6 then (k4 v5) else ((fX6_symbolOf p0 v6).bind fun x8 =>
(fX6_extended v5 x8).bind fun x9 =>
lt_ (v6 + 1) fun x10 =>
rc7 x9 x10)
def fX6_prefixOf (N : Nat) (p0 : Int32) (p1 : Int32) : Option (Int32) :=
(fX6_leftOf p0).bind fun x1 =>
(fX6_emptyOf x1).bind fun x2 =>
jn_ (fun (v3 : Int32) => some v3) fun k4 =>
itr2 (bX6_prefixOf_10 p0 p1 k4) N x2 0
def bX6_suffixOf_8 (p0 : Int32) (k3 : (Int32 → Option (Int32))) (rc6 : Int32 → Int32 → Option (Int32)) (v4 : Int32) (v5 : Int32) : Option (Int32) :=
(fX6_lengthOf p0).bind fun x7 =>
if x7 ≤ v5 then (k3 v4) else ((fX6_symbolOf p0 v5).bind fun x8 =>
(fX6_extended v4 x8).bind fun x9 =>
lt_ (v5 + 1) fun x10 =>
rc6 x9 x10)
def fX6_suffixOf (N : Nat) (p0 : Int32) (p1 : Int32) (p2 : Int32) : Option (Int32) :=
(fX6_emptyOf p2).bind fun x1 =>
jn_ (fun (v2 : Int32) => some v2) fun k3 =>
itr2 (bX6_suffixOf_8 p0 k3) N x1 p1
def bX6_commonPrefix_14 (p0 : Int32) (p1 : Int32) (x3 : Int32) (k5 : (Unit → Option (Int32))) (rc7 : Int32 → Option (Int32)) (v6 : Int32) : Option (Int32) :=
if x3 ≤ v6 then (k5 ()) else ((fX6_symbolOf p0 v6).bind fun x8 =>
(fX6_symbolOf p1 v6).bind fun x9 =>
if x8 = x9 then (lt_ (v6 + 1) fun x10 =>
rc7 x10) else (some v6))
def fX6_commonPrefix (N : Nat) (p0 : Int32) (p1 : Int32) : Option (Int32) :=
(fX6_lengthOf p0).bind fun x1 =>
(fX6_lengthOf p1).bind fun x2 =>
lt_ (if x2 < x1 then x2 else x1) fun x3 =>
jn_ (fun (v4 : Unit) => some x3) fun k5 =>
itr (bX6_commonPrefix_14 p0 p1 x3 k5) N 0
def bX6_find_2 (p1 : Int32) (c_codes : (Nat → Int32)) (c_count : Int32) (k2 : (Unit → Option (Int32))) (rc4 : Int32 → Option (Int32)) (v3 : Int32) : Option (Int32) :=
if c_count ≤ v3 then (k2 ()) else ((ag c_codes 24 v3).bind fun x5 =>
if x5 = p1 then (some v3) else (lt_ (v3 + 1) fun x6 =>
rc4 x6))
def fX6_find (N : Nat) (c_codes : (Nat → Int32)) (c_count : Int32) (p1 : Int32) : Option (Int32) :=
jn_ (fun (v1 : Unit) => some (-1)) fun k2 =>
itr (bX6_find_2 p1 c_codes c_count k2) N 0
def fX6_add (c_codes : (Nat → Int32)) (c_count : Int32) (p1 : Int32) : Option ((Nat → Int32) × Int32) :=
jn2 (fun (v1 : (Nat → Int32)) (v2 : Int32) => some (v1, v2)) fun k3 =>
if 24 ≤ c_count then (k3 c_codes c_count) else ((as_ c_codes 24 c_count p1).bind fun f4 =>
lt_ (c_count + (1 : Int32)) fun x5 =>
k3 f4 x5)
def bX6_removeAt_4 (c_count : Int32) (k4 : ((Nat → Int32) → Option ((Nat → Int32) × Int32))) (rc7 : Int32 → (Nat → Int32) → Option ((Nat → Int32) × Int32)) (v5 : Int32) (v6 : (Nat → Int32)) : Option ((Nat → Int32) × Int32) :=
if c_count ≤ v5 then (k4 v6) else ((ag v6 24 v5).bind fun x8 =>
(as_ v6 24 (v5 - (1 : Int32)) x8).bind fun f9 =>
lt_ (v5 + 1) fun x10 =>
rc7 x10 f9)
def fX6_removeAt (N : Nat) (c_codes : (Nat → Int32)) (c_count : Int32) (p1 : Int32) : Option ((Nat → Int32) × Int32) :=
lt_ (p1 + (1 : Int32)) fun x1 =>
jn_ (fun (v2 : (Nat → Int32)) => lt_ (c_count - (1 : Int32)) fun x3 =>
some (v2, x3)) fun k4 =>
itr2 (bX6_removeAt_4 c_count k4) N x1 c_codes
def fX6_removeAll (c_count : Int32) : Option (Int32) :=
some 0
def bX6_recursiveOf_4 (p1 : Int32) (c_codes : (Nat → Int32)) (c_count : Int32) (k2 : (Int32 → Option (Int32))) (rc5 : Int32 → Int32 → Option (Int32)) (v3 : Int32) (v4 : Int32) : Option (Int32) :=
if c_count ≤ v4 then (k2 v3) else ((ag c_codes 24 v4).bind fun x6 =>
(fX6_isOf x6 p1).bind fun x7 =>
jn_ (fun (v8 : Int32) => lt_ (v4 + 1) fun x9 =>
rc5 v8 x9) fun k10 =>
if x7 = 0 then (k10 v3) else ((ag c_codes 24 v4).bind fun x11 =>
(fX6_isRecursive x11).bind fun x12 =>
if x12 = 0 then (k10 v3) else (lt_ (v3 + 1) fun x13 =>
k10 x13)))
def fX6_recursiveOf (N : Nat) (c_codes : (Nat → Int32)) (c_count : Int32) (p1 : Int32) : Option (Int32) :=
jn_ (fun (v1 : Int32) => some v1) fun k2 =>
itr2 (bX6_recursiveOf_4 p1 c_codes c_count k2) N 0 0
def bX6_lowestFilledOther_2 (p1 : Int32) (c_codes : (Nat → Int32)) (c_count : Int32) (k2 : (Unit → Option (Int32))) (rc4 : Int32 → Option (Int32)) (v3 : Int32) : Option (Int32) :=
if c_count ≤ v3 then (k2 ()) else ((ag c_codes 24 v3).bind fun x5 =>
(fX6_isOf x5 p1).bind fun x6 =>
jn_ (fun (v7 : Unit) => lt_ (v3 + 1) fun x8 =>
rc4 x8) fun k9 =>
if x6 = 0 then (k9 ()) else ((fX6_isRecursive x5).bind fun x10 =>
if x10 = 0 then ((fX6_lengthOf x5).bind fun x11 =>
if x11 = 5 then (some v3) else (k9 ())) else (k9 ())))
def fX6_lowestFilledOther (N : Nat) (c_codes : (Nat → Int32)) (c_count : Int32) (p1 : Int32) : Option (Int32) :=
jn_ (fun (v1 : Unit) => some (-1)) fun k2 =>
itr (bX6_lowestFilledOther_2 p1 c_codes c_count k2) N 0
def bX6_unusedNonterminal_48 (v2 : Int32) (k4 : (Unit → Option (Int32))) (rc6 : Int32 → Option (Int32)) (v5 : Int32) : Option (Int32) :=
if 8 ≤ v5 then (k4 ()) else ((fX11_bit v2 v5).bind fun x7 =>
if x7 = 0 then (some v5) else (lt_ (v5 + 1) fun x8 =>
rc6 x8))
def bX6_unusedNonterminal_8 (N : Nat) (c_codes : (Nat → Int32)) (c_count : Int32) (k10 : (Int32 → Option (Int32))) (rc13 : Int32 → Int32 → Option (Int32)) (v11 : Int32) (v12 : Int32) : Option (Int32) :=
if c_count ≤ v12 then (k10 v11) else ((ag c_codes 24 v12).bind fun x14 =>
(fX6_leftOf x14).bind fun x15 =>
(fX6_nonterminalsIn N x14).bind fun x16 =>
lt_ (v11 ||| (((1 : Int32) <<< (x15 &&& (31 : Int32))) ||| x16)) fun x17 =>
lt_ (v12 + 1) fun x18 =>
rc13 x17 x18)
def fX6_unusedNonterminal (N : Nat) (c_codes : (Nat → Int32)) (c_count : Int32) (p1 : Int32) : Option (Int32) :=
lt_ ((1 : Int32) ||| ((1 : Int32) <<< (p1 &&& (31 : Int32)))) fun x1 =>
jn_ (fun (v2 : Int32) => jn_ (fun (v3 : Unit) => some (-1)) fun k4 =>
itr (bX6_unusedNonterminal_48 v2 k4) N 0) fun k10 =>
itr2 (bX6_unusedNonterminal_8 N c_codes c_count k10) N x1 0
def bX6_prefixSharedAfter_7 (N : Nat) (p1 : Int32) (p2 : Int32) (c_codes : (Nat → Int32)) (c_count : Int32) (k3 : (Int32 → Option (Int32))) (rc6 : Int32 → Int32 → Option (Int32)) (v4 : Int32) (v5 : Int32) : Option (Int32) :=
if c_count ≤ v5 then (k3 v4) else ((ag c_codes 24 p1).bind fun x7 =>
(fX6_isOf x7 p2).bind fun x8 =>
if x8 = 0 then (k3 v4) else ((ag c_codes 24 v5).bind fun x9 =>
(fX6_isOf x9 p2).bind fun x10 =>
jn_ (fun (v11 : Int32) => lt_ (v5 + 1) fun x12 =>
rc6 v11 x12) fun k13 =>
if x10 = 0 then (k13 v4) else ((ag c_codes 24 p1).bind fun x14 =>
(ag c_codes 24 v5).bind fun x15 =>
(fX6_commonPrefix N x14 x15).bind fun x16 =>
lt_ (if v4 < x16 then x16 else v4) fun x17 =>
k13 x17)))
def fX6_prefixSharedAfter (N : Nat) (c_codes : (Nat → Int32)) (c_count : Int32) (p1 : Int32) (p2 : Int32) : Option (Int32) :=
lt_ (p1 + (1 : Int32)) fun x1 =>
jn_ (fun (v2 : Int32) => some v2) fun k3 =>
itr2 (bX6_prefixSharedAfter_7 N p1 p2 c_codes c_count k3) N 0 x1
def bX6_longestCommonPrefix_4 (N : Nat) (p1 : Int32) (c_codes : (Nat → Int32)) (c_count : Int32) (k2 : (Int32 → Option (Int32))) (rc5 : Int32 → Int32 → Option (Int32)) (v3 : Int32) (v4 : Int32) : Option (Int32) :=
if c_count ≤ v4 then (k2 v3) else ((fX6_prefixSharedAfter N c_codes c_count v4 p1).bind fun x6 =>
lt_ (if v3 < x6 then x6 else v3) fun x7 =>
lt_ (v4 + 1) fun x8 =>
rc5 x7 x8)
def fX6_longestCommonPrefix (N : Nat) (c_codes : (Nat → Int32)) (c_count : Int32) (p1 : Int32) : Option (Int32) :=
jn_ (fun (v1 : Int32) => some v1) fun k2 =>
itr2 (bX6_longestCommonPrefix_4 N p1 c_codes c_count k2) N 0 0
def bX6_leadWithPrefix_2 (N : Nat) (p1 : Int32) (p2 : Int32) (c_codes : (Nat → Int32)) (c_count : Int32) (k2 : (Unit → Option (Int32))) (rc4 : Int32 → Option (Int32)) (v3 : Int32) : Option (Int32) :=
if c_count ≤ v3 then (k2 ()) else ((fX6_prefixSharedAfter N c_codes c_count v3 p1).bind fun x5 =>
if x5 = p2 then ((ag c_codes 24 v3).bind fun x7 =>
some x7) else (lt_ (v3 + 1) fun x6 =>
rc4 x6))
def fX6_leadWithPrefix (N : Nat) (c_codes : (Nat → Int32)) (c_count : Int32) (p1 : Int32) (p2 : Int32) : Option (Int32) :=
jn_ (fun (v1 : Unit) => some (-1)) fun k2 =>
itr (bX6_leadWithPrefix_2 N p1 p2 c_codes c_count k2) N 0
def bX6_factor_102 (N : Nat) (p2 : Int32) (p3 : Int32) (p4 : Int32) (c_p1_codes : (Nat → Int32)) (c_p1_count : Int32) (x1 : Int32) (k7 : ((Nat → Int32) → Int32 → Option ((Nat → Int32) × Int32))) (rc11 : Int32 → (Nat → Int32) → Int32 → Option ((Nat → Int32) × Int32)) (v8 : Int32) (v9 : (Nat → Int32)) (v10 : Int32) : Option ((Nat → Int32) × Int32) :=
if c_p1_count ≤ v8 then (k7 v9 v10) else ((ag c_p1_codes 24 v8).bind fun x12 =>
(fX6_isOf x12 p2).bind fun x13 =>
jn2 (fun (v14 : (Nat → Int32)) (v15 : Int32) => lt_ (v8 + 1) fun x16 =>
rc11 x16 v14 v15) fun k17 =>
if x13 = 0 then (k17 v9 v10) else ((fX6_commonPrefix N x12 x1).bind fun x18 =>
if x18 < p3 then (k17 v9 v10) else ((fX6_suffixOf N x12 p3 p4).bind fun x19 =>
bd2 (fX6_add v9 v10 x19) fun o20 o21 =>
k17 o20 o21)))
def bX6_factor_21 (N : Nat) (p2 : Int32) (p3 : Int32) (p4 : Int32) (c_p1_codes : (Nat → Int32)) (c_p1_count : Int32) (x1 : Int32) (k24 : ((Nat → Int32) → Int32 → Option ((Nat → Int32) × Int32))) (rc28 : Int32 → (Nat → Int32) → Int32 → Option ((Nat → Int32) × Int32)) (v25 : Int32) (v26 : (Nat → Int32)) (v27 : Int32) : Option ((Nat → Int32) × Int32) :=
if c_p1_count ≤ v25 then (k24 v26 v27) else ((ag c_p1_codes 24 v25).bind fun x29 =>
jn2 (fun (v30 : (Nat → Int32)) (v31 : Int32) => lt_ (v25 + 1) fun x32 =>
rc28 x32 v30 v31) fun k33 =>
if x29 = x1 then ((fX6_prefixOf N x29 p3).bind fun x40 =>
(fX6_extended x40 ((10 : Int32) + p4)).bind fun x41 =>
bd2 (fX6_add v26 v27 x41) fun o42 o43 =>
k33 o42 o43) else ((fX6_isOf x29 p2).bind fun x34 =>
jn_ (fun (v35 : Unit) => bd2 (fX6_add v26 v27 x29) fun o36 o37 =>
k33 o36 o37) fun k38 =>
if x34 = 0 then (k38 ()) else ((fX6_commonPrefix N x29 x1).bind fun x39 =>
if p3 ≤ x39 then (k33 v26 v27) else (k38 ()))))
def fX6_factor (N : Nat) (c_codes : (Nat → Int32)) (c_count : Int32) (c_p1_codes : (Nat → Int32)) (c_p1_count : Int32) (p2 : Int32) (p3 : Int32) (p4 : Int32) : Option ((Nat → Int32) × Int32) :=
(fX6_leadWithPrefix N c_p1_codes c_p1_count p2 p3).bind fun x1 =>
if 0 ≤ x1 then ((fX6_removeAll c_count).bind fun o2 =>
jn2 (fun (v3 : (Nat → Int32)) (v4 : Int32) => jn2 (fun (v5 : (Nat → Int32)) (v6 : Int32) => some (v5, v6)) fun k7 =>
itr3 (bX6_factor_102 N p2 p3 p4 c_p1_codes c_p1_count x1 k7) N 0 v3 v4) fun k24 =>
itr3 (bX6_factor_21 N p2 p3 p4 c_p1_codes c_p1_count x1 k24) N 0 c_codes o2) else (some (c_codes, c_count))
def bX6_turnRecursion_77 (N : Nat) (p2 : Int32) (p3 : Int32) (c_p1_codes : (Nat → Int32)) (c_p1_count : Int32) (x1 : Int32) (k10 : ((Nat → Int32) → Int32 → Option ((Nat → Int32) × Int32))) (rc14 : Int32 → (Nat → Int32) → Int32 → Option ((Nat → Int32) × Int32)) (v11 : Int32) (v12 : (Nat → Int32)) (v13 : Int32) : Option ((Nat → Int32) × Int32) :=
if c_p1_count ≤ v11 then (k10 v12 v13) else ((ag c_p1_codes 24 v11).bind fun x15 =>
(fX6_isOf x15 p2).bind fun x16 =>
jn2 (fun (v17 : (Nat → Int32)) (v18 : Int32) => lt_ (v11 + 1) fun x19 =>
rc14 x19 v17 v18) fun k20 =>
if x16 = 0 then (k20 v12 v13) else ((fX6_isRecursive x15).bind fun x21 =>
if x21 = 0 then (k20 v12 v13) else ((fX6_suffixOf N x15 1 p3).bind fun x22 =>
(fX6_extended x22 x1).bind fun x23 =>
bd2 (fX6_add v12 v13 x23) fun o24 o25 =>
k20 o24 o25)))
def bX6_turnRecursion_13 (p2 : Int32) (c_p1_codes : (Nat → Int32)) (c_p1_count : Int32) (x1 : Int32) (k28 : ((Nat → Int32) → Int32 → Option ((Nat → Int32) × Int32))) (rc32 : Int32 → (Nat → Int32) → Int32 → Option ((Nat → Int32) × Int32)) (v29 : Int32) (v30 : (Nat → Int32)) (v31 : Int32) : Option ((Nat → Int32) × Int32) :=
if c_p1_count ≤ v29 then (k28 v30 v31) else ((ag c_p1_codes 24 v29).bind fun x33 =>
(fX6_isOf x33 p2).bind fun x34 =>
jn2 (fun (v35 : (Nat → Int32)) (v36 : Int32) => lt_ (v29 + 1) fun x37 =>
rc32 x37 v35 v36) fun k38 =>
if x34 = 0 then (bd2 (fX6_add v30 v31 x33) fun o43 o44 =>
k38 o43 o44) else ((fX6_isRecursive x33).bind fun x39 =>
if x39 = 0 then ((fX6_extended x33 x1).bind fun x40 =>
bd2 (fX6_add v30 v31 x40) fun o41 o42 =>
k38 o41 o42) else (k38 v30 v31)))
def fX6_turnRecursion (N : Nat) (c_codes : (Nat → Int32)) (c_count : Int32) (c_p1_codes : (Nat → Int32)) (c_p1_count : Int32) (p2 : Int32) (p3 : Int32) : Option ((Nat → Int32) × Int32) :=
lt_ ((10 : Int32) + p3) fun x1 =>
(fX6_removeAll c_count).bind fun o2 =>
jn2 (fun (v3 : (Nat → Int32)) (v4 : Int32) => jn2 (fun (v5 : (Nat → Int32)) (v6 : Int32) => (fX6_emptyOf p3).bind fun x7 =>
bd2 (fX6_add v5 v6 x7) fun o8 o9 =>
some (o8, o9)) fun k10 =>
itr3 (bX6_turnRecursion_77 N p2 p3 c_p1_codes c_p1_count x1 k10) N 0 v3 v4) fun k28 =>
itr3 (bX6_turnRecursion_13 p2 c_p1_codes c_p1_count x1 k28) N 0 c_codes o2
def fX7_become (c_nullable : Int32) (c_first : (Nat → Int32)) (c_follow : (Nat → Int32)) (c_p1_nullable : Int32) (c_p1_first : (Nat → Int32)) (c_p1_follow : (Nat → Int32)) : Option (Int32 × (Nat → Int32) × (Nat → Int32)) :=
(acp c_p1_first c_first 8 8 0 0 8).bind fun f1 =>
(acp c_p1_follow c_follow 8 8 0 0 8).bind fun f2 =>
some (c_p1_nullable, f1, f2)
def bX7_differences_4 (c_nullable : Int32) (c_first : (Nat → Int32)) (c_follow : (Nat → Int32)) (c_p1_nullable : Int32) (c_p1_first : (Nat → Int32)) (c_p1_follow : (Nat → Int32)) (k2 : (Int32 → Option (Int32))) (rc5 : Int32 → Int32 → Option (Int32)) (v3 : Int32) (v4 : Int32) : Option (Int32) :=
if 8 ≤ v4 then (k2 v3) else ((fX11_bit c_nullable v4).bind fun x6 =>
(fX11_bit c_p1_nullable v4).bind fun x7 =>
jn_ (fun (v8 : Int32) => jn_ (fun (v9 : Int32) => lt_ (v4 + 1) fun x10 =>
rc5 v9 x10) fun k11 =>
if v8 = 0 then (lt_ (v3 + 1) fun x12 =>
k11 x12) else (k11 v3)) fun k13 =>
jn_ (fun (v14 : Unit) => k13 0) fun k15 =>
if x6 = x7 then ((ag c_first 8 v4).bind fun x16 =>
(ag c_p1_first 8 v4).bind fun x17 =>
if x16 = x17 then ((ag c_follow 8 v4).bind fun x18 =>
(ag c_p1_follow 8 v4).bind fun x19 =>
if x18 = x19 then (k13 1) else (k15 ())) else (k15 ())) else (k15 ()))
def fX7_differences (N : Nat) (c_nullable : Int32) (c_first : (Nat → Int32)) (c_follow : (Nat → Int32)) (c_p1_nullable : Int32) (c_p1_first : (Nat → Int32)) (c_p1_follow : (Nat → Int32)) : Option (Int32) :=
jn_ (fun (v1 : Int32) => some v1) fun k2 =>
itr2 (bX7_differences_4 c_nullable c_first c_follow c_p1_nullable c_p1_first c_p1_follow k2) N 0 0
def fX7_isNullable (c_nullable : Int32) (p1 : Int32) : Option (Int32) :=
jn_ (fun (v1 : Int32) => gz v1 (some v1)) fun k2 =>
jn_ (fun (v3 : Unit) => k2 0) fun k4 =>
if p1 < 10 then (k4 ()) else ((fX11_bit c_nullable (p1 - (10 : Int32))).bind fun x5 =>
if x5 = 1 then (k2 1) else (k4 ()))
def bX7_vanishes_2 (p1 : Int32) (c_nullable : Int32) (k2 : (Unit → Option (Int32))) (rc4 : Int32 → Option (Int32)) (v3 : Int32) : Option (Int32) :=
(fX6_lengthOf p1).bind fun x5 =>
if x5 ≤ v3 then (k2 ()) else ((fX6_symbolOf p1 v3).bind fun x6 =>
(fX7_isNullable c_nullable x6).bind fun x7 =>
if x7 = 0 then (some 0) else (lt_ (v3 + 1) fun x8 =>
rc4 x8))
def fX7_vanishes (N : Nat) (c_nullable : Int32) (p1 : Int32) (p2 : Int32) : Option (Int32) :=
jn_ (fun (v1 : Unit) => some 1) fun k2 =>
itr (bX7_vanishes_2 p1 c_nullable k2) N p2
def bX7_computeNullable_24 (N : Nat) (c_p1_codes : (Nat → Int32)) (c_p1_count : Int32) (k11 : (Int32 → Option (Int32))) (rc14 : Int32 → Int32 → Option (Int32)) (v12 : Int32) (v13 : Int32) : Option (Int32) :=
if c_p1_count ≤ v12 then (k11 v13) else ((ag c_p1_codes 24 v12).bind fun x15 =>
(fX7_vanishes N v13 x15 0).bind fun x16 =>
jn_ (fun (v17 : Int32) => lt_ (v12 + 1) fun x18 =>
rc14 x18 v17) fun k19 =>
if x16 = 0 then (k19 v13) else ((ag c_p1_codes 24 v12).bind fun x20 =>
(fX6_leftOf x20).bind fun x21 =>
lt_ (v13 ||| ((1 : Int32) <<< (x21 &&& (31 : Int32)))) fun x22 =>
k19 x22))
def bX7_computeNullable_4 (N : Nat) (c_p1_codes : (Nat → Int32)) (c_p1_count : Int32) (k2 : (Int32 → Option (Int32))) (rc6 : Int32 → Int32 → Int32 → Option (Int32)) (v3 : Int32) (v4 : Int32) (v5 : Int32) : Option (Int32) :=
if 1000 ≤ v4 then (k2 v5) else (if v3 = 0 then (k2 v5) else (jn_ (fun (v7 : Int32) => jn_ (fun (v8 : Int32) => lt_ (v4 + 1) fun x9 =>
rc6 v8 x9 v7) fun k10 =>
if v7 = v5 then (k10 0) else (k10 1)) fun k11 =>
itr2 (bX7_computeNullable_24 N c_p1_codes c_p1_count k11) N 0 v5))
def fX7_computeNullable (N : Nat) (c_nullable : Int32) (c_p1_codes : (Nat → Int32)) (c_p1_count : Int32) : Option (Int32) :=
jn_ (fun (v1 : Int32) => some v1) fun k2 =>
itr3 (bX7_computeNullable_4 N c_p1_codes c_p1_count k2) N 1 0 c_nullable
def fX7_firstOf (c_first : (Nat → Int32)) (p1 : Int32) : Option (Int32) :=
jn_ (fun (v1 : Int32) => some v1) fun k2 =>
if p1 < 10 then (k2 ((1 : Int32) <<< (p1 &&& (31 : Int32)))) else ((ag c_first 8 (p1 - (10 : Int32))).bind fun x3 =>
k2 x3)
def bX7_firstFrom_5 (p1 : Int32) (c_nullable : Int32) (c_first : (Nat → Int32)) (k2 : (Int32 → Option (Int32))) (rc5 : Int32 → Int32 → Option (Int32)) (v3 : Int32) (v4 : Int32) : Option (Int32) :=
(fX6_lengthOf p1).bind fun x6 =>
if x6 ≤ v4 then (k2 v3) else ((fX6_symbolOf p1 v4).bind fun x7 =>
(fX7_firstOf c_first x7).bind fun x8 =>
lt_ (v3 ||| x8) fun x9 =>
(fX6_symbolOf p1 v4).bind fun x10 =>
(fX7_isNullable c_nullable x10).bind fun x11 =>
if x11 = 0 then (some x9) else (lt_ (v4 + 1) fun x12 =>
rc5 x9 x12))
def fX7_firstFrom (N : Nat) (c_nullable : Int32) (c_first : (Nat → Int32)) (p1 : Int32) (p2 : Int32) : Option (Int32) :=
jn_ (fun (v1 : Int32) => some v1) fun k2 =>
itr2 (bX7_firstFrom_5 p1 c_nullable c_first k2) N 0 p2
def bX7_computeFirst_20 (N : Nat) (c_nullable : Int32) (c_p1_codes : (Nat → Int32)) (c_p1_count : Int32) (k10 : (Int32 → (Nat → Int32) → Option ((Nat → Int32)))) (rc14 : Int32 → Int32 → (Nat → Int32) → Option ((Nat → Int32))) (v11 : Int32) (v12 : Int32) (v13 : (Nat → Int32)) : Option ((Nat → Int32)) :=
if c_p1_count ≤ v12 then (k10 v11 v13) else ((ag c_p1_codes 24 v12).bind fun x15 =>
(fX6_leftOf x15).bind fun x16 =>
(ag v13 8 x16).bind fun x17 =>
(ag v13 8 x16).bind fun x18 =>
(ag c_p1_codes 24 v12).bind fun x19 =>
(fX7_firstFrom N c_nullable v13 x19 0).bind fun x20 =>
(as_ v13 8 x16 (x18 ||| x20)).bind fun f21 =>
jn_ (fun (v22 : Int32) => lt_ (v12 + 1) fun x23 =>
rc14 v22 x23 f21) fun k24 =>
jn_ (fun (v25 : Unit) => k24 1) fun k26 =>
if v11 = 0 then ((ag f21 8 x16).bind fun x27 =>
if x27 = x17 then (k24 0) else (k26 ())) else (k26 ()))
def bX7_computeFirst_4 (N : Nat) (c_nullable : Int32) (c_p1_codes : (Nat → Int32)) (c_p1_count : Int32) (k2 : ((Nat → Int32) → Option ((Nat → Int32)))) (rc6 : Int32 → Int32 → (Nat → Int32) → Option ((Nat → Int32))) (v3 : Int32) (v4 : Int32) (v5 : (Nat → Int32)) : Option ((Nat → Int32)) :=
if 1000 ≤ v4 then (k2 v5) else (if v3 = 0 then (k2 v5) else (jn2 (fun (v7 : Int32) (v8 : (Nat → Int32)) => lt_ (v4 + 1) fun x9 =>
rc6 v7 x9 v8) fun k10 =>
itr3 (bX7_computeFirst_20 N c_nullable c_p1_codes c_p1_count k10) N 0 0 v5))
def fX7_computeFirst (N : Nat) (c_nullable : Int32) (c_first : (Nat → Int32)) (c_p1_codes : (Nat → Int32)) (c_p1_count : Int32) : Option ((Nat → Int32)) :=
jn_ (fun (v1 : (Nat → Int32)) => some v1) fun k2 =>
itr3 (bX7_computeFirst_4 N c_nullable c_p1_codes c_p1_count k2) N 1 0 c_first
def bX7_spreadFollow_20 (p1 : Int32) (c_nullable : Int32) (c_first : (Nat → Int32)) (k7 : (Int32 → (Nat → Int32) → Option (Int32 × (Nat → Int32)))) (rc12 : Int32 → Int32 → Int32 → (Nat → Int32) → Option (Int32 × (Nat → Int32))) (v8 : Int32) (v9 : Int32) (v10 : Int32) (v11 : (Nat → Int32)) : Option (Int32 × (Nat → Int32)) :=
if v10 < 0 then (k7 v8 v11) else ((fX6_symbolOf p1 v10).bind fun x13 =>
jn2 (fun (v14 : Int32) (v15 : (Nat → Int32)) => (fX7_isNullable c_nullable x13).bind fun x16 =>
jn_ (fun (v17 : Int32) => lt_ (v10 + (-1)) fun x18 =>
rc12 v14 v17 x18 v15) fun k19 =>
if x16 = 0 then ((fX7_firstOf c_first x13).bind fun x20 =>
k19 x20) else ((fX7_firstOf c_first x13).bind fun x21 =>
k19 (v9 ||| x21))) fun k22 =>
if x13 < 10 then (k22 v8 v11) else (lt_ (x13 - (10 : Int32)) fun x23 =>
jn_ (fun (v24 : Int32) => (ag v11 8 x23).bind fun x25 =>
(as_ v11 8 x23 (x25 ||| v9)).bind fun f26 =>
k22 v24 f26) fun k27 =>
jn_ (fun (v28 : Unit) => k27 1) fun k29 =>
if v8 = 0 then ((ag v11 8 x23).bind fun x30 =>
if (v9 &&& (x30 ^^^ ((-1) : Int32))) = 0 then (k27 0) else (k29 ())) else (k29 ())))
def fX7_spreadFollow (N : Nat) (c_nullable : Int32) (c_first : (Nat → Int32)) (c_follow : (Nat → Int32)) (p1 : Int32) : Option (Int32 × (Nat → Int32)) :=
(fX6_leftOf p1).bind fun x1 =>
(ag c_follow 8 x1).bind fun x2 =>
(fX6_lengthOf p1).bind fun x3 =>
lt_ (x3 - (1 : Int32)) fun x4 =>
jn2 (fun (v5 : Int32) (v6 : (Nat → Int32)) => gz v5 (some (v5, v6))) fun k7 =>
itr4 (bX7_spreadFollow_20 p1 c_nullable c_first k7) N 0 x2 x4 c_follow
def bX7_computeFollow_20 (N : Nat) (c_nullable : Int32) (c_first : (Nat → Int32)) (c_p1_codes : (Nat → Int32)) (c_p1_count : Int32) (k10 : (Int32 → (Nat → Int32) → Option ((Nat → Int32)))) (rc14 : Int32 → Int32 → (Nat → Int32) → Option ((Nat → Int32))) (v11 : Int32) (v12 : Int32) (v13 : (Nat → Int32)) : Option ((Nat → Int32)) :=
if c_p1_count ≤ v12 then (k10 v11 v13) else ((ag c_p1_codes 24 v12).bind fun x15 =>
bd2 (fX7_spreadFollow N c_nullable c_first v13 x15) fun o17 o16 =>
jn_ (fun (v18 : Int32) => lt_ (v12 + 1) fun x19 =>
rc14 v18 x19 o16) fun k20 =>
jn_ (fun (v21 : Unit) => k20 1) fun k22 =>
if o17 = 0 then (if v11 = 0 then (k20 0) else (k22 ())) else (k22 ()))
def bX7_computeFollow_4 (N : Nat) (c_nullable : Int32) (c_first : (Nat → Int32)) (c_p1_codes : (Nat → Int32)) (c_p1_count : Int32) (k2 : ((Nat → Int32) → Option ((Nat → Int32)))) (rc6 : Int32 → Int32 → (Nat → Int32) → Option ((Nat → Int32))) (v3 : Int32) (v4 : Int32) (v5 : (Nat → Int32)) : Option ((Nat → Int32)) :=
if 1000 ≤ v4 then (k2 v5) else (if v3 = 0 then (k2 v5) else (jn2 (fun (v7 : Int32) (v8 : (Nat → Int32)) => lt_ (v4 + 1) fun x9 =>
rc6 v7 x9 v8) fun k10 =>
itr3 (bX7_computeFollow_20 N c_nullable c_first c_p1_codes c_p1_count k10) N 0 0 v5))
def fX7_computeFollow (N : Nat) (c_nullable : Int32) (c_first : (Nat → Int32)) (c_follow : (Nat → Int32)) (c_p1_codes : (Nat → Int32)) (c_p1_count : Int32) : Option ((Nat → Int32)) :=
jn_ (fun (v1 : (Nat → Int32)) => some v1) fun k2 =>
itr3 (bX7_computeFollow_4 N c_nullable c_first c_p1_codes c_p1_count k2) N 1 0 c_follow
def bX7_compute_7 (k7 : ((Nat → Int32) → (Nat → Int32) → Option (Int32 × (Nat → Int32) × (Nat → Int32)))) (rc11 : Int32 → (Nat → Int32) → (Nat → Int32) → Option (Int32 × (Nat → Int32) × (Nat → Int32))) (v8 : Int32) (v9 : (Nat → Int32)) (v10 : (Nat → Int32)) : Option (Int32 × (Nat → Int32) × (Nat → Int32)) :=
if 8 ≤ v8 then (k7 v9 v10) else ((as_ v9 8 v8 0).bind fun f12 =>
(as_ v10 8 v8 0).bind fun f13 =>
lt_ (v8 + 1) fun x14 =>
rc11 x14 f12 f13)
def fX7_compute (N : Nat) (c_nullable : Int32) (c_first : (Nat → Int32)) (c_follow : (Nat → Int32)) (c_p1_codes : (Nat → Int32)) (c_p1_count : Int32) : Option (Int32 × (Nat → Int32) × (Nat → Int32)) :=
jn2 (fun (v1 : (Nat → Int32)) (v2 : (Nat → Int32)) => (as_ v2 8 0 256).bind fun f3 =>
(fX7_computeNullable N 0 c_p1_codes c_p1_count).bind fun o4 =>
(fX7_computeFirst N o4 v1 c_p1_codes c_p1_count).bind fun o5 =>
(fX7_computeFollow N o4 o5 f3 c_p1_codes c_p1_count).bind fun o6 =>
some (o4, o5, o6)) fun k7 =>
itr3 (bX7_compute_7 k7) N 0 c_first c_follow
def bX7_productiveOnes_25 (N : Nat) (c_p1_codes : (Nat → Int32)) (c_p1_count : Int32) (k11 : (Int32 → Option (Int32))) (rc14 : Int32 → Int32 → Option (Int32)) (v12 : Int32) (v13 : Int32) : Option (Int32) :=
if c_p1_count ≤ v13 then (k11 v12) else ((ag c_p1_codes 24 v13).bind fun x15 =>
(fX6_nonterminalsIn N x15).bind fun x16 =>
jn_ (fun (v17 : Int32) => lt_ (v13 + 1) fun x18 =>
rc14 v17 x18) fun k19 =>
if (x16 &&& (v12 ^^^ ((-1) : Int32))) = 0 then ((fX6_leftOf x15).bind fun x20 =>
lt_ (v12 ||| ((1 : Int32) <<< (x20 &&& (31 : Int32)))) fun x21 =>
k19 x21) else (k19 v12))
def bX7_productiveOnes_7 (N : Nat) (c_p1_codes : (Nat → Int32)) (c_p1_count : Int32) (k2 : (Int32 → Option (Int32))) (rc6 : Int32 → Int32 → Int32 → Option (Int32)) (v3 : Int32) (v4 : Int32) (v5 : Int32) : Option (Int32) :=
if 1000 ≤ v5 then (k2 v3) else (if v4 = 0 then (k2 v3) else (jn_ (fun (v7 : Int32) => jn_ (fun (v8 : Int32) => lt_ (v5 + 1) fun x9 =>
rc6 v7 v8 x9) fun k10 =>
if v7 = v3 then (k10 0) else (k10 1)) fun k11 =>
itr2 (bX7_productiveOnes_25 N c_p1_codes c_p1_count k11) N v3 0))
def fX7_productiveOnes (N : Nat) (c_p1_codes : (Nat → Int32)) (c_p1_count : Int32) : Option (Int32) :=
jn_ (fun (v1 : Int32) => some v1) fun k2 =>
itr3 (bX7_productiveOnes_7 N c_p1_codes c_p1_count k2) N 0 1 0
def bX7_reachableOnes_25 (N : Nat) (c_p1_codes : (Nat → Int32)) (c_p1_count : Int32) (k11 : (Int32 → Option (Int32))) (rc14 : Int32 → Int32 → Option (Int32)) (v12 : Int32) (v13 : Int32) : Option (Int32) :=
if c_p1_count ≤ v13 then (k11 v12) else ((ag c_p1_codes 24 v13).bind fun x15 =>
(fX6_leftOf x15).bind fun x16 =>
(fX11_bit v12 x16).bind fun x17 =>
jn_ (fun (v18 : Int32) => lt_ (v13 + 1) fun x19 =>
rc14 v18 x19) fun k20 =>
if x17 = 1 then ((fX6_nonterminalsIn N x15).bind fun x21 =>
lt_ (v12 ||| x21) fun x22 =>
k20 x22) else (k20 v12))
def bX7_reachableOnes_7 (N : Nat) (c_p1_codes : (Nat → Int32)) (c_p1_count : Int32) (k2 : (Int32 → Option (Int32))) (rc6 : Int32 → Int32 → Int32 → Option (Int32)) (v3 : Int32) (v4 : Int32) (v5 : Int32) : Option (Int32) :=
if 1000 ≤ v5 then (k2 v3) else (if v4 = 0 then (k2 v3) else (jn_ (fun (v7 : Int32) => jn_ (fun (v8 : Int32) => lt_ (v5 + 1) fun x9 =>
rc6 v7 v8 x9) fun k10 =>
if v7 = v3 then (k10 0) else (k10 1)) fun k11 =>
itr2 (bX7_reachableOnes_25 N c_p1_codes c_p1_count k11) N v3 0))
def fX7_reachableOnes (N : Nat) (c_p1_codes : (Nat → Int32)) (c_p1_count : Int32) : Option (Int32) :=
jn_ (fun (v1 : Int32) => some v1) fun k2 =>
itr3 (bX7_reachableOnes_7 N c_p1_codes c_p1_count k2) N 1 1 0
def bX7_nonterminalsThatBegin_4 (p1 : Int32) (c_nullable : Int32) (k2 : (Int32 → Option (Int32))) (rc5 : Int32 → Int32 → Option (Int32)) (v3 : Int32) (v4 : Int32) : Option (Int32) :=
(fX6_lengthOf p1).bind fun x6 =>
if x6 ≤ v4 then (k2 v3) else ((fX6_symbolOf p1 v4).bind fun x7 =>
jn_ (fun (v8 : Int32) => (fX7_isNullable c_nullable x7).bind fun x9 =>
if x9 = 0 then (some v8) else (lt_ (v4 + 1) fun x10 =>
rc5 v8 x10)) fun k11 =>
if x7 < 10 then (k11 v3) else (lt_ (v3 ||| ((1 : Int32) <<< ((x7 - (10 : Int32)) &&& (31 : Int32)))) fun x12 =>
k11 x12))
def fX7_nonterminalsThatBegin (N : Nat) (c_nullable : Int32) (p1 : Int32) : Option (Int32) :=
jn_ (fun (v1 : Int32) => some v1) fun k2 =>
itr2 (bX7_nonterminalsThatBegin_4 p1 c_nullable k2) N 0 0
def bX7_closeBegins_10 (v3 : Int32) (k8 : ((Nat → Int32) → Option ((Nat → Int32)))) (rc11 : Int32 → (Nat → Int32) → Option ((Nat → Int32))) (v9 : Int32) (v10 : (Nat → Int32)) : Option ((Nat → Int32)) :=
if 8 ≤ v9 then (k8 v10) else ((ag v10 8 v9).bind fun x12 =>
(fX11_bit x12 v3).bind fun x13 =>
jn_ (fun (v14 : (Nat → Int32)) => lt_ (v9 + 1) fun x15 =>
rc11 x15 v14) fun k16 =>
if x13 = 1 then ((ag v10 8 v9).bind fun x17 =>
(ag v10 8 v3).bind fun x18 =>
(as_ v10 8 v9 (x17 ||| x18)).bind fun f19 =>
k16 f19) else (k16 v10))
def bX7_closeBegins_2 (N : Nat) (k2 : ((Nat → Int32) → Option ((Nat → Int32)))) (rc5 : Int32 → (Nat → Int32) → Option ((Nat → Int32))) (v3 : Int32) (v4 : (Nat → Int32)) : Option ((Nat → Int32)) :=
if 8 ≤ v3 then (k2 v4) else (jn_ (fun (v6 : (Nat → Int32)) => lt_ (v3 + 1) fun x7 =>
rc5 x7 v6) fun k8 =>
itr2 (bX7_closeBegins_10 v3 k8) N 0 v4)
def fX7_closeBegins (N : Nat) (c_begins : (Nat → Int32)) : Option ((Nat → Int32)) :=
jn_ (fun (v1 : (Nat → Int32)) => some v1) fun k2 =>
itr2 (bX7_closeBegins_2 N k2) N 0 c_begins
def bX7_leftRecursiveOnes_72 (o3 : (Nat → Int32)) (k5 : (Int32 → Option (Int32 × (Nat → Int32)))) (rc8 : Int32 → Int32 → Option (Int32 × (Nat → Int32))) (v6 : Int32) (v7 : Int32) : Option (Int32 × (Nat → Int32)) :=
if 8 ≤ v7 then (k5 v6) else ((ag o3 8 v7).bind fun x9 =>
lt_ (v6 ||| (x9 &&& ((1 : Int32) <<< (v7 &&& (31 : Int32))))) fun x10 =>
lt_ (v7 + 1) fun x11 =>
rc8 x10 x11)
def bX7_leftRecursiveOnes_23 (N : Nat) (c_nullable : Int32) (c_p1_codes : (Nat → Int32)) (c_p1_count : Int32) (k13 : ((Nat → Int32) → Option (Int32 × (Nat → Int32)))) (rc16 : Int32 → (Nat → Int32) → Option (Int32 × (Nat → Int32))) (v14 : Int32) (v15 : (Nat → Int32)) : Option (Int32 × (Nat → Int32)) :=
if c_p1_count ≤ v14 then (k13 v15) else ((ag c_p1_codes 24 v14).bind fun x17 =>
(fX6_leftOf x17).bind fun x18 =>
(ag v15 8 x18).bind fun x19 =>
(ag c_p1_codes 24 v14).bind fun x20 =>
(fX7_nonterminalsThatBegin N c_nullable x20).bind fun x21 =>
(as_ v15 8 x18 (x19 ||| x21)).bind fun f22 =>
lt_ (v14 + 1) fun x23 =>
rc16 x23 f22)
def bX7_leftRecursiveOnes_2 (k25 : ((Nat → Int32) → Option (Int32 × (Nat → Int32)))) (rc28 : Int32 → (Nat → Int32) → Option (Int32 × (Nat → Int32))) (v26 : Int32) (v27 : (Nat → Int32)) : Option (Int32 × (Nat → Int32)) :=
if 8 ≤ v26 then (k25 v27) else ((as_ v27 8 v26 0).bind fun f29 =>
lt_ (v26 + 1) fun x30 =>
rc28 x30 f29)
def fX7_leftRecursiveOnes (N : Nat) (c_nullable : Int32) (c_begins : (Nat → Int32)) (c_p1_codes : (Nat → Int32)) (c_p1_count : Int32) : Option (Int32 × (Nat → Int32)) :=
jn_ (fun (v1 : (Nat → Int32)) => jn_ (fun (v2 : (Nat → Int32)) => (fX7_closeBegins N v2).bind fun o3 =>
jn_ (fun (v4 : Int32) => some (v4, o3)) fun k5 =>
itr2 (bX7_leftRecursiveOnes_72 o3 k5) N 0 0) fun k13 =>
itr2 (bX7_leftRecursiveOnes_23 N c_nullable c_p1_codes c_p1_count k13) N 0 v1) fun k25 =>
itr2 (bX7_leftRecursiveOnes_2 k25) N 0 c_begins
def fX8_selectOf (N : Nat) (c_sets_nullable : Int32) (c_sets_first : (Nat → Int32)) (c_sets_follow : (Nat → Int32)) (p1 : Int32) : Option (Int32) :=
(fX7_firstFrom N c_sets_nullable c_sets_first p1 0).bind fun x1 =>
(fX7_vanishes N c_sets_nullable p1 0).bind fun x2 =>
jn_ (fun (v3 : Int32) => some v3) fun k4 =>
if x2 = 0 then (k4 x1) else ((fX6_leftOf p1).bind fun x5 =>
(ag c_sets_follow 8 x5).bind fun x6 =>
k4 (x1 ||| x6))
def bX8_enter_18 (p1 : Int32) (c_select : (Nat → Int32)) (x3 : Int32) (k6 : ((Nat → Int32) → (Nat → Int32) → Option ((Nat → Int32) × (Nat → Int32)))) (rc10 : Int32 → (Nat → Int32) → (Nat → Int32) → Option ((Nat → Int32) × (Nat → Int32))) (v7 : Int32) (v8 : (Nat → Int32)) (v9 : (Nat → Int32)) : Option ((Nat → Int32) × (Nat → Int32)) :=
if 9 ≤ v7 then (k6 v8 v9) else ((ag c_select 24 p1).bind fun x11 =>
(fX11_bit x11 v7).bind fun x12 =>
jn2 (fun (v13 : (Nat → Int32)) (v14 : (Nat → Int32)) => lt_ (v7 + 1) fun x15 =>
rc10 x15 v13 v14) fun k16 =>
if x12 = 1 then ((ag v8 72 (x3 + v7)).bind fun x17 =>
(as_ v8 72 (x3 + v7) (x17 + (1 : Int32))).bind fun f18 =>
(as_ v9 72 (x3 + v7) p1).bind fun f19 =>
k16 f18 f19) else (k16 v8 v9))
def fX8_enter (N : Nat) (c_rules_codes : (Nat → Int32)) (c_select : (Nat → Int32)) (c_possible : (Nat → Int32)) (c_lowest : (Nat → Int32)) (p1 : Int32) : Option ((Nat → Int32) × (Nat → Int32)) :=
(ag c_rules_codes 24 p1).bind fun x1 =>
(fX6_leftOf x1).bind fun x2 =>
lt_ (x2 * (9 : Int32)) fun x3 =>
jn2 (fun (v4 : (Nat → Int32)) (v5 : (Nat → Int32)) => some (v4, v5)) fun k6 =>
itr3 (bX8_enter_18 p1 c_select x3 k6) N 0 c_possible c_lowest
def fX8_pairsIn (c_possible : (Nat → Int32)) (p1 : Int32) : Option (Int32) :=
(ag c_possible 72 p1).bind fun x1 =>
(ag c_possible 72 p1).bind fun x2 =>
some ((x1 * (x2 - (1 : Int32))) / (2 : Int32))
def bX8_compute_72 (v4 : (Nat → Int32)) (k7 : (Int32 → Option ((Nat → Int32) × (Nat → Int32) × (Nat → Int32) × Int32))) (rc10 : Int32 → Int32 → Option ((Nat → Int32) × (Nat → Int32) × (Nat → Int32) × Int32)) (v8 : Int32) (v9 : Int32) : Option ((Nat → Int32) × (Nat → Int32) × (Nat → Int32) × Int32) :=
if 72 ≤ v8 then (k7 v9) else ((fX8_pairsIn v4 v8).bind fun x11 =>
lt_ (v9 + x11) fun x12 =>
lt_ (v8 + 1) fun x13 =>
rc10 x13 x12)
def bX8_compute_31 (N : Nat) (c_rules_codes : (Nat → Int32)) (c_sets_nullable : Int32) (c_sets_first : (Nat → Int32)) (c_sets_follow : (Nat → Int32)) (k15 : ((Nat → Int32) → (Nat → Int32) → (Nat → Int32) → Option ((Nat → Int32) × (Nat → Int32) × (Nat → Int32) × Int32))) (rc20 : Int32 → (Nat → Int32) → (Nat → Int32) → (Nat → Int32) → Option ((Nat → Int32) × (Nat → Int32) × (Nat → Int32) × Int32)) (v16 : Int32) (v17 : (Nat → Int32)) (v18 : (Nat → Int32)) (v19 : (Nat → Int32)) : Option ((Nat → Int32) × (Nat → Int32) × (Nat → Int32) × Int32) :=
if v16 < 0 then (k15 v17 v18 v19) else ((ag c_rules_codes 24 v16).bind fun x21 =>
(fX8_selectOf N c_sets_nullable c_sets_first c_sets_follow x21).bind fun x22 =>
(as_ v17 24 v16 x22).bind fun f23 =>
bd2 (fX8_enter N c_rules_codes f23 v18 v19 v16) fun o24 o25 =>
lt_ (v16 + (-1)) fun x26 =>
rc20 x26 f23 o24 o25)
def bX8_compute_2 (k30 : ((Nat → Int32) → Option ((Nat → Int32) × (Nat → Int32) × (Nat → Int32) × Int32))) (rc33 : Int32 → (Nat → Int32) → Option ((Nat → Int32) × (Nat → Int32) × (Nat → Int32) × Int32)) (v31 : Int32) (v32 : (Nat → Int32)) : Option ((Nat → Int32) × (Nat → Int32) × (Nat → Int32) × Int32) :=
if 72 ≤ v31 then (k30 v32) else ((as_ v32 72 v31 0).bind fun f34 =>
lt_ (v31 + 1) fun x35 =>
rc33 x35 f34)
def fX8_compute (N : Nat) (c_rules_codes : (Nat → Int32)) (c_rules_count : Int32) (c_sets_nullable : Int32) (c_sets_first : (Nat → Int32)) (c_sets_follow : (Nat → Int32)) (c_select : (Nat → Int32)) (c_possible : (Nat → Int32)) (c_lowest : (Nat → Int32)) (c_conflicts : Int32) : Option ((Nat → Int32) × (Nat → Int32) × (Nat → Int32) × Int32) :=
jn_ (fun (v1 : (Nat → Int32)) => lt_ (c_rules_count - (1 : Int32)) fun x2 =>
jn3 (fun (v3 : (Nat → Int32)) (v4 : (Nat → Int32)) (v5 : (Nat → Int32)) => jn_ (fun (v6 : Int32) => some (v3, v4, v5, v6)) fun k7 =>
itr2 (bX8_compute_72 v4 k7) N 0 0) fun k15 =>
itr4 (bX8_compute_31 N c_rules_codes c_sets_nullable c_sets_first c_sets_follow k15) N x2 c_select v1 c_lowest) fun k30 =>
itr2 (bX8_compute_2 k30) N 0 c_possible
def fX8_partOf (p0 : Int32) (p1 : Int32) : Option (Int32) :=
some ((p0 >>> (((5 : Int32) * ((3 : Int32) - p1)) &&& (31 : Int32))) &&& (31 : Int32))
def fX8_conflictOf (p0 : Int32) (p1 : Int32) (p2 : Int32) : Option (Int32) :=
lt_ (((p0 / (9 : Int32)) <<< ((5 : Int32) &&& (31 : Int32))) ||| (p0 - p0 / (9 : Int32) * (9 : Int32))) fun x1 =>
some ((((x1 <<< ((5 : Int32) &&& (31 : Int32))) ||| p1) <<< ((5 : Int32) &&& (31 : Int32))) ||| p2)
def fX8_isPossible (c_rules_codes : (Nat → Int32)) (c_select : (Nat → Int32)) (p1 : Int32) (p2 : Int32) : Option (Int32) :=
(ag c_rules_codes 24 p1).bind fun x1 =>
(fX6_isOf x1 (p2 / (9 : Int32))).bind fun x2 =>
jn_ (fun (v3 : Int32) => gz v3 (some v3)) fun k4 =>
jn_ (fun (v5 : Unit) => k4 0) fun k6 =>
if x2 = 0 then (k6 ()) else ((ag c_select 24 p1).bind fun x7 =>
(fX11_bit x7 (p2 - p2 / (9 : Int32) * (9 : Int32))).bind fun x8 =>
if x8 = 1 then (k4 1) else (k6 ()))
def bX8_conflictIn_23 (p1 : Int32) (c_rules_codes : (Nat → Int32)) (c_rules_count : Int32) (c_select : (Nat → Int32)) (v4 : Int32) (k9 : (Int32 → Option (Int32))) (rc12 : Int32 → Int32 → Option (Int32)) (v10 : Int32) (v11 : Int32) : Option (Int32) :=
if c_rules_count ≤ v11 then (k9 v10) else ((fX8_isPossible c_rules_codes c_select v4 p1).bind fun x13 =>
if x13 = 0 then (k9 v10) else ((fX8_isPossible c_rules_codes c_select v11 p1).bind fun x14 =>
jn_ (fun (v15 : Int32) => lt_ (v11 + 1) fun x16 =>
rc12 v15 x16) fun k17 =>
if x14 = 0 then (k17 v10) else (if v10 = 0 then ((fX8_conflictOf p1 v4 v11).bind fun x19 =>
some x19) else (lt_ (v10 + (-1)) fun x18 =>
k17 x18))))
def bX8_conflictIn_5 (N : Nat) (p1 : Int32) (c_rules_codes : (Nat → Int32)) (c_rules_count : Int32) (c_select : (Nat → Int32)) (k2 : (Unit → Option (Int32))) (rc5 : Int32 → Int32 → Option (Int32)) (v3 : Int32) (v4 : Int32) : Option (Int32) :=
if c_rules_count ≤ v4 then (k2 ()) else (lt_ (v4 + (1 : Int32)) fun x6 =>
jn_ (fun (v7 : Int32) => lt_ (v4 + 1) fun x8 =>
rc5 v7 x8) fun k9 =>
itr2 (bX8_conflictIn_23 p1 c_rules_codes c_rules_count c_select v4 k9) N v3 x6)
def fX8_conflictIn (N : Nat) (c_rules_codes : (Nat → Int32)) (c_rules_count : Int32) (c_select : (Nat → Int32)) (p1 : Int32) (p2 : Int32) : Option (Int32) :=
jn_ (fun (v1 : Unit) => some (-1)) fun k2 =>
itr2 (bX8_conflictIn_5 N p1 c_rules_codes c_rules_count c_select k2) N p2 0
def bX8_conflictAt_4 (N : Nat) (c_rules_codes : (Nat → Int32)) (c_rules_count : Int32) (c_select : (Nat → Int32)) (c_possible : (Nat → Int32)) (k2 : (Unit → Option (Int32))) (rc5 : Int32 → Int32 → Option (Int32)) (v3 : Int32) (v4 : Int32) : Option (Int32) :=
if 72 ≤ v4 then (k2 ()) else ((fX8_pairsIn c_possible v4).bind fun x6 =>
if x6 ≤ v3 then (lt_ (v3 - x6) fun x7 =>
lt_ (v4 + 1) fun x8 =>
rc5 x7 x8) else ((fX8_conflictIn N c_rules_codes c_rules_count c_select v4 v3).bind fun x9 =>
some x9))
def fX8_conflictAt (N : Nat) (c_rules_codes : (Nat → Int32)) (c_rules_count : Int32) (c_select : (Nat → Int32)) (c_possible : (Nat → Int32)) (p1 : Int32) : Option (Int32) :=
jn_ (fun (v1 : Unit) => some (-1)) fun k2 =>
itr2 (bX8_conflictAt_4 N c_rules_codes c_rules_count c_select c_possible k2) N p1 0
def bX8_kindOf_11 (N : Nat) (p1 : Int32) (c_rules_codes : (Nat → Int32)) (c_rules_count : Int32) (c_sets_nullable : Int32) (c_sets_first : (Nat → Int32)) (x1 : Int32) (k3 : (Int32 → Option (Int32))) (rc6 : Int32 → Int32 → Option (Int32)) (v4 : Int32) (v5 : Int32) : Option (Int32) :=
if 2 ≤ v5 then (k3 v4) else ((fX8_partOf p1 ((2 : Int32) + v5)).bind fun x7 =>
(fX6_has c_rules_count x7).bind fun x8 =>
jn_ (fun (v9 : Int32) => lt_ (v4 - v9) fun x10 =>
lt_ (v5 + 1) fun x11 =>
rc6 x10 x11) fun k12 =>
if x8 = 0 then (k12 0) else ((ag c_rules_codes 24 x7).bind fun x13 =>
(fX7_firstFrom N c_sets_nullable c_sets_first x13 0).bind fun x14 =>
(fX11_bit x14 x1).bind fun x15 =>
k12 x15))
def fX8_kindOf (N : Nat) (c_rules_codes : (Nat → Int32)) (c_rules_count : Int32) (c_sets_nullable : Int32) (c_sets_first : (Nat → Int32)) (p1 : Int32) : Option (Int32) :=
(fX8_partOf p1 1).bind fun x1 =>
jn_ (fun (v2 : Int32) => some v2) fun k3 =>
itr2 (bX8_kindOf_11 N p1 c_rules_codes c_rules_count c_sets_nullable c_sets_first x1 k3) N 2 0
def fX10_terminalOf (n : Nat) (c_costs : (Nat → Int32)) (c_highs : (Nat → Int64)) (c_lows : (Nat → Int64)) (p1 : Int32) (p2 : Int32) : Option (Int32) :=
jn_ (fun (v1 : Unit) => some (-2)) fun k2 =>
if p2 < 0 then (k2 ()) else ((fX10_lengthOf n c_costs p1).bind fun x3 =>
if p2 < x3 then ((fX10_lengthOf n c_costs p1).bind fun x4 =>
lt_ ((x4 - (1 : Int32)) - p2) fun x5 =>
jn_ (fun (v6 : Int64) => jn_ (fun (v7 : Int32) => some (((v6 >>> ((((3 : Int32) * v7) : Int32).toInt64 &&& (63 : Int64))) : Int64).toInt32 &&& (7 : Int32))) fun k8 =>
if 20 ≤ x5 then (k8 (x5 - (20 : Int32))) else (k8 x5)) fun k9 =>
if 20 ≤ x5 then ((agL c_highs n p1).bind fun x10 =>
k9 x10) else ((agL c_lows n p1).bind fun x11 =>
k9 x11)) else (k2 ()))
def fX11_isNonterminal (p0 : Int32) : Option (Int32) :=
jn_ (fun (v1 : Int32) => gz v1 (some v1)) fun k2 =>
jn_ (fun (v3 : Unit) => k2 0) fun k4 =>
if p0 < 0 then (k4 ()) else (if 8 ≤ p0 then (k4 ()) else (k2 1))
def fX11_beginEdit (c_rules_codes : (Nat → Int32)) (c_rules_count : Int32) (c_history_saved_codes : (Nat → Nat → Int32)) (c_history_saved_count : (Nat → Int32)) (c_history_newest : Int32) (c_history_size : Int32) (c_sets_nullable : Int32) (c_sets_first : (Nat → Int32)) (c_sets_follow : (Nat → Int32)) (c_setsBefore_nullable : Int32) (c_setsBefore_first : (Nat → Int32)) (c_setsBefore_follow : (Nat → Int32)) : Option (Nat × (Nat → Nat → Int32) × (Nat → Int32) × Int32 × Int32 × Int32 × (Nat → Int32) × (Nat → Int32)) :=
bd3 (fX7_become c_setsBefore_nullable c_setsBefore_first c_setsBefore_follow c_sets_nullable c_sets_first c_sets_follow) fun o1 o2 o3 =>
bd5 (fX2_save c_history_saved_codes c_history_saved_count c_history_newest c_history_size c_rules_codes c_rules_count) fun o8 o4 o5 o6 o7 =>
some (o8, o4, o5, o6, o7, o1, o2, o3)
def fX11_endChange (N : Nat) (c_rules_codes : (Nat → Int32)) (c_rules_count : Int32) (c_sets_nullable : Int32) (c_sets_first : (Nat → Int32)) (c_sets_follow : (Nat → Int32)) (c_table_select : (Nat → Int32)) (c_table_possible : (Nat → Int32)) (c_table_lowest : (Nat → Int32)) (c_table_conflicts : Int32) (c_examples_plainKnown : Int32) (c_examples_exampleKey : Int32) : Option (Int32 × (Nat → Int32) × (Nat → Int32) × (Nat → Int32) × (Nat → Int32) × (Nat → Int32) × Int32 × Int32 × Int32) :=
bd3 (fX7_compute N c_sets_nullable c_sets_first c_sets_follow c_rules_codes c_rules_count) fun o1 o2 o3 =>
bd4 (fX8_compute N c_rules_codes c_rules_count o1 o2 o3 c_table_select c_table_possible c_table_lowest c_table_conflicts) fun o4 o5 o6 o7 =>
bd2 (fX0_forget c_examples_plainKnown c_examples_exampleKey) fun o8 o9 =>
some (o1, o2, o3, o4, o5, o6, o7, o8, o9)
def fX11_addProduction (N : Nat) (c_rules_codes : (Nat → Int32)) (c_rules_count : Int32) (c_history_saved_codes : (Nat → Nat → Int32)) (c_history_saved_count : (Nat → Int32)) (c_history_newest : Int32) (c_history_size : Int32) (c_sets_nullable : Int32) (c_sets_first : (Nat → Int32)) (c_sets_follow : (Nat → Int32)) (c_setsBefore_nullable : Int32) (c_setsBefore_first : (Nat → Int32)) (c_setsBefore_follow : (Nat → Int32)) (c_table_select : (Nat → Int32)) (c_table_possible : (Nat → Int32)) (c_table_lowest : (Nat → Int32)) (c_table_conflicts : Int32) (c_failure_codes : (Nat → Int32)) (c_failure_details : (Nat → Int32)) (c_failure_levels : Int32) (c_examples_plainKnown : Int32) (c_examples_exampleKey : Int32) (p1 : Int32) (p2 : Int32) (p3 : Int32) (p4 : Int32) (p5 : Int32) (p6 : Int32) : Option (Int32 × (Nat → Int32) × Int32 × (Nat → Nat → Int32) × (Nat → Int32) × Int32 × Int32 × Int32 × (Nat → Int32) × (Nat → Int32) × Int32 × (Nat → Int32) × (Nat → Int32) × (Nat → Int32) × (Nat → Int32) × (Nat → Int32) × Int32 × (Nat → Int32) × (Nat → Int32) × Int32 × Int32 × Int32) :=
(fX11_isNonterminal p1).bind fun x1 =>
if x1 = 0 then (some ((-1), c_rules_codes, c_rules_count, c_history_saved_codes, c_history_saved_count, c_history_newest, c_history_size, c_sets_nullable, c_sets_first, c_sets_follow, c_setsBefore_nullable, c_setsBefore_first, c_setsBefore_follow, c_table_select, c_table_possible, c_table_lowest, c_table_conflicts, c_failure_codes, c_failure_details, c_failure_levels, c_examples_plainKnown, c_examples_exampleKey)) else ((fX6_emptyOf p1).bind fun x2 =>
(fX6_extendedByArgument x2 0 p2).bind fun x3 =>
(fX6_extendedByArgument x3 1 p3).bind fun x4 =>
(fX6_extendedByArgument x4 2 p4).bind fun x5 =>
(fX6_extendedByArgument x5 3 p5).bind fun x6 =>
(fX6_extendedByArgument x6 4 p6).bind fun x7 =>
if 0 ≤ x7 then ((fX6_find N c_rules_codes c_rules_count x7).bind fun x8 =>
if x8 < 0 then (if c_rules_count < 24 then (bd8 (fX11_beginEdit c_rules_codes c_rules_count c_history_saved_codes c_history_saved_count c_history_newest c_history_size c_sets_nullable c_sets_first c_sets_follow c_setsBefore_nullable c_setsBefore_first c_setsBefore_follow) fun o16 o9 o10 o11 o12 o13 o14 o15 =>
bd2 (fX6_add c_rules_codes c_rules_count x7) fun o17 o18 =>
bd9 (fX11_endChange N o17 o18 c_sets_nullable c_sets_first c_sets_follow c_table_select c_table_possible c_table_lowest c_table_conflicts c_examples_plainKnown c_examples_exampleKey) fun o19 o20 o21 o22 o23 o24 o25 o26 o27 =>
some ((o18 - (1 : Int32)), o17, o18, o9, o10, o11, o12, o19, o20, o21, o13, o14, o15, o22, o23, o24, o25, c_failure_codes, c_failure_details, c_failure_levels, o26, o27)) else (some ((-3), c_rules_codes, c_rules_count, c_history_saved_codes, c_history_saved_count, c_history_newest, c_history_size, c_sets_nullable, c_sets_first, c_sets_follow, c_setsBefore_nullable, c_setsBefore_first, c_setsBefore_follow, c_table_select, c_table_possible, c_table_lowest, c_table_conflicts, c_failure_codes, c_failure_details, c_failure_levels, c_examples_plainKnown, c_examples_exampleKey))) else (bd3 (fX1_begin c_failure_codes c_failure_details c_failure_levels 13 p1) fun o28 o29 o30 =>
bd3 (fX1_because o28 o29 o30 14 x8) fun o31 o32 o33 =>
some ((-4), c_rules_codes, c_rules_count, c_history_saved_codes, c_history_saved_count, c_history_newest, c_history_size, c_sets_nullable, c_sets_first, c_sets_follow, c_setsBefore_nullable, c_setsBefore_first, c_setsBefore_follow, c_table_select, c_table_possible, c_table_lowest, c_table_conflicts, o31, o32, o33, c_examples_plainKnown, c_examples_exampleKey))) else (some ((-1), c_rules_codes, c_rules_count, c_history_saved_codes, c_history_saved_count, c_history_newest, c_history_size, c_sets_nullable, c_sets_first, c_sets_follow, c_setsBefore_nullable, c_setsBefore_first, c_setsBefore_follow, c_table_select, c_table_possible, c_table_lowest, c_table_conflicts, c_failure_codes, c_failure_details, c_failure_levels, c_examples_plainKnown, c_examples_exampleKey)))
def fX11_removeProduction (N : Nat) (c_rules_codes : (Nat → Int32)) (c_rules_count : Int32) (c_history_saved_codes : (Nat → Nat → Int32)) (c_history_saved_count : (Nat → Int32)) (c_history_newest : Int32) (c_history_size : Int32) (c_sets_nullable : Int32) (c_sets_first : (Nat → Int32)) (c_sets_follow : (Nat → Int32)) (c_setsBefore_nullable : Int32) (c_setsBefore_first : (Nat → Int32)) (c_setsBefore_follow : (Nat → Int32)) (c_table_select : (Nat → Int32)) (c_table_possible : (Nat → Int32)) (c_table_lowest : (Nat → Int32)) (c_table_conflicts : Int32) (c_examples_plainKnown : Int32) (c_examples_exampleKey : Int32) (p1 : Int32) : Option (Int32 × (Nat → Int32) × Int32 × (Nat → Nat → Int32) × (Nat → Int32) × Int32 × Int32 × Int32 × (Nat → Int32) × (Nat → Int32) × Int32 × (Nat → Int32) × (Nat → Int32) × (Nat → Int32) × (Nat → Int32) × (Nat → Int32) × Int32 × Int32 × Int32) :=
(fX6_has c_rules_count p1).bind fun x1 =>
if x1 = 0 then (some ((-1), c_rules_codes, c_rules_count, c_history_saved_codes, c_history_saved_count, c_history_newest, c_history_size, c_sets_nullable, c_sets_first, c_sets_follow, c_setsBefore_nullable, c_setsBefore_first, c_setsBefore_follow, c_table_select, c_table_possible, c_table_lowest, c_table_conflicts, c_examples_plainKnown, c_examples_exampleKey)) else (bd8 (fX11_beginEdit c_rules_codes c_rules_count c_history_saved_codes c_history_saved_count c_history_newest c_history_size c_sets_nullable c_sets_first c_sets_follow c_setsBefore_nullable c_setsBefore_first c_setsBefore_follow) fun o9 o2 o3 o4 o5 o6 o7 o8 =>
bd2 (fX6_removeAt N c_rules_codes c_rules_count p1) fun o10 o11 =>
bd9 (fX11_endChange N o10 o11 c_sets_nullable c_sets_first c_sets_follow c_table_select c_table_possible c_table_lowest c_table_conflicts c_examples_plainKnown c_examples_exampleKey) fun o12 o13 o14 o15 o16 o17 o18 o19 o20 =>
some (o11, o10, o11, o2, o3, o4, o5, o12, o13, o14, o6, o7, o8, o15, o16, o17, o18, o19, o20))
def fX11_clear (N : Nat) (c_rules_codes : (Nat → Int32)) (c_rules_count : Int32) (c_history_saved_codes : (Nat → Nat → Int32)) (c_history_saved_count : (Nat → Int32)) (c_history_newest : Int32) (c_history_size : Int32) (c_sets_nullable : Int32) (c_sets_first : (Nat → Int32)) (c_sets_follow : (Nat → Int32)) (c_setsBefore_nullable : Int32) (c_setsBefore_first : (Nat → Int32)) (c_setsBefore_follow : (Nat → Int32)) (c_table_select : (Nat → Int32)) (c_table_possible : (Nat → Int32)) (c_table_lowest : (Nat → Int32)) (c_table_conflicts : Int32) (c_examples_plainKnown : Int32) (c_examples_exampleKey : Int32) : Option (Int32 × Int32 × (Nat → Nat → Int32) × (Nat → Int32) × Int32 × Int32 × Int32 × (Nat → Int32) × (Nat → Int32) × Int32 × (Nat → Int32) × (Nat → Int32) × (Nat → Int32) × (Nat → Int32) × (Nat → Int32) × Int32 × Int32 × Int32) :=
bd8 (fX11_beginEdit c_rules_codes c_rules_count c_history_saved_codes c_history_saved_count c_history_newest c_history_size c_sets_nullable c_sets_first c_sets_follow c_setsBefore_nullable c_setsBefore_first c_setsBefore_follow) fun o8 o1 o2 o3 o4 o5 o6 o7 =>
(fX6_removeAll c_rules_count).bind fun o9 =>
bd9 (fX11_endChange N c_rules_codes o9 c_sets_nullable c_sets_first c_sets_follow c_table_select c_table_possible c_table_lowest c_table_conflicts c_examples_plainKnown c_examples_exampleKey) fun o10 o11 o12 o13 o14 o15 o16 o17 o18 =>
some (c_rules_count, o9, o1, o2, o3, o4, o10, o11, o12, o5, o6, o7, o13, o14, o15, o16, o17, o18)
def fX11_productionCount (c_rules_count : Int32) : Option (Int32) :=
some c_rules_count
def fX11_leftSide (c_rules_codes : (Nat → Int32)) (c_rules_count : Int32) (p1 : Int32) : Option (Int32) :=
(fX6_has c_rules_count p1).bind fun x1 =>
jn_ (fun (v2 : Int32) => some v2) fun k3 =>
if x1 = 0 then (k3 (-1)) else ((ag c_rules_codes 24 p1).bind fun x4 =>
(fX6_leftOf x4).bind fun x5 =>
k3 x5)
def fX11_rightLength (c_rules_codes : (Nat → Int32)) (c_rules_count : Int32) (p1 : Int32) : Option (Int32) :=
(fX6_has c_rules_count p1).bind fun x1 =>
jn_ (fun (v2 : Int32) => some v2) fun k3 =>
if x1 = 0 then (k3 (-1)) else ((ag c_rules_codes 24 p1).bind fun x4 =>
(fX6_lengthOf x4).bind fun x5 =>
k3 x5)
def fX11_rightSymbol (c_rules_codes : (Nat → Int32)) (c_rules_count : Int32) (p1 : Int32) (p2 : Int32) : Option (Int32) :=
(fX6_has c_rules_count p1).bind fun x1 =>
jn_ (fun (v2 : Unit) => some (-1)) fun k3 =>
if x1 = 0 then (k3 ()) else (if p2 < 0 then (k3 ()) else ((ag c_rules_codes 24 p1).bind fun x4 =>
(fX6_lengthOf x4).bind fun x5 =>
if p2 < x5 then ((ag c_rules_codes 24 p1).bind fun x6 =>
(fX6_symbolOf x6 p2).bind fun x7 =>
some x7) else (k3 ())))
def fX11_nullable (c_sets_nullable : Int32) (p1 : Int32) : Option (Int32) :=
(fX11_isNonterminal p1).bind fun x1 =>
jn_ (fun (v2 : Int32) => some v2) fun k3 =>
if x1 = 0 then (k3 (-1)) else ((fX11_bit c_sets_nullable p1).bind fun x4 =>
k3 x4)
def fX11_firstSet (c_sets_first : (Nat → Int32)) (p1 : Int32) : Option (Int32) :=
(fX11_isNonterminal p1).bind fun x1 =>
jn_ (fun (v2 : Int32) => some v2) fun k3 =>
if x1 = 0 then (k3 (-1)) else ((ag c_sets_first 8 p1).bind fun x4 =>
k3 x4)
def fX11_followSet (c_sets_follow : (Nat → Int32)) (p1 : Int32) : Option (Int32) :=
(fX11_isNonterminal p1).bind fun x1 =>
jn_ (fun (v2 : Int32) => some v2) fun k3 =>
if x1 = 0 then (k3 (-1)) else ((ag c_sets_follow 8 p1).bind fun x4 =>
k3 x4)
def fX11_selectSet (c_rules_count : Int32) (c_table_select : (Nat → Int32)) (p1 : Int32) : Option (Int32) :=
(fX6_has c_rules_count p1).bind fun x1 =>
jn_ (fun (v2 : Int32) => some v2) fun k3 =>
if x1 = 0 then (k3 (-1)) else ((ag c_table_select 24 p1).bind fun x4 =>
k3 x4)
def fX11_changedNonterminals (N : Nat) (c_sets_nullable : Int32) (c_sets_first : (Nat → Int32)) (c_sets_follow : (Nat → Int32)) (c_setsBefore_nullable : Int32) (c_setsBefore_first : (Nat → Int32)) (c_setsBefore_follow : (Nat → Int32)) : Option (Int32) :=
(fX7_differences N c_sets_nullable c_sets_first c_sets_follow c_setsBefore_nullable c_setsBefore_first c_setsBefore_follow).bind fun x1 =>
some x1
def fX11_productive (N : Nat) (c_rules_codes : (Nat → Int32)) (c_rules_count : Int32) (p1 : Int32) : Option (Int32) :=
(fX11_isNonterminal p1).bind fun x1 =>
jn_ (fun (v2 : Int32) => some v2) fun k3 =>
if x1 = 0 then (k3 (-1)) else ((fX7_productiveOnes N c_rules_codes c_rules_count).bind fun x4 =>
(fX11_bit x4 p1).bind fun x5 =>
k3 x5)
def fX11_reachable (N : Nat) (c_rules_codes : (Nat → Int32)) (c_rules_count : Int32) (p1 : Int32) : Option (Int32) :=
(fX11_isNonterminal p1).bind fun x1 =>
jn_ (fun (v2 : Int32) => some v2) fun k3 =>
if x1 = 0 then (k3 (-1)) else ((fX7_reachableOnes N c_rules_codes c_rules_count).bind fun x4 =>
(fX11_bit x4 p1).bind fun x5 =>
k3 x5)
def fX11_leftRecursive (N : Nat) (c_rules_codes : (Nat → Int32)) (c_rules_count : Int32) (c_sets_nullable : Int32) (c_sets_begins : (Nat → Int32)) (p1 : Int32) : Option (Int32 × (Nat → Int32)) :=
(fX11_isNonterminal p1).bind fun x1 =>
jn2 (fun (v2 : Int32) (v3 : (Nat → Int32)) => some (v2, v3)) fun k4 =>
if x1 = 0 then (k4 (-1) c_sets_begins) else (bd2 (fX7_leftRecursiveOnes N c_sets_nullable c_sets_begins c_rules_codes c_rules_count) fun o6 o5 =>
(fX11_bit o6 p1).bind fun x7 =>
k4 x7 o5)
def fX11_shortestLength (N : Nat) (c_rules_codes : (Nat → Int32)) (c_rules_count : Int32) (c_examples_words_costs : (Nat → Int32)) (c_examples_words_highs : (Nat → Int64)) (c_examples_words_lows : (Nat → Int64)) (c_examples_plainKnown : Int32) (p1 : Int32) : Option (Int32 × (Nat → Int32) × (Nat → Int64) × (Nat → Int64) × Int32) :=
(fX11_isNonterminal p1).bind fun x1 =>
jn5 (fun (v2 : Int32) (v3 : (Nat → Int32)) (v4 : (Nat → Int64)) (v5 : (Nat → Int64)) (v6 : Int32) => some (v2, v3, v4, v5, v6)) fun k7 =>
if x1 = 0 then (k7 (-1) c_examples_words_costs c_examples_words_highs c_examples_words_lows c_examples_plainKnown) else (bd5 (fX0_shortestWord N c_rules_codes c_rules_count c_examples_words_costs c_examples_words_highs c_examples_words_lows c_examples_plainKnown p1) fun o12 o8 o9 o10 o11 =>
(fX10_lengthOf 362 o8 o12).bind fun x13 =>
k7 x13 o8 o9 o10 o11)
def fX11_shortestTerminal (N : Nat) (c_rules_codes : (Nat → Int32)) (c_rules_count : Int32) (c_examples_words_costs : (Nat → Int32)) (c_examples_words_highs : (Nat → Int64)) (c_examples_words_lows : (Nat → Int64)) (c_examples_plainKnown : Int32) (p1 : Int32) (p2 : Int32) : Option (Int32 × (Nat → Int32) × (Nat → Int64) × (Nat → Int64) × Int32) :=
(fX11_isNonterminal p1).bind fun x1 =>
jn5 (fun (v2 : Int32) (v3 : (Nat → Int32)) (v4 : (Nat → Int64)) (v5 : (Nat → Int64)) (v6 : Int32) => some (v2, v3, v4, v5, v6)) fun k7 =>
if x1 = 0 then (k7 (-1) c_examples_words_costs c_examples_words_highs c_examples_words_lows c_examples_plainKnown) else (bd5 (fX0_shortestWord N c_rules_codes c_rules_count c_examples_words_costs c_examples_words_highs c_examples_words_lows c_examples_plainKnown p1) fun o12 o8 o9 o10 o11 =>
(fX10_terminalOf 362 o8 o9 o10 o12 p2).bind fun x13 =>
k7 x13 o8 o9 o10 o11)
def fX11_tableEntry (c_table_possible : (Nat → Int32)) (c_table_lowest : (Nat → Int32)) (p1 : Int32) (p2 : Int32) : Option (Int32) :=
(fX11_isNonterminal p1).bind fun x1 =>
jn_ (fun (v2 : Unit) => some (-1)) fun k3 =>
if x1 = 0 then (k3 ()) else (if p2 < 0 then (k3 ()) else (if p2 ≤ 8 then ((fX8_entry c_table_possible c_table_lowest p1 p2).bind fun x4 =>
some x4) else (k3 ())))
def fX11_conflictCount (c_table_conflicts : Int32) : Option (Int32) :=
some c_table_conflicts
def fX11_isConflict (c_table_conflicts : Int32) (p1 : Int32) : Option (Int32) :=
jn_ (fun (v1 : Int32) => gz v1 (some v1)) fun k2 =>
jn_ (fun (v3 : Unit) => k2 0) fun k4 =>
if p1 < 0 then (k4 ()) else (if c_table_conflicts ≤ p1 then (k4 ()) else (k2 1))
def fX11_conflict (N : Nat) (c_rules_codes : (Nat → Int32)) (c_rules_count : Int32) (c_table_select : (Nat → Int32)) (c_table_possible : (Nat → Int32)) (c_table_conflicts : Int32) (p1 : Int32) (p2 : Int32) : Option (Int32) :=
(fX11_isConflict c_table_conflicts p1).bind fun x1 =>
jn_ (fun (v2 : Unit) => some (-1)) fun k3 =>
if x1 = 0 then (k3 ()) else (if p2 < 0 then (k3 ()) else (if p2 ≤ 3 then ((fX8_conflictAt N c_rules_codes c_rules_count c_table_select c_table_possible p1).bind fun x4 =>
(fX8_partOf x4 p2).bind fun x5 =>
some x5) else (k3 ())))
def fX11_conflictKind (N : Nat) (c_rules_codes : (Nat → Int32)) (c_rules_count : Int32) (c_sets_nullable : Int32) (c_sets_first : (Nat → Int32)) (c_table_select : (Nat → Int32)) (c_table_possible : (Nat → Int32)) (c_table_conflicts : Int32) (p1 : Int32) : Option (Int32) :=
(fX11_isConflict c_table_conflicts p1).bind fun x1 =>
jn_ (fun (v2 : Int32) => some v2) fun k3 =>
if x1 = 0 then (k3 (-1)) else ((fX8_conflictAt N c_rules_codes c_rules_count c_table_select c_table_possible p1).bind fun x4 =>
(fX8_kindOf N c_rules_codes c_rules_count c_sets_nullable c_sets_first x4).bind fun x5 =>
k3 x5)
def fX11_exampleWord (N : Nat) (c_rules_codes : (Nat → Int32)) (c_rules_count : Int32) (c_table_select : (Nat → Int32)) (c_table_possible : (Nat → Int32)) (c_examples_words_costs : (Nat → Int32)) (c_examples_words_highs : (Nat → Int64)) (c_examples_words_lows : (Nat → Int64)) (c_examples_plainKnown : Int32) (c_examples_exampleKey : Int32) (p1 : Int32) (p2 : Int32) : Option (Int32 × (Nat → Int32) × (Nat → Int64) × (Nat → Int64) × Int32 × Int32) :=
(fX8_conflictAt N c_rules_codes c_rules_count c_table_select c_table_possible p1).bind fun x1 =>
(fX8_partOf x1 ((2 : Int32) + p2)).bind fun x2 =>
(fX8_partOf x1 1).bind fun x3 =>
bd6 (fX0_exampleWord N c_rules_codes c_rules_count c_examples_words_costs c_examples_words_highs c_examples_words_lows c_examples_plainKnown c_examples_exampleKey x2 x3) fun o9 o4 o5 o6 o7 o8 =>
some (o9, o4, o5, o6, o7, o8)
def fX11_exampleLength (N : Nat) (c_rules_codes : (Nat → Int32)) (c_rules_count : Int32) (c_table_select : (Nat → Int32)) (c_table_possible : (Nat → Int32)) (c_table_conflicts : Int32) (c_examples_words_costs : (Nat → Int32)) (c_examples_words_highs : (Nat → Int64)) (c_examples_words_lows : (Nat → Int64)) (c_examples_plainKnown : Int32) (c_examples_exampleKey : Int32) (p1 : Int32) (p2 : Int32) : Option (Int32 × (Nat → Int32) × (Nat → Int64) × (Nat → Int64) × Int32 × Int32) :=
(fX11_isConflict c_table_conflicts p1).bind fun x1 =>
jn_ (fun (v2 : Unit) => some ((-1), c_examples_words_costs, c_examples_words_highs, c_examples_words_lows, c_examples_plainKnown, c_examples_exampleKey)) fun k3 =>
if x1 = 0 then (k3 ()) else (if p2 < 0 then (k3 ()) else (if p2 ≤ 1 then (bd6 (fX11_exampleWord N c_rules_codes c_rules_count c_table_select c_table_possible c_examples_words_costs c_examples_words_highs c_examples_words_lows c_examples_plainKnown c_examples_exampleKey p1 p2) fun o9 o4 o5 o6 o7 o8 =>
(fX10_lengthOf 362 o4 o9).bind fun x10 =>
some (x10, o4, o5, o6, o7, o8)) else (k3 ())))
def fX11_exampleTerminal (N : Nat) (c_rules_codes : (Nat → Int32)) (c_rules_count : Int32) (c_table_select : (Nat → Int32)) (c_table_possible : (Nat → Int32)) (c_table_conflicts : Int32) (c_examples_words_costs : (Nat → Int32)) (c_examples_words_highs : (Nat → Int64)) (c_examples_words_lows : (Nat → Int64)) (c_examples_plainKnown : Int32) (c_examples_exampleKey : Int32) (p1 : Int32) (p2 : Int32) (p3 : Int32) : Option (Int32 × (Nat → Int32) × (Nat → Int64) × (Nat → Int64) × Int32 × Int32) :=
(fX11_isConflict c_table_conflicts p1).bind fun x1 =>
jn_ (fun (v2 : Unit) => some ((-1), c_examples_words_costs, c_examples_words_highs, c_examples_words_lows, c_examples_plainKnown, c_examples_exampleKey)) fun k3 =>
if x1 = 0 then (k3 ()) else (if p2 < 0 then (k3 ()) else (if p2 ≤ 1 then (bd6 (fX11_exampleWord N c_rules_codes c_rules_count c_table_select c_table_possible c_examples_words_costs c_examples_words_highs c_examples_words_lows c_examples_plainKnown c_examples_exampleKey p1 p2) fun o9 o4 o5 o6 o7 o8 =>
(fX10_terminalOf 362 o4 o5 o6 o9 p3).bind fun x10 =>
some (x10, o4, o5, o6, o7, o8)) else (k3 ())))
def fX11_check (N : Nat) (c_rules_codes : (Nat → Int32)) (c_rules_count : Int32) (c_sets_nullable : Int32) (c_sets_first : (Nat → Int32)) (c_table_select : (Nat → Int32)) (c_table_possible : (Nat → Int32)) (c_table_conflicts : Int32) (c_failure_codes : (Nat → Int32)) (c_failure_details : (Nat → Int32)) (c_failure_levels : Int32) : Option (Int32 × (Nat → Int32) × (Nat → Int32) × Int32) :=
if c_table_conflicts = 0 then (some (0, c_failure_codes, c_failure_details, c_failure_levels)) else ((fX8_conflictAt N c_rules_codes c_rules_count c_table_select c_table_possible 0).bind fun x1 =>
bd3 (fX1_begin c_failure_codes c_failure_details c_failure_levels 8 c_table_conflicts) fun o2 o3 o4 =>
(fX8_partOf x1 0).bind fun x5 =>
bd3 (fX1_because o2 o3 o4 9 x5) fun o6 o7 o8 =>
(fX8_kindOf N c_rules_codes c_rules_count c_sets_nullable c_sets_first x1).bind fun x9 =>
(fX8_partOf x1 1).bind fun x10 =>
bd3 (fX1_because o6 o7 o8 ((10 : Int32) + x9) x10) fun o11 o12 o13 =>
some ((-5), o11, o12, o13))
def fX11_reportRewriting (c_failure_codes : (Nat → Int32)) (c_failure_details : (Nat → Int32)) (c_failure_levels : Int32) (p1 : Int32) (p2 : Int32) (p3 : Int32) : Option ((Nat → Int32) × (Nat → Int32) × Int32) :=
bd3 (fX1_begin c_failure_codes c_failure_details c_failure_levels 15 p1) fun o1 o2 o3 =>
bd3 (fX1_because o1 o2 o3 p2 p3) fun o4 o5 o6 =>
some (o4, o5, o6)
def fX11_leavesNoRoom (c_rules_count : Int32) (c_failure_codes : (Nat → Int32)) (c_failure_details : (Nat → Int32)) (c_failure_levels : Int32) (p1 : Int32) (p2 : Int32) : Option (Int32 × (Nat → Int32) × (Nat → Int32) × Int32) :=
if 0 ≤ p2 then (if c_rules_count < 24 then (some (0, c_failure_codes, c_failure_details, c_failure_levels)) else (bd3 (fX11_reportRewriting c_failure_codes c_failure_details c_failure_levels p1 17 (c_rules_count + (1 : Int32))) fun o1 o2 o3 =>
some (1, o1, o2, o3))) else (bd3 (fX11_reportRewriting c_failure_codes c_failure_details c_failure_levels p1 16 0) fun o4 o5 o6 =>
some (1, o4, o5, o6))
def fX11_leftFactor (N : Nat) (c_rules_codes : (Nat → Int32)) (c_rules_count : Int32) (c_history_saved_codes : (Nat → Nat → Int32)) (c_history_saved_count : (Nat → Int32)) (c_history_newest : Int32) (c_history_size : Int32) (c_sets_nullable : Int32) (c_sets_first : (Nat → Int32)) (c_sets_follow : (Nat → Int32)) (c_setsBefore_nullable : Int32) (c_setsBefore_first : (Nat → Int32)) (c_setsBefore_follow : (Nat → Int32)) (c_table_select : (Nat → Int32)) (c_table_possible : (Nat → Int32)) (c_table_lowest : (Nat → Int32)) (c_table_conflicts : Int32) (c_failure_codes : (Nat → Int32)) (c_failure_details : (Nat → Int32)) (c_failure_levels : Int32) (c_examples_plainKnown : Int32) (c_examples_exampleKey : Int32) (p1 : Int32) : Option (Int32 × (Nat → Int32) × Int32 × (Nat → Nat → Int32) × (Nat → Int32) × Int32 × Int32 × Int32 × (Nat → Int32) × (Nat → Int32) × Int32 × (Nat → Int32) × (Nat → Int32) × (Nat → Int32) × (Nat → Int32) × (Nat → Int32) × Int32 × (Nat → Int32) × (Nat → Int32) × Int32 × Int32 × Int32) :=
(fX11_isNonterminal p1).bind fun x1 =>
if x1 = 0 then (some ((-1), c_rules_codes, c_rules_count, c_history_saved_codes, c_history_saved_count, c_history_newest, c_history_size, c_sets_nullable, c_sets_first, c_sets_follow, c_setsBefore_nullable, c_setsBefore_first, c_setsBefore_follow, c_table_select, c_table_possible, c_table_lowest, c_table_conflicts, c_failure_codes, c_failure_details, c_failure_levels, c_examples_plainKnown, c_examples_exampleKey)) else ((fX6_longestCommonPrefix N c_rules_codes c_rules_count p1).bind fun x2 =>
if x2 = 0 then (some ((-2), c_rules_codes, c_rules_count, c_history_saved_codes, c_history_saved_count, c_history_newest, c_history_size, c_sets_nullable, c_sets_first, c_sets_follow, c_setsBefore_nullable, c_setsBefore_first, c_setsBefore_follow, c_table_select, c_table_possible, c_table_lowest, c_table_conflicts, c_failure_codes, c_failure_details, c_failure_levels, c_examples_plainKnown, c_examples_exampleKey)) else ((fX6_unusedNonterminal N c_rules_codes c_rules_count p1).bind fun x3 =>
bd4 (fX11_leavesNoRoom c_rules_count c_failure_codes c_failure_details c_failure_levels p1 x3) fun o7 o4 o5 o6 =>
if o7 = 0 then (bd8 (fX11_beginEdit c_rules_codes c_rules_count c_history_saved_codes c_history_saved_count c_history_newest c_history_size c_sets_nullable c_sets_first c_sets_follow c_setsBefore_nullable c_setsBefore_first c_setsBefore_follow) fun o15 o8 o9 o10 o11 o12 o13 o14 =>
jc10 o15 <|
bd2 (fX6_factor N c_rules_codes c_rules_count (o8 o15) (o9 o15) p1 x2 x3) fun o16 o17 =>
bd9 (fX11_endChange N o16 o17 c_sets_nullable c_sets_first c_sets_follow c_table_select c_table_possible c_table_lowest c_table_conflicts c_examples_plainKnown c_examples_exampleKey) fun o18 o19 o20 o21 o22 o23 o24 o25 o26 =>
some (x3, o16, o17, o8, o9, o10, o11, o18, o19, o20, o12, o13, o14, o21, o22, o23, o24, o4, o5, o6, o25, o26)) else (some ((-3), c_rules_codes, c_rules_count, c_history_saved_codes, c_history_saved_count, c_history_newest, c_history_size, c_sets_nullable, c_sets_first, c_sets_follow, c_setsBefore_nullable, c_setsBefore_first, c_setsBefore_follow, c_table_select, c_table_possible, c_table_lowest, c_table_conflicts, o4, o5, o6, c_examples_plainKnown, c_examples_exampleKey))))
def fX11_hindersRemoval (N : Nat) (c_rules_codes : (Nat → Int32)) (c_rules_count : Int32) (c_failure_codes : (Nat → Int32)) (c_failure_details : (Nat → Int32)) (c_failure_levels : Int32) (p1 : Int32) : Option (Int32 × (Nat → Int32) × (Nat → Int32) × Int32) :=
(fX6_emptyOf p1).bind fun x1 =>
(fX6_extended x1 ((10 : Int32) + p1)).bind fun x2 =>
(fX6_find N c_rules_codes c_rules_count x2).bind fun x3 =>
if x3 < 0 then ((fX6_productionsOf N c_rules_codes c_rules_count p1).bind fun x4 =>
(fX6_recursiveOf N c_rules_codes c_rules_count p1).bind fun x5 =>
if x5 = x4 then (bd3 (fX11_reportRewriting c_failure_codes c_failure_details c_failure_levels p1 19 x4) fun o10 o11 o12 =>
some (1, o10, o11, o12)) else ((fX6_lowestFilledOther N c_rules_codes c_rules_count p1).bind fun x6 =>
if x6 < 0 then (some (0, c_failure_codes, c_failure_details, c_failure_levels)) else (bd3 (fX11_reportRewriting c_failure_codes c_failure_details c_failure_levels p1 20 x6) fun o7 o8 o9 =>
some (1, o7, o8, o9)))) else (bd3 (fX11_reportRewriting c_failure_codes c_failure_details c_failure_levels p1 18 x3) fun o13 o14 o15 =>
some (1, o13, o14, o15))
def fX11_removeLeftRecursion (N : Nat) (c_rules_codes : (Nat → Int32)) (c_rules_count : Int32) (c_history_saved_codes : (Nat → Nat → Int32)) (c_history_saved_count : (Nat → Int32)) (c_history_newest : Int32) (c_history_size : Int32) (c_sets_nullable : Int32) (c_sets_first : (Nat → Int32)) (c_sets_follow : (Nat → Int32)) (c_setsBefore_nullable : Int32) (c_setsBefore_first : (Nat → Int32)) (c_setsBefore_follow : (Nat → Int32)) (c_table_select : (Nat → Int32)) (c_table_possible : (Nat → Int32)) (c_table_lowest : (Nat → Int32)) (c_table_conflicts : Int32) (c_failure_codes : (Nat → Int32)) (c_failure_details : (Nat → Int32)) (c_failure_levels : Int32) (c_examples_plainKnown : Int32) (c_examples_exampleKey : Int32) (p1 : Int32) : Option (Int32 × (Nat → Int32) × Int32 × (Nat → Nat → Int32) × (Nat → Int32) × Int32 × Int32 × Int32 × (Nat → Int32) × (Nat → Int32) × Int32 × (Nat → Int32) × (Nat → Int32) × (Nat → Int32) × (Nat → Int32) × (Nat → Int32) × Int32 × (Nat → Int32) × (Nat → Int32) × Int32 × Int32 × Int32) :=
(fX11_isNonterminal p1).bind fun x1 =>
if x1 = 0 then (some ((-1), c_rules_codes, c_rules_count, c_history_saved_codes, c_history_saved_count, c_history_newest, c_history_size, c_sets_nullable, c_sets_first, c_sets_follow, c_setsBefore_nullable, c_setsBefore_first, c_setsBefore_follow, c_table_select, c_table_possible, c_table_lowest, c_table_conflicts, c_failure_codes, c_failure_details, c_failure_levels, c_examples_plainKnown, c_examples_exampleKey)) else ((fX6_recursiveOf N c_rules_codes c_rules_count p1).bind fun x2 =>
if x2 = 0 then (some ((-2), c_rules_codes, c_rules_count, c_history_saved_codes, c_history_saved_count, c_history_newest, c_history_size, c_sets_nullable, c_sets_first, c_sets_follow, c_setsBefore_nullable, c_setsBefore_first, c_setsBefore_follow, c_table_select, c_table_possible, c_table_lowest, c_table_conflicts, c_failure_codes, c_failure_details, c_failure_levels, c_examples_plainKnown, c_examples_exampleKey)) else (bd4 (fX11_hindersRemoval N c_rules_codes c_rules_count c_failure_codes c_failure_details c_failure_levels p1) fun o6 o3 o4 o5 =>
if o6 = 0 then ((fX6_unusedNonterminal N c_rules_codes c_rules_count p1).bind fun x7 =>
bd4 (fX11_leavesNoRoom c_rules_count o3 o4 o5 p1 x7) fun o11 o8 o9 o10 =>
if o11 = 0 then (bd8 (fX11_beginEdit c_rules_codes c_rules_count c_history_saved_codes c_history_saved_count c_history_newest c_history_size c_sets_nullable c_sets_first c_sets_follow c_setsBefore_nullable c_setsBefore_first c_setsBefore_follow) fun o19 o12 o13 o14 o15 o16 o17 o18 =>
jc10 o19 <|
bd2 (fX6_turnRecursion N c_rules_codes c_rules_count (o12 o19) (o13 o19) p1 x7) fun o20 o21 =>
bd9 (fX11_endChange N o20 o21 c_sets_nullable c_sets_first c_sets_follow c_table_select c_table_possible c_table_lowest c_table_conflicts c_examples_plainKnown c_examples_exampleKey) fun o22 o23 o24 o25 o26 o27 o28 o29 o30 =>
some (x7, o20, o21, o12, o13, o14, o15, o22, o23, o24, o16, o17, o18, o25, o26, o27, o28, o8, o9, o10, o29, o30)) else (some ((-3), c_rules_codes, c_rules_count, c_history_saved_codes, c_history_saved_count, c_history_newest, c_history_size, c_sets_nullable, c_sets_first, c_sets_follow, c_setsBefore_nullable, c_setsBefore_first, c_setsBefore_follow, c_table_select, c_table_possible, c_table_lowest, c_table_conflicts, o8, o9, o10, c_examples_plainKnown, c_examples_exampleKey))) else (some ((-5), c_rules_codes, c_rules_count, c_history_saved_codes, c_history_saved_count, c_history_newest, c_history_size, c_sets_nullable, c_sets_first, c_sets_follow, c_setsBefore_nullable, c_setsBefore_first, c_setsBefore_follow, c_table_select, c_table_possible, c_table_lowest, c_table_conflicts, o3, o4, o5, c_examples_plainKnown, c_examples_exampleKey))))
def fX11_undo (N : Nat) (c_rules_codes : (Nat → Int32)) (c_rules_count : Int32) (c_history_saved_codes : (Nat → Nat → Int32)) (c_history_saved_count : (Nat → Int32)) (c_history_newest : Int32) (c_history_size : Int32) (c_sets_nullable : Int32) (c_sets_first : (Nat → Int32)) (c_sets_follow : (Nat → Int32)) (c_setsBefore_nullable : Int32) (c_setsBefore_first : (Nat → Int32)) (c_setsBefore_follow : (Nat → Int32)) (c_table_select : (Nat → Int32)) (c_table_possible : (Nat → Int32)) (c_table_lowest : (Nat → Int32)) (c_table_conflicts : Int32) (c_examples_plainKnown : Int32) (c_examples_exampleKey : Int32) : Option (Int32 × (Nat → Int32) × Int32 × Int32 × Int32 × Int32 × (Nat → Int32) × (Nat → Int32) × Int32 × (Nat → Int32) × (Nat → Int32) × (Nat → Int32) × (Nat → Int32) × (Nat → Int32) × Int32 × Int32 × Int32) :=
if c_history_size = 0 then (some ((-2), c_rules_codes, c_rules_count, c_history_newest, c_history_size, c_sets_nullable, c_sets_first, c_sets_follow, c_setsBefore_nullable, c_setsBefore_first, c_setsBefore_follow, c_table_select, c_table_possible, c_table_lowest, c_table_conflicts, c_examples_plainKnown, c_examples_exampleKey)) else (bd3 (fX7_become c_setsBefore_nullable c_setsBefore_first c_setsBefore_follow c_sets_nullable c_sets_first c_sets_follow) fun o1 o2 o3 =>
bd4 (fX2_restore c_history_saved_codes c_history_saved_count c_history_newest c_history_size c_rules_codes c_rules_count) fun o4 o5 o6 o7 =>
bd9 (fX11_endChange N o6 o7 c_sets_nullable c_sets_first c_sets_follow c_table_select c_table_possible c_table_lowest c_table_conflicts c_examples_plainKnown c_examples_exampleKey) fun o8 o9 o10 o11 o12 o13 o14 o15 o16 =>
some (o5, o6, o7, o4, o5, o8, o9, o10, o1, o2, o3, o11, o12, o13, o14, o15, o16))
def fX11_setSynchronizing (c_parser_synchronizing : (Nat → Int32)) (p1 : Int32) (p2 : Int32) : Option (Int32 × (Nat → Int32)) :=
(fX11_isNonterminal p1).bind fun x1 =>
jn_ (fun (v2 : Unit) => some ((-1), c_parser_synchronizing)) fun k3 =>
if x1 = 0 then (k3 ()) else (if p2 < 0 then (k3 ()) else (if p2 ≤ 511 then ((ag c_parser_synchronizing 8 p1).bind fun x4 =>
(as_ c_parser_synchronizing 8 p1 p2).bind fun f5 =>
some (x4, f5)) else (k3 ())))
def fX11_appendInput (N : Nat) (c_input_terminals : (Nat → Int32)) (c_input_length : Int32) (p1 : Int32) : Option (Int32 × (Nat → Int32) × Int32) :=
(fX3_terminalsIn N p1).bind fun x1 =>
if x1 = 0 then (some ((-1), c_input_terminals, c_input_length)) else (if (c_input_length + x1) ≤ 40 then (bd2 (fX3_append N c_input_terminals c_input_length p1 x1) fun o2 o3 =>
some (o3, o2, o3)) else (some ((-3), c_input_terminals, c_input_length)))
def fX11_clearInput (c_input_length : Int32) : Option (Int32 × Int32) :=
some (c_input_length, 0)
def fX11_inputTerminal (c_input_terminals : (Nat → Int32)) (c_input_length : Int32) (p1 : Int32) : Option (Int32) :=
jn_ (fun (v1 : Int32) => some v1) fun k2 =>
jn_ (fun (v3 : Unit) => k2 (-2)) fun k4 =>
if p1 < 0 then (k4 ()) else (if c_input_length ≤ p1 then (k4 ()) else ((ag c_input_terminals 40 p1).bind fun x5 =>
k2 x5))
def fX11_parse (N : Nat) (c_rules_codes : (Nat → Int32)) (c_rules_count : Int32) (c_table_possible : (Nat → Int32)) (c_table_lowest : (Nat → Int32)) (c_failure_codes : (Nat → Int32)) (c_failure_details : (Nat → Int32)) (c_failure_levels : Int32) (c_input_terminals : (Nat → Int32)) (c_input_length : Int32) (c_parser_trace : (Nat → Int32)) (c_parser_traceLength : Int32) (c_parser_tree_symbols : (Nat → Int32)) (c_parser_tree_parents : (Nat → Int32)) (c_parser_tree_heights : (Nat → Int32)) (c_parser_tree_count : Int32) (c_parser_stack : (Nat → Int32)) (c_parser_bringers : (Nat → Int32)) (c_parser_depth : Int32) (c_parser_index : Int32) (c_parser_steps : Int32) : Option (Int32 × (Nat → Int32) × (Nat → Int32) × Int32 × (Nat → Int32) × Int32 × (Nat → Int32) × (Nat → Int32) × (Nat → Int32) × Int32 × (Nat → Int32) × (Nat → Int32) × Int32 × Int32 × Int32) :=
bd12 (fX4_parseInput N c_rules_codes c_rules_count c_table_possible c_table_lowest c_input_terminals c_input_length c_parser_trace c_parser_traceLength c_parser_tree_symbols c_parser_tree_parents c_parser_tree_heights c_parser_tree_count c_parser_stack c_parser_bringers c_parser_depth c_parser_index c_parser_steps) fun o12 o1 o2 o3 o4 o5 o6 o7 o8 o9 o10 o11 =>
jn3 (fun (v13 : (Nat → Int32)) (v14 : (Nat → Int32)) (v15 : Int32) => some (o12, v13, v14, v15, o1, o2, o3, o4, o5, o6, o7, o8, o9, o10, o11)) fun k16 =>
if 0 ≤ o12 then (k16 c_failure_codes c_failure_details c_failure_levels) else (bd3 (fX4_explain N c_rules_codes c_rules_count c_table_possible c_input_length o7 o9 o10 o11 c_failure_codes c_failure_details c_failure_levels o12) fun o17 o18 o19 =>
k16 o17 o18 o19)
def fX11_recover (N : Nat) (c_rules_codes : (Nat → Int32)) (c_rules_count : Int32) (c_sets_follow : (Nat → Int32)) (c_table_possible : (Nat → Int32)) (c_table_lowest : (Nat → Int32)) (c_input_terminals : (Nat → Int32)) (c_input_length : Int32) (c_parser_synchronizing : (Nat → Int32)) (c_parser_trace : (Nat → Int32)) (c_parser_traceLength : Int32) (c_parser_tree_count : Int32) (c_parser_errorParts : (Nat → Int32)) (c_parser_errorCount : Int32) (c_parser_stack : (Nat → Int32)) (c_parser_bringers : (Nat → Int32)) (c_parser_depth : Int32) (c_parser_index : Int32) (c_parser_steps : Int32) : Option (Int32 × (Nat → Int32) × Int32 × Int32 × (Nat → Int32) × Int32 × (Nat → Int32) × (Nat → Int32) × Int32 × Int32 × Int32) :=
bd11 (fX4_recoverInput N c_rules_codes c_rules_count c_sets_follow c_table_possible c_table_lowest c_input_terminals c_input_length c_parser_synchronizing c_parser_trace c_parser_traceLength c_parser_tree_count c_parser_errorParts c_parser_errorCount c_parser_stack c_parser_bringers c_parser_depth c_parser_index c_parser_steps) fun o11 o1 o2 o3 o4 o5 o6 o7 o8 o9 o10 =>
some (o11, o1, o2, o3, o4, o5, o6, o7, o8, o9, o10)
def fX11_error (c_parser_errorParts : (Nat → Int32)) (c_parser_errorCount : Int32) (p1 : Int32) (p2 : Int32) : Option (Int32) :=
jn_ (fun (v1 : Unit) => some (-1)) fun k2 =>
if p2 < 0 then (k2 ()) else (if p2 ≤ 2 then ((fX4_errorPart c_parser_errorParts c_parser_errorCount p1 p2).bind fun x3 =>
some x3) else (k2 ()))
def fX11_traceLength (c_parser_traceLength : Int32) : Option (Int32) :=
some c_parser_traceLength
def fX11_trace (c_parser_trace : (Nat → Int32)) (c_parser_traceLength : Int32) (p1 : Int32) : Option (Int32) :=
jn_ (fun (v1 : Int32) => some v1) fun k2 =>
jn_ (fun (v3 : Unit) => k2 (-2)) fun k4 =>
if p1 < 0 then (k4 ()) else (if c_parser_traceLength ≤ p1 then (k4 ()) else ((ag c_parser_trace 300 p1).bind fun x5 =>
k2 x5))
def fX11_nodeCount (c_parser_tree_count : Int32) : Option (Int32) :=
some c_parser_tree_count
def fX11_nodeSymbol (c_parser_tree_symbols : (Nat → Int32)) (c_parser_tree_count : Int32) (p1 : Int32) : Option (Int32) :=
(fX9_has c_parser_tree_count p1).bind fun x1 =>
jn_ (fun (v2 : Int32) => some v2) fun k3 =>
if x1 = 0 then (k3 (-2)) else ((ag c_parser_tree_symbols 300 p1).bind fun x4 =>
k3 x4)
def fX11_nodeParent (c_parser_tree_parents : (Nat → Int32)) (c_parser_tree_count : Int32) (p1 : Int32) : Option (Int32) :=
(fX9_has c_parser_tree_count p1).bind fun x1 =>
jn_ (fun (v2 : Int32) => some v2) fun k3 =>
if x1 = 0 then (k3 (-2)) else ((ag c_parser_tree_parents 300 p1).bind fun x4 =>
k3 x4)
def fX11_nodeHeight (c_parser_tree_heights : (Nat → Int32)) (c_parser_tree_count : Int32) (p1 : Int32) : Option (Int32) :=
(fX9_has c_parser_tree_count p1).bind fun x1 =>
jn_ (fun (v2 : Int32) => some v2) fun k3 =>
if x1 = 0 then (k3 (-2)) else ((ag c_parser_tree_heights 300 p1).bind fun x4 =>
k3 x4)
def fX11_setWeight (c_repairer_weights : (Nat → Int32)) (p1 : Int32) (p2 : Int32) : Option (Int32 × (Nat → Int32)) :=
jn_ (fun (v1 : Unit) => some ((-1), c_repairer_weights)) fun k2 =>
if p1 < 0 then (k2 ()) else (if 8 ≤ p1 then (k2 ()) else (if p2 < 1 then (k2 ()) else (if p2 ≤ 9 then ((ag c_repairer_weights 8 p1).bind fun x3 =>
(as_ c_repairer_weights 8 p1 p2).bind fun f4 =>
some (x3, f4)) else (k2 ()))))
def fX11_repair (N : Nat) (c_rules_codes : (Nat → Int32)) (c_rules_count : Int32) (c_input_terminals : (Nat → Int32)) (c_input_length : Int32) (c_repairer_weights : (Nat → Int32)) (c_repairer_words_costs : (Nat → Int32)) (c_repairer_words_highs : (Nat → Int64)) (c_repairer_words_lows : (Nat → Int64)) : Option (Int32 × (Nat → Int32) × (Nat → Int64) × (Nat → Int64)) :=
if c_input_length ≤ 8 then (bd4 (fX5_findLeastInsertions N c_rules_codes c_rules_count c_input_terminals c_input_length c_repairer_weights c_repairer_words_costs c_repairer_words_highs c_repairer_words_lows) fun o4 o1 o2 o3 =>
some (o4, o1, o2, o3)) else (some ((-6), c_repairer_words_costs, c_repairer_words_highs, c_repairer_words_lows))
def fX11_repairedTerminal (c_repairer_words_costs : (Nat → Int32)) (c_repairer_words_highs : (Nat → Int64)) (c_repairer_words_lows : (Nat → Int64)) (p1 : Int32) : Option (Int32) :=
(fX10_terminalOf 1469 c_repairer_words_costs c_repairer_words_highs c_repairer_words_lows 1468 p1).bind fun x1 =>
some x1
def fX11_failureLevels (c_failure_levels : Int32) : Option (Int32) :=
some c_failure_levels
def fX11_failureCode (c_failure_codes : (Nat → Int32)) (c_failure_levels : Int32) (p1 : Int32) : Option (Int32) :=
(fX1_has c_failure_levels p1).bind fun x1 =>
jn_ (fun (v2 : Int32) => some v2) fun k3 =>
if x1 = 0 then (k3 (-2)) else ((ag c_failure_codes 3 p1).bind fun x4 =>
k3 x4)
def fX11_failureDetail (c_failure_details : (Nat → Int32)) (c_failure_levels : Int32) (p1 : Int32) : Option (Int32) :=
(fX1_has c_failure_levels p1).bind fun x1 =>
jn_ (fun (v2 : Int32) => some v2) fun k3 =>
if x1 = 0 then (k3 (-2)) else ((ag c_failure_details 3 p1).bind fun x4 =>
k3 x4)
def fX12_in (p0 : Int32) (p1 : Int32) (p2 : Int32) : Option (Int32) :=
jn_ (fun (v1 : Int32) => gz v1 (some v1)) fun k2 =>
jn_ (fun (v3 : Unit) => k2 0) fun k4 =>
if p0 < p1 then (k4 ()) else (if p2 < p0 then (k4 ()) else (k2 1))
def fX12_isName (p0 : Int32) : Option (Int32) :=
(fX12_in p0 0 7).bind fun x1 =>
gz x1 (some x1)
def fX12_isSymbol (p0 : Int32) : Option (Int32) :=
(fX12_in p0 0 7).bind fun x1 =>
jn_ (fun (v2 : Int32) => gz v2 (some v2)) fun k3 =>
jn_ (fun (v4 : Unit) => k3 1) fun k5 =>
if x1 = 0 then ((fX12_in p0 10 17).bind fun x6 =>
if x6 = 0 then (k3 0) else (k5 ())) else (k5 ())
def fX12_isRule (c_rules : Int32) (p1 : Int32) : Option (Int32) :=
(fX12_in p1 0 (c_rules - (1 : Int32))).bind fun x1 =>
gz x1 (some x1)
def fX12_symbol (c_rights : (Nat → Int32)) (p1 : Int32) (p2 : Int32) : Option (Int32) :=
(ag c_rights 120 (((5 : Int32) * p1) + p2)).bind fun x1 =>
some x1
def bX12_lays_60 (p1 : Int32) (c_rights : (Nat → Int32)) (k5 : ((Nat → Int32) → Option ((Nat → Int32) × (Nat → Int32) × (Nat → Int32) × (Nat → Int32)))) (rc8 : Int32 → (Nat → Int32) → Option ((Nat → Int32) × (Nat → Int32) × (Nat → Int32) × (Nat → Int32))) (v6 : Int32) (v7 : (Nat → Int32)) : Option ((Nat → Int32) × (Nat → Int32) × (Nat → Int32) × (Nat → Int32)) :=
if 120 ≤ v6 then (k5 v7) else ((ag c_rights 120 v6).bind fun x9 =>
(as_ v7 1200 (((120 : Int32) * p1) + v6) x9).bind fun f10 =>
lt_ (v6 + 1) fun x11 =>
rc8 x11 f10)
def bX12_lays_12 (p1 : Int32) (c_lefts : (Nat → Int32)) (c_sizes : (Nat → Int32)) (k13 : ((Nat → Int32) → (Nat → Int32) → Option ((Nat → Int32) × (Nat → Int32) × (Nat → Int32) × (Nat → Int32)))) (rc17 : Int32 → (Nat → Int32) → (Nat → Int32) → Option ((Nat → Int32) × (Nat → Int32) × (Nat → Int32) × (Nat → Int32))) (v14 : Int32) (v15 : (Nat → Int32)) (v16 : (Nat → Int32)) : Option ((Nat → Int32) × (Nat → Int32) × (Nat → Int32) × (Nat → Int32)) :=
if 24 ≤ v14 then (k13 v15 v16) else ((ag c_lefts 24 v14).bind fun x18 =>
(as_ v15 240 (((24 : Int32) * p1) + v14) x18).bind fun f19 =>
(ag c_sizes 24 v14).bind fun x20 =>
(as_ v16 240 (((24 : Int32) * p1) + v14) x20).bind fun f21 =>
lt_ (v14 + 1) fun x22 =>
rc17 x22 f19 f21)
def fX12_lays (N : Nat) (c_rules : Int32) (c_lefts : (Nat → Int32)) (c_sizes : (Nat → Int32)) (c_rights : (Nat → Int32)) (c_pastRules : (Nat → Int32)) (c_pastLefts : (Nat → Int32)) (c_pastSizes : (Nat → Int32)) (c_pastRights : (Nat → Int32)) (p1 : Int32) : Option ((Nat → Int32) × (Nat → Int32) × (Nat → Int32) × (Nat → Int32)) :=
(as_ c_pastRules 10 p1 c_rules).bind fun f1 =>
jn2 (fun (v2 : (Nat → Int32)) (v3 : (Nat → Int32)) => jn_ (fun (v4 : (Nat → Int32)) => some (f1, v2, v3, v4)) fun k5 =>
itr2 (bX12_lays_60 p1 c_rights k5) N 0 c_pastRights) fun k13 =>
itr3 (bX12_lays_12 p1 c_lefts c_sizes k13) N 0 c_pastLefts c_pastSizes
def bX12_laysBack_60 (p1 : Int32) (c_pastRights : (Nat → Int32)) (k5 : ((Nat → Int32) → Option (Int32 × (Nat → Int32) × (Nat → Int32) × (Nat → Int32)))) (rc8 : Int32 → (Nat → Int32) → Option (Int32 × (Nat → Int32) × (Nat → Int32) × (Nat → Int32))) (v6 : Int32) (v7 : (Nat → Int32)) : Option (Int32 × (Nat → Int32) × (Nat → Int32) × (Nat → Int32)) :=
if 120 ≤ v6 then (k5 v7) else ((ag c_pastRights 1200 (((120 : Int32) * p1) + v6)).bind fun x9 =>
(as_ v7 120 v6 x9).bind fun f10 =>
lt_ (v6 + 1) fun x11 =>
rc8 x11 f10)
def bX12_laysBack_12 (p1 : Int32) (c_pastLefts : (Nat → Int32)) (c_pastSizes : (Nat → Int32)) (k13 : ((Nat → Int32) → (Nat → Int32) → Option (Int32 × (Nat → Int32) × (Nat → Int32) × (Nat → Int32)))) (rc17 : Int32 → (Nat → Int32) → (Nat → Int32) → Option (Int32 × (Nat → Int32) × (Nat → Int32) × (Nat → Int32))) (v14 : Int32) (v15 : (Nat → Int32)) (v16 : (Nat → Int32)) : Option (Int32 × (Nat → Int32) × (Nat → Int32) × (Nat → Int32)) :=
if 24 ≤ v14 then (k13 v15 v16) else ((ag c_pastLefts 240 (((24 : Int32) * p1) + v14)).bind fun x18 =>
(as_ v15 24 v14 x18).bind fun f19 =>
(ag c_pastSizes 240 (((24 : Int32) * p1) + v14)).bind fun x20 =>
(as_ v16 24 v14 x20).bind fun f21 =>
lt_ (v14 + 1) fun x22 =>
rc17 x22 f19 f21)
def fX12_laysBack (N : Nat) (c_rules : Int32) (c_lefts : (Nat → Int32)) (c_sizes : (Nat → Int32)) (c_rights : (Nat → Int32)) (c_pastRules : (Nat → Int32)) (c_pastLefts : (Nat → Int32)) (c_pastSizes : (Nat → Int32)) (c_pastRights : (Nat → Int32)) (p1 : Int32) : Option (Int32 × (Nat → Int32) × (Nat → Int32) × (Nat → Int32)) :=
(ag c_pastRules 10 p1).bind fun x1 =>
jn2 (fun (v2 : (Nat → Int32)) (v3 : (Nat → Int32)) => jn_ (fun (v4 : (Nat → Int32)) => some (x1, v2, v3, v4)) fun k5 =>
itr2 (bX12_laysBack_60 p1 c_pastRights k5) N 0 c_rights) fun k13 =>
itr3 (bX12_laysBack_12 p1 c_pastLefts c_pastSizes k13) N 0 c_lefts c_sizes
def bX12_moves_78 (p1 : Int32) (k6 : ((Nat → Int32) → Option ((Nat → Int32) × (Nat → Int32) × (Nat → Int32) × (Nat → Int32)))) (rc9 : Int32 → (Nat → Int32) → Option ((Nat → Int32) × (Nat → Int32) × (Nat → Int32) × (Nat → Int32))) (v7 : Int32) (v8 : (Nat → Int32)) : Option ((Nat → Int32) × (Nat → Int32) × (Nat → Int32) × (Nat → Int32)) :=
if 120 ≤ v7 then (k6 v8) else ((ag v8 1200 (((120 : Int32) * p1) + v7)).bind fun x10 =>
(as_ v8 1200 (((120 : Int32) * (p1 - (1 : Int32))) + v7) x10).bind fun f11 =>
lt_ (v7 + 1) fun x12 =>
rc9 x12 f11)
def bX12_moves_16 (p1 : Int32) (k14 : ((Nat → Int32) → (Nat → Int32) → Option ((Nat → Int32) × (Nat → Int32) × (Nat → Int32) × (Nat → Int32)))) (rc18 : Int32 → (Nat → Int32) → (Nat → Int32) → Option ((Nat → Int32) × (Nat → Int32) × (Nat → Int32) × (Nat → Int32))) (v15 : Int32) (v16 : (Nat → Int32)) (v17 : (Nat → Int32)) : Option ((Nat → Int32) × (Nat → Int32) × (Nat → Int32) × (Nat → Int32)) :=
if 24 ≤ v15 then (k14 v16 v17) else ((ag v16 240 (((24 : Int32) * p1) + v15)).bind fun x19 =>
(as_ v16 240 (((24 : Int32) * (p1 - (1 : Int32))) + v15) x19).bind fun f20 =>
(ag v17 240 (((24 : Int32) * p1) + v15)).bind fun x21 =>
(as_ v17 240 (((24 : Int32) * (p1 - (1 : Int32))) + v15) x21).bind fun f22 =>
lt_ (v15 + 1) fun x23 =>
rc18 x23 f20 f22)
def fX12_moves (N : Nat) (c_pastRules : (Nat → Int32)) (c_pastLefts : (Nat → Int32)) (c_pastSizes : (Nat → Int32)) (c_pastRights : (Nat → Int32)) (p1 : Int32) : Option ((Nat → Int32) × (Nat → Int32) × (Nat → Int32) × (Nat → Int32)) :=
(ag c_pastRules 10 p1).bind fun x1 =>
(as_ c_pastRules 10 (p1 - (1 : Int32)) x1).bind fun f2 =>
jn2 (fun (v3 : (Nat → Int32)) (v4 : (Nat → Int32)) => jn_ (fun (v5 : (Nat → Int32)) => some (f2, v3, v4, v5)) fun k6 =>
itr2 (bX12_moves_78 p1 k6) N 0 c_pastRights) fun k14 =>
itr3 (bX12_moves_16 p1 k14) N 0 c_pastLefts c_pastSizes
def fX12_isEmpty (c_empties : Int32) (p1 : Int32) : Option (Int32) :=
jn_ (fun (v1 : Int32) => gz v1 (some v1)) fun k2 =>
jn_ (fun (v3 : Unit) => k2 0) fun k4 =>
if p1 < 10 then (k4 ()) else (if ((c_empties >>> ((p1 - (10 : Int32)) &&& (31 : Int32))) &&& (1 : Int32)) = 1 then (k2 1) else (k4 ()))
def bX12_areEmpty_2 (p1 : Int32) (c_sizes : (Nat → Int32)) (c_rights : (Nat → Int32)) (c_empties : Int32) (k2 : (Unit → Option (Int32))) (rc4 : Int32 → Option (Int32)) (v3 : Int32) : Option (Int32) :=
(ag c_sizes 24 p1).bind fun x5 =>
if x5 ≤ v3 then (k2 ()) else ((fX12_symbol c_rights p1 v3).bind fun x6 =>
(fX12_isEmpty c_empties x6).bind fun x7 =>
if x7 = 0 then (some 0) else (lt_ (v3 + 1) fun x8 =>
rc4 x8))
def fX12_areEmpty (N : Nat) (c_sizes : (Nat → Int32)) (c_rights : (Nat → Int32)) (c_empties : Int32) (p1 : Int32) (p2 : Int32) : Option (Int32) :=
jn_ (fun (v1 : Unit) => some 1) fun k2 =>
itr (bX12_areEmpty_2 p1 c_sizes c_rights c_empties k2) N p2
def bX12_firstOf_5 (p1 : Int32) (c_sizes : (Nat → Int32)) (c_rights : (Nat → Int32)) (c_empties : Int32) (c_firsts : (Nat → Int32)) (k2 : (Int32 → Option (Int32))) (rc5 : Int32 → Int32 → Option (Int32)) (v3 : Int32) (v4 : Int32) : Option (Int32) :=
(ag c_sizes 24 p1).bind fun x6 =>
if x6 ≤ v4 then (k2 v3) else ((fX12_symbol c_rights p1 v4).bind fun x7 =>
jn_ (fun (v8 : Int32) => lt_ (v3 ||| v8) fun x9 =>
(fX12_isEmpty c_empties x7).bind fun x10 =>
if x10 = 0 then (some x9) else (lt_ (v4 + 1) fun x11 =>
rc5 x9 x11)) fun k12 =>
if 10 ≤ x7 then ((ag c_firsts 8 (x7 - (10 : Int32))).bind fun x13 =>
k12 x13) else (k12 ((1 : Int32) <<< (x7 &&& (31 : Int32)))))
def fX12_firstOf (N : Nat) (c_sizes : (Nat → Int32)) (c_rights : (Nat → Int32)) (c_empties : Int32) (c_firsts : (Nat → Int32)) (p1 : Int32) (p2 : Int32) : Option (Int32) :=
jn_ (fun (v1 : Int32) => some v1) fun k2 =>
itr2 (bX12_firstOf_5 p1 c_sizes c_rights c_empties c_firsts k2) N 0 p2
def bX12_grows_100 (N : Nat) (c_sizes : (Nat → Int32)) (c_rights : (Nat → Int32)) (v7 : Int32) (x12 : Int32) (v14 : Int32) (f19 : (Nat → Int32)) (k23 : (Int32 → (Nat → Int32) → Option (Int32 × Int32 × (Nat → Int32) × (Nat → Int32)))) (rc27 : Int32 → Int32 → (Nat → Int32) → Option (Int32 × Int32 × (Nat → Int32) × (Nat → Int32))) (v24 : Int32) (v25 : Int32) (v26 : (Nat → Int32)) : Option (Int32 × Int32 × (Nat → Int32) × (Nat → Int32)) :=
(ag c_sizes 24 v7).bind fun x28 =>
if x28 ≤ v25 then (k23 v24 v26) else ((fX12_symbol c_rights v7 v25).bind fun x29 =>
lt_ (x29 - (10 : Int32)) fun x30 =>
jn2 (fun (v31 : Int32) (v32 : (Nat → Int32)) => lt_ (v25 + 1) fun x33 =>
rc27 v31 x33 v32) fun k34 =>
if 0 ≤ x30 then ((ag v26 8 x30).bind fun x35 =>
(fX12_firstOf N c_sizes c_rights v14 f19 v7 (v25 + (1 : Int32))).bind fun x36 =>
(fX12_areEmpty N c_sizes c_rights v14 v7 (v25 + (1 : Int32))).bind fun x37 =>
jn_ (fun (v38 : Int32) => lt_ ((x35 ||| x36) ||| v38) fun x39 =>
jn_ (fun (v40 : Int32) => (as_ v26 8 x30 x39).bind fun f41 =>
k34 v40 f41) fun k42 =>
jn_ (fun (v43 : Unit) => k42 1) fun k44 =>
if v24 = 0 then ((ag v26 8 x30).bind fun x45 =>
if x39 = x45 then (k42 0) else (k44 ())) else (k44 ())) fun k46 =>
if x37 = 0 then (k46 0) else ((ag v26 8 x12).bind fun x47 =>
k46 x47)) else (k34 v24 v26))
def bX12_grows_4 (N : Nat) (c_rules : Int32) (c_lefts : (Nat → Int32)) (c_sizes : (Nat → Int32)) (c_rights : (Nat → Int32)) (k5 : (Int32 → Int32 → (Nat → Int32) → (Nat → Int32) → Option (Int32 × Int32 × (Nat → Int32) × (Nat → Int32)))) (rc11 : Int32 → Int32 → Int32 → (Nat → Int32) → (Nat → Int32) → Option (Int32 × Int32 × (Nat → Int32) × (Nat → Int32))) (v6 : Int32) (v7 : Int32) (v8 : Int32) (v9 : (Nat → Int32)) (v10 : (Nat → Int32)) : Option (Int32 × Int32 × (Nat → Int32) × (Nat → Int32)) :=
if c_rules ≤ v7 then (k5 v6 v8 v9 v10) else ((ag c_lefts 24 v7).bind fun x12 =>
jn2 (fun (v13 : Int32) (v14 : Int32) => (ag v9 8 x12).bind fun x15 =>
(fX12_firstOf N c_sizes c_rights v14 v9 v7 0).bind fun x16 =>
lt_ (x15 ||| x16) fun x17 =>
jn_ (fun (v18 : Int32) => (as_ v9 8 x12 x17).bind fun f19 =>
jn2 (fun (v20 : Int32) (v21 : (Nat → Int32)) => lt_ (v7 + 1) fun x22 =>
rc11 v20 x22 v14 f19 v21) fun k23 =>
itr3 (bX12_grows_100 N c_sizes c_rights v7 x12 v14 f19 k23) N v18 0 v10) fun k50 =>
jn_ (fun (v51 : Unit) => k50 1) fun k52 =>
if v13 = 0 then ((ag v9 8 x12).bind fun x53 =>
if x17 = x53 then (k50 0) else (k52 ())) else (k52 ())) fun k54 =>
if ((v8 >>> (x12 &&& (31 : Int32))) &&& (1 : Int32)) = 0 then ((fX12_areEmpty N c_sizes c_rights v8 v7 0).bind fun x55 =>
if x55 = 0 then (k54 v6 v8) else (lt_ (v8 ||| ((1 : Int32) <<< (x12 &&& (31 : Int32)))) fun x56 =>
k54 1 x56)) else (k54 v6 v8))
def fX12_grows (N : Nat) (c_rules : Int32) (c_lefts : (Nat → Int32)) (c_sizes : (Nat → Int32)) (c_rights : (Nat → Int32)) (c_empties : Int32) (c_firsts : (Nat → Int32)) (c_follows : (Nat → Int32)) : Option (Int32 × Int32 × (Nat → Int32) × (Nat → Int32)) :=
jn4 (fun (v1 : Int32) (v2 : Int32) (v3 : (Nat → Int32)) (v4 : (Nat → Int32)) => gz v1 (some (v1, v2, v3, v4))) fun k5 =>
itr5 (bX12_grows_4 N c_rules c_lefts c_sizes c_rights k5) N 0 0 c_empties c_firsts c_follows
def bX12_empties_2 (p2 : Int32) (k2 : ((Nat → Int32) → Option ((Nat → Int32)))) (rc5 : Int32 → (Nat → Int32) → Option ((Nat → Int32))) (v3 : Int32) (v4 : (Nat → Int32)) : Option ((Nat → Int32)) :=
if p2 ≤ v3 then (k2 v4) else ((as_ v4 32 v3 (-1)).bind fun f6 =>
lt_ (v3 + 1) fun x7 =>
rc5 x7 f6)
def fX12_empties (N : Nat) (c_longs : (Nat → Int32)) (p1 : Int32) (p2 : Int32) : Option ((Nat → Int32)) :=
jn_ (fun (v1 : (Nat → Int32)) => some v1) fun k2 =>
itr2 (bX12_empties_2 p2 k2) N p1 c_longs
def fX12_tries (c_trialLong : Int32) : Option (Int32) :=
some 0
def fX12_adds (c_trial : (Nat → Int32)) (c_trialLong : Int32) (p1 : Int32) : Option ((Nat → Int32) × Int32) :=
jn2 (fun (v1 : (Nat → Int32)) (v2 : Int32) => some (v1, v2)) fun k3 =>
jn_ (fun (v4 : Unit) => k3 c_trial (-1)) fun k5 =>
if c_trialLong < 0 then (k5 ()) else (if 40 ≤ c_trialLong then (k5 ()) else ((as_ c_trial 40 c_trialLong p1).bind fun f6 =>
lt_ (c_trialLong + (1 : Int32)) fun x7 =>
k3 f6 x7))
def bX12_addsSlot_16 (p1 : Int32) (c_strings : (Nat → Int32)) (c_longs : (Nat → Int32)) (k5 : ((Nat → Int32) → Int32 → Option ((Nat → Int32) × Int32))) (rc9 : Int32 → (Nat → Int32) → Int32 → Option ((Nat → Int32) × Int32)) (v6 : Int32) (v7 : (Nat → Int32)) (v8 : Int32) : Option ((Nat → Int32) × Int32) :=
(ag c_longs 32 p1).bind fun x10 =>
if x10 ≤ v6 then (k5 v7 v8) else (if v8 < 0 then (k5 v7 v8) else ((ag c_strings 1280 (((40 : Int32) * p1) + v6)).bind fun x11 =>
bd2 (fX12_adds v7 v8 x11) fun o12 o13 =>
lt_ (v6 + 1) fun x14 =>
rc9 x14 o12 o13))
def fX12_addsSlot (N : Nat) (c_strings : (Nat → Int32)) (c_longs : (Nat → Int32)) (c_trial : (Nat → Int32)) (c_trialLong : Int32) (p1 : Int32) : Option ((Nat → Int32) × Int32) :=
(ag c_longs 32 p1).bind fun x1 =>
jn_ (fun (v2 : Int32) => jn2 (fun (v3 : (Nat → Int32)) (v4 : Int32) => some (v3, v4)) fun k5 =>
itr3 (bX12_addsSlot_16 p1 c_strings c_longs k5) N 0 c_trial v2) fun k17 =>
if 0 ≤ x1 then (k17 c_trialLong) else (k17 (-1))
def bX12_addsShortest_3 (N : Nat) (p1 : Int32) (p3 : Int32) (c_rights : (Nat → Int32)) (c_strings : (Nat → Int32)) (c_longs : (Nat → Int32)) (k3 : ((Nat → Int32) → Int32 → Option ((Nat → Int32) × Int32))) (rc7 : Int32 → (Nat → Int32) → Int32 → Option ((Nat → Int32) × Int32)) (v4 : Int32) (v5 : (Nat → Int32)) (v6 : Int32) : Option ((Nat → Int32) × Int32) :=
if p3 ≤ v4 then (k3 v5 v6) else (if v6 < 0 then (k3 v5 v6) else ((fX12_symbol c_rights p1 v4).bind fun x8 =>
jn2 (fun (v9 : (Nat → Int32)) (v10 : Int32) => lt_ (v4 + 1) fun x11 =>
rc7 x11 v9 v10) fun k12 =>
if 10 ≤ x8 then ((fX12_symbol c_rights p1 v4).bind fun x13 =>
bd2 (fX12_addsSlot N c_strings c_longs v5 v6 (x13 - (10 : Int32))) fun o14 o15 =>
k12 o14 o15) else ((fX12_symbol c_rights p1 v4).bind fun x16 =>
bd2 (fX12_adds v5 v6 x16) fun o17 o18 =>
k12 o17 o18)))
def fX12_addsShortest (N : Nat) (c_rights : (Nat → Int32)) (c_strings : (Nat → Int32)) (c_longs : (Nat → Int32)) (c_trial : (Nat → Int32)) (c_trialLong : Int32) (p1 : Int32) (p2 : Int32) (p3 : Int32) : Option ((Nat → Int32) × Int32) :=
jn2 (fun (v1 : (Nat → Int32)) (v2 : Int32) => some (v1, v2)) fun k3 =>
itr3 (bX12_addsShortest_3 N p1 p3 c_rights c_strings c_longs k3) N p2 c_trial c_trialLong
def bX12_betters_122 (p1 : Int32) (c_trial : (Nat → Int32)) (c_trialLong : Int32) (k9 : ((Nat → Int32) → Option (Int32 × (Nat → Int32) × (Nat → Int32)))) (rc12 : Int32 → (Nat → Int32) → Option (Int32 × (Nat → Int32) × (Nat → Int32))) (v10 : Int32) (v11 : (Nat → Int32)) : Option (Int32 × (Nat → Int32) × (Nat → Int32)) :=
if c_trialLong ≤ v10 then (k9 v11) else ((ag c_trial 40 v10).bind fun x13 =>
(as_ v11 1280 (((40 : Int32) * p1) + v10) x13).bind fun f14 =>
lt_ (v10 + 1) fun x15 =>
rc12 x15 f14)
def bX12_betters_46 (p1 : Int32) (c_strings : (Nat → Int32)) (c_trial : (Nat → Int32)) (c_trialLong : Int32) (k23 : (Int32 → Option (Int32 × (Nat → Int32) × (Nat → Int32)))) (rc25 : Int32 → Option (Int32 × (Nat → Int32) × (Nat → Int32))) (v24 : Int32) : Option (Int32 × (Nat → Int32) × (Nat → Int32)) :=
if c_trialLong ≤ v24 then (k23 v24) else ((ag c_trial 40 v24).bind fun x26 =>
(ag c_strings 1280 (((40 : Int32) * p1) + v24)).bind fun x27 =>
if x26 = x27 then (lt_ (v24 + 1) fun x28 =>
rc25 x28) else (k23 v24))
def fX12_betters (N : Nat) (c_strings : (Nat → Int32)) (c_longs : (Nat → Int32)) (c_trial : (Nat → Int32)) (c_trialLong : Int32) (p1 : Int32) : Option (Int32 × (Nat → Int32) × (Nat → Int32)) :=
jn_ (fun (v1 : Unit) => some (0, c_strings, c_longs)) fun k2 =>
if c_trialLong < 0 then (k2 ()) else ((ag c_longs 32 p1).bind fun x3 =>
jn_ (fun (v4 : Unit) => (ag c_longs 32 p1).bind fun x5 =>
jn_ (fun (v6 : Unit) => (as_ c_longs 32 p1 c_trialLong).bind fun f7 =>
jn_ (fun (v8 : (Nat → Int32)) => some (1, v8, f7)) fun k9 =>
itr2 (bX12_betters_122 p1 c_trial c_trialLong k9) N 0 c_strings) fun k17 =>
if c_trialLong = x5 then (jn_ (fun (v18 : Int32) => jn_ (fun (v19 : Unit) => some (0, c_strings, c_longs)) fun k20 =>
if v18 = c_trialLong then (k20 ()) else ((ag c_trial 40 v18).bind fun x21 =>
(ag c_strings 1280 (((40 : Int32) * p1) + v18)).bind fun x22 =>
if x21 ≤ x22 then (k17 ()) else (k20 ()))) fun k23 =>
itr (bX12_betters_46 p1 c_strings c_trial c_trialLong k23) N 0) else (k17 ())) fun k30 =>
if x3 < 0 then (k30 ()) else ((ag c_longs 32 p1).bind fun x31 =>
if c_trialLong ≤ x31 then (k30 ()) else (k2 ())))
def bX12_shortens_17 (N : Nat) (c_rules : Int32) (c_lefts : (Nat → Int32)) (c_sizes : (Nat → Int32)) (c_rights : (Nat → Int32)) (k18 : (Int32 → (Nat → Int32) → (Nat → Int32) → (Nat → Int32) → Int32 → Option ((Nat → Int32) × (Nat → Int32) × (Nat → Int32) × Int32))) (rc25 : Int32 → Int32 → (Nat → Int32) → (Nat → Int32) → (Nat → Int32) → Int32 → Option ((Nat → Int32) × (Nat → Int32) × (Nat → Int32) × Int32)) (v19 : Int32) (v20 : Int32) (v21 : (Nat → Int32)) (v22 : (Nat → Int32)) (v23 : (Nat → Int32)) (v24 : Int32) : Option ((Nat → Int32) × (Nat → Int32) × (Nat → Int32) × Int32) :=
if c_rules ≤ v20 then (k18 v19 v21 v22 v23 v24) else ((fX12_tries v24).bind fun o26 =>
(ag c_sizes 24 v20).bind fun x27 =>
bd2 (fX12_addsShortest N c_rights v21 v22 v23 o26 v20 0 x27) fun o28 o29 =>
(ag c_lefts 24 v20).bind fun x30 =>
bd3 (fX12_betters N v21 v22 o28 o29 x30) fun o33 o31 o32 =>
jn_ (fun (v34 : Int32) => lt_ (v20 + 1) fun x35 =>
rc25 v34 x35 o31 o32 o28 o29) fun k36 =>
jn_ (fun (v37 : Unit) => k36 1) fun k38 =>
if o33 = 0 then (if v19 = 0 then (k36 0) else (k38 ())) else (k38 ()))
def bX12_shortens_9 (N : Nat) (c_rules : Int32) (c_lefts : (Nat → Int32)) (c_sizes : (Nat → Int32)) (c_rights : (Nat → Int32)) (k6 : ((Nat → Int32) → (Nat → Int32) → (Nat → Int32) → Int32 → Option ((Nat → Int32) × (Nat → Int32) × (Nat → Int32) × Int32))) (rc12 : Int32 → (Nat → Int32) → (Nat → Int32) → (Nat → Int32) → Int32 → Option ((Nat → Int32) × (Nat → Int32) × (Nat → Int32) × Int32)) (v7 : Int32) (v8 : (Nat → Int32)) (v9 : (Nat → Int32)) (v10 : (Nat → Int32)) (v11 : Int32) : Option ((Nat → Int32) × (Nat → Int32) × (Nat → Int32) × Int32) :=
if v7 = 0 then (k6 v8 v9 v10 v11) else (jn5 (fun (v13 : Int32) (v14 : (Nat → Int32)) (v15 : (Nat → Int32)) (v16 : (Nat → Int32)) (v17 : Int32) => rc12 v13 v14 v15 v16 v17) fun k18 =>
itr6 (bX12_shortens_17 N c_rules c_lefts c_sizes c_rights k18) N 0 0 v8 v9 v10 v11)
def fX12_shortens (N : Nat) (c_rules : Int32) (c_lefts : (Nat → Int32)) (c_sizes : (Nat → Int32)) (c_rights : (Nat → Int32)) (c_strings : (Nat → Int32)) (c_longs : (Nat → Int32)) (c_trial : (Nat → Int32)) (c_trialLong : Int32) : Option ((Nat → Int32) × (Nat → Int32) × (Nat → Int32) × Int32) :=
(fX12_empties N c_longs 0 8).bind fun o1 =>
jn4 (fun (v2 : (Nat → Int32)) (v3 : (Nat → Int32)) (v4 : (Nat → Int32)) (v5 : Int32) => some (v2, v3, v4, v5)) fun k6 =>
itr5 (bX12_shortens_9 N c_rules c_lefts c_sizes c_rights k6) N 1 c_strings o1 c_trial c_trialLong
def bX12_works_58 (N : Nat) (c_rules : Int32) (c_lefts : (Nat → Int32)) (c_sizes : (Nat → Int32)) (c_rights : (Nat → Int32)) (k10 : (Int32 → (Nat → Int32) → (Nat → Int32) → Option (Int32 × Int32 × (Nat → Int32) × (Nat → Int32) × (Nat → Int32) × (Nat → Int32) × (Nat → Int32) × Int32))) (rc15 : Int32 → Int32 → (Nat → Int32) → (Nat → Int32) → Option (Int32 × Int32 × (Nat → Int32) × (Nat → Int32) × (Nat → Int32) × (Nat → Int32) × (Nat → Int32) × Int32)) (v11 : Int32) (v12 : Int32) (v13 : (Nat → Int32)) (v14 : (Nat → Int32)) : Option (Int32 × Int32 × (Nat → Int32) × (Nat → Int32) × (Nat → Int32) × (Nat → Int32) × (Nat → Int32) × Int32) :=
if v11 = 0 then (k10 v12 v13 v14) else (bd4 (fX12_grows N c_rules c_lefts c_sizes c_rights v12 v13 v14) fun o19 o16 o17 o18 =>
rc15 o19 o16 o17 o18)
def bX12_works_20 (k23 : ((Nat → Int32) → (Nat → Int32) → Option (Int32 × Int32 × (Nat → Int32) × (Nat → Int32) × (Nat → Int32) × (Nat → Int32) × (Nat → Int32) × Int32))) (rc27 : Int32 → (Nat → Int32) → (Nat → Int32) → Option (Int32 × Int32 × (Nat → Int32) × (Nat → Int32) × (Nat → Int32) × (Nat → Int32) × (Nat → Int32) × Int32)) (v24 : Int32) (v25 : (Nat → Int32)) (v26 : (Nat → Int32)) : Option (Int32 × Int32 × (Nat → Int32) × (Nat → Int32) × (Nat → Int32) × (Nat → Int32) × (Nat → Int32) × Int32) :=
if 8 ≤ v24 then (k23 v25 v26) else ((as_ v25 8 v24 0).bind fun f28 =>
jn_ (fun (v29 : Int32) => (as_ v26 8 v24 v29).bind fun f30 =>
lt_ (v24 + 1) fun x31 =>
rc27 x31 f28 f30) fun k32 =>
if v24 = 0 then (k32 256) else (k32 0))
def fX12_works (N : Nat) (c_rules : Int32) (c_lefts : (Nat → Int32)) (c_sizes : (Nat → Int32)) (c_rights : (Nat → Int32)) (c_isWorked : Int32) (c_empties : Int32) (c_firsts : (Nat → Int32)) (c_follows : (Nat → Int32)) (c_strings : (Nat → Int32)) (c_longs : (Nat → Int32)) (c_trial : (Nat → Int32)) (c_trialLong : Int32) : Option (Int32 × Int32 × (Nat → Int32) × (Nat → Int32) × (Nat → Int32) × (Nat → Int32) × (Nat → Int32) × Int32) :=
if c_isWorked = 0 then (jn2 (fun (v1 : (Nat → Int32)) (v2 : (Nat → Int32)) => jn3 (fun (v3 : Int32) (v4 : (Nat → Int32)) (v5 : (Nat → Int32)) => bd4 (fX12_shortens N c_rules c_lefts c_sizes c_rights c_strings c_longs c_trial c_trialLong) fun o6 o7 o8 o9 =>
some (1, v3, v4, v5, o6, o7, o8, o9)) fun k10 =>
itr4 (bX12_works_58 N c_rules c_lefts c_sizes c_rights k10) N 1 0 v1 v2) fun k23 =>
itr3 (bX12_works_20 k23) N 0 c_firsts c_follows) else (some (c_isWorked, c_empties, c_firsts, c_follows, c_strings, c_longs, c_trial, c_trialLong))
def bX12_keepsSets_15 (c_firsts : (Nat → Int32)) (c_follows : (Nat → Int32)) (k3 : ((Nat → Int32) → (Nat → Int32) → Option (Int32 × Int32 × (Nat → Int32) × (Nat → Int32)))) (rc7 : Int32 → (Nat → Int32) → (Nat → Int32) → Option (Int32 × Int32 × (Nat → Int32) × (Nat → Int32))) (v4 : Int32) (v5 : (Nat → Int32)) (v6 : (Nat → Int32)) : Option (Int32 × Int32 × (Nat → Int32) × (Nat → Int32)) :=
if 8 ≤ v4 then (k3 v5 v6) else ((ag c_firsts 8 v4).bind fun x8 =>
(as_ v5 8 v4 x8).bind fun f9 =>
(ag c_follows 8 v4).bind fun x10 =>
(as_ v6 8 v4 x10).bind fun f11 =>
lt_ (v4 + 1) fun x12 =>
rc7 x12 f9 f11)
def fX12_keepsSets (N : Nat) (c_empties : Int32) (c_firsts : (Nat → Int32)) (c_follows : (Nat → Int32)) (c_isKept : Int32) (c_keptEmpties : Int32) (c_keptFirsts : (Nat → Int32)) (c_keptFollows : (Nat → Int32)) : Option (Int32 × Int32 × (Nat → Int32) × (Nat → Int32)) :=
jn2 (fun (v1 : (Nat → Int32)) (v2 : (Nat → Int32)) => some (1, c_empties, v1, v2)) fun k3 =>
itr3 (bX12_keepsSets_15 c_firsts c_follows k3) N 0 c_keptFirsts c_keptFollows
def bX12_edits_19 (N : Nat) (k29 : ((Nat → Int32) → (Nat → Int32) → (Nat → Int32) → (Nat → Int32) → Option (Int32 × (Nat → Int32) × (Nat → Int32) × (Nat → Int32) × (Nat → Int32) × Int32 × Int32 × (Nat → Int32) × (Nat → Int32) × Int32 × Int32 × (Nat → Int32) × (Nat → Int32) × (Nat → Int32) × (Nat → Int32) × (Nat → Int32) × Int32))) (rc35 : Int32 → (Nat → Int32) → (Nat → Int32) → (Nat → Int32) → (Nat → Int32) → Option (Int32 × (Nat → Int32) × (Nat → Int32) × (Nat → Int32) × (Nat → Int32) × Int32 × Int32 × (Nat → Int32) × (Nat → Int32) × Int32 × Int32 × (Nat → Int32) × (Nat → Int32) × (Nat → Int32) × (Nat → Int32) × (Nat → Int32) × Int32)) (v30 : Int32) (v31 : (Nat → Int32)) (v32 : (Nat → Int32)) (v33 : (Nat → Int32)) (v34 : (Nat → Int32)) : Option (Int32 × (Nat → Int32) × (Nat → Int32) × (Nat → Int32) × (Nat → Int32) × Int32 × Int32 × (Nat → Int32) × (Nat → Int32) × Int32 × Int32 × (Nat → Int32) × (Nat → Int32) × (Nat → Int32) × (Nat → Int32) × (Nat → Int32) × Int32) :=
if 10 ≤ v30 then (k29 v31 v32 v33 v34) else (bd4 (fX12_moves N v31 v32 v33 v34 v30) fun o36 o37 o38 o39 =>
lt_ (v30 + 1) fun x40 =>
rc35 x40 o36 o37 o38 o39)
def fX12_edits (N : Nat) (c_rules : Int32) (c_lefts : (Nat → Int32)) (c_sizes : (Nat → Int32)) (c_rights : (Nat → Int32)) (c_edits : Int32) (c_pastRules : (Nat → Int32)) (c_pastLefts : (Nat → Int32)) (c_pastSizes : (Nat → Int32)) (c_pastRights : (Nat → Int32)) (c_isWorked : Int32) (c_empties : Int32) (c_firsts : (Nat → Int32)) (c_follows : (Nat → Int32)) (c_isKept : Int32) (c_keptEmpties : Int32) (c_keptFirsts : (Nat → Int32)) (c_keptFollows : (Nat → Int32)) (c_strings : (Nat → Int32)) (c_longs : (Nat → Int32)) (c_trial : (Nat → Int32)) (c_trialLong : Int32) : Option (Int32 × (Nat → Int32) × (Nat → Int32) × (Nat → Int32) × (Nat → Int32) × Int32 × Int32 × (Nat → Int32) × (Nat → Int32) × Int32 × Int32 × (Nat → Int32) × (Nat → Int32) × (Nat → Int32) × (Nat → Int32) × (Nat → Int32) × Int32) :=
bd8 (fX12_works N c_rules c_lefts c_sizes c_rights c_isWorked c_empties c_firsts c_follows c_strings c_longs c_trial c_trialLong) fun o1 o2 o3 o4 o5 o6 o7 o8 =>
bd4 (fX12_keepsSets N o2 o3 o4 c_isKept c_keptEmpties c_keptFirsts c_keptFollows) fun o9 o10 o11 o12 =>
jn5 (fun (v13 : Int32) (v14 : (Nat → Int32)) (v15 : (Nat → Int32)) (v16 : (Nat → Int32)) (v17 : (Nat → Int32)) => bd4 (fX12_lays N c_rules c_lefts c_sizes c_rights v14 v15 v16 v17 v13) fun o18 o19 o20 o21 =>
lt_ (v13 + (1 : Int32)) fun x22 =>
some (x22, o18, o19, o20, o21, 0, o2, o3, o4, o9, o10, o11, o12, o5, o6, o7, o8)) fun k23 =>
if c_edits = 10 then (jn4 (fun (v24 : (Nat → Int32)) (v25 : (Nat → Int32)) (v26 : (Nat → Int32)) (v27 : (Nat → Int32)) => lt_ (c_edits - (1 : Int32)) fun x28 =>
k23 x28 v24 v25 v26 v27) fun k29 =>
itr5 (bX12_edits_19 N k29) N 1 c_pastRules c_pastLefts c_pastSizes c_pastRights) else (k23 c_edits c_pastRules c_pastLefts c_pastSizes c_pastRights)
def fX12_opens (c_rules : Int32) (c_lefts : (Nat → Int32)) (c_sizes : (Nat → Int32)) (p1 : Int32) : Option (Int32 × Int32 × (Nat → Int32) × (Nat → Int32)) :=
(as_ c_lefts 24 c_rules p1).bind fun f1 =>
(as_ c_sizes 24 c_rules 0).bind fun f2 =>
lt_ (c_rules + (1 : Int32)) fun x3 =>
some ((x3 - (1 : Int32)), x3, f1, f2)
def fX12_puts (c_sizes : (Nat → Int32)) (c_rights : (Nat → Int32)) (p1 : Int32) (p2 : Int32) : Option ((Nat → Int32) × (Nat → Int32)) :=
(ag c_sizes 24 p1).bind fun x1 =>
(as_ c_rights 120 (((5 : Int32) * p1) + x1) p2).bind fun f2 =>
(ag c_sizes 24 p1).bind fun x3 =>
(as_ c_sizes 24 p1 (x3 + (1 : Int32))).bind fun f4 =>
some (f4, f2)
def bX12_drops_42 (v6 : Int32) (k17 : ((Nat → Int32) → Option (Int32 × (Nat → Int32) × (Nat → Int32) × (Nat → Int32)))) (rc20 : Int32 → (Nat → Int32) → Option (Int32 × (Nat → Int32) × (Nat → Int32) × (Nat → Int32))) (v18 : Int32) (v19 : (Nat → Int32)) : Option (Int32 × (Nat → Int32) × (Nat → Int32) × (Nat → Int32)) :=
if 5 ≤ v18 then (k17 v19) else ((ag v19 120 (((5 : Int32) * (v6 + (1 : Int32))) + v18)).bind fun x21 =>
(as_ v19 120 (((5 : Int32) * v6) + v18) x21).bind fun f22 =>
lt_ (v18 + 1) fun x23 =>
rc20 x23 f22)
def bX12_drops_2 (N : Nat) (c_rules : Int32) (k5 : ((Nat → Int32) → (Nat → Int32) → (Nat → Int32) → Option (Int32 × (Nat → Int32) × (Nat → Int32) × (Nat → Int32)))) (rc10 : Int32 → (Nat → Int32) → (Nat → Int32) → (Nat → Int32) → Option (Int32 × (Nat → Int32) × (Nat → Int32) × (Nat → Int32))) (v6 : Int32) (v7 : (Nat → Int32)) (v8 : (Nat → Int32)) (v9 : (Nat → Int32)) : Option (Int32 × (Nat → Int32) × (Nat → Int32) × (Nat → Int32)) :=
if (c_rules - (1 : Int32)) ≤ v6 then (k5 v7 v8 v9) else ((ag v7 24 (v6 + (1 : Int32))).bind fun x11 =>
(as_ v7 24 v6 x11).bind fun f12 =>
(ag v8 24 (v6 + (1 : Int32))).bind fun x13 =>
(as_ v8 24 v6 x13).bind fun f14 =>
jn_ (fun (v15 : (Nat → Int32)) => lt_ (v6 + 1) fun x16 =>
rc10 x16 f12 f14 v15) fun k17 =>
itr2 (bX12_drops_42 v6 k17) N 0 v9)
def fX12_drops (N : Nat) (c_rules : Int32) (c_lefts : (Nat → Int32)) (c_sizes : (Nat → Int32)) (c_rights : (Nat → Int32)) (p1 : Int32) : Option (Int32 × (Nat → Int32) × (Nat → Int32) × (Nat → Int32)) :=
jn3 (fun (v1 : (Nat → Int32)) (v2 : (Nat → Int32)) (v3 : (Nat → Int32)) => lt_ (c_rules - (1 : Int32)) fun x4 =>
some (x4, v1, v2, v3)) fun k5 =>
itr4 (bX12_drops_2 N c_rules k5) N p1 c_lefts c_sizes c_rights
def fX12_tells (c_levels : Int32) (c_codes : (Nat → Int32)) (c_details : (Nat → Int32)) (p1 : Int32) (p2 : Int32) (p3 : Int32) : Option (Int32 × (Nat → Int32) × (Nat → Int32)) :=
lt_ (p1 + (1 : Int32)) fun x1 =>
(as_ c_codes 3 p1 p2).bind fun f2 =>
(as_ c_details 3 p1 p3).bind fun f3 =>
some (x1, f2, f3)
def fX12_failureLevels (c_levels : Int32) : Option (Int32) :=
some c_levels
def fX12_failureCode (c_levels : Int32) (c_codes : (Nat → Int32)) (p1 : Int32) : Option (Int32) :=
(fX12_in p1 0 (c_levels - (1 : Int32))).bind fun x1 =>
jn_ (fun (v2 : Int32) => some v2) fun k3 =>
if x1 = 0 then (k3 (-2)) else ((ag c_codes 3 p1).bind fun x4 =>
k3 x4)
def fX12_failureDetail (c_levels : Int32) (c_details : (Nat → Int32)) (p1 : Int32) : Option (Int32) :=
(fX12_in p1 0 (c_levels - (1 : Int32))).bind fun x1 =>
jn_ (fun (v2 : Int32) => some v2) fun k3 =>
if x1 = 0 then (k3 (-2)) else ((ag c_details 3 p1).bind fun x4 =>
k3 x4)
def bX12_addProduction_252 (f5 : (Nat → Int32)) (v6 : Int32) (o30 : Int32) (k33 : ((Nat → Int32) → (Nat → Int32) → Option (Int32 × Int32 × (Nat → Int32) × (Nat → Int32) × (Nat → Int32) × Int32 × (Nat → Int32) × (Nat → Int32) × (Nat → Int32) × (Nat → Int32) × Int32 × (Nat → Int32) × (Nat → Int32) × (Nat → Int32) × Int32 × Int32 × (Nat → Int32) × (Nat → Int32) × Int32 × Int32 × (Nat → Int32) × (Nat → Int32) × (Nat → Int32) × (Nat → Int32) × (Nat → Int32) × Int32))) (rc37 : Int32 → (Nat → Int32) → (Nat → Int32) → Option (Int32 × Int32 × (Nat → Int32) × (Nat → Int32) × (Nat → Int32) × Int32 × (Nat → Int32) × (Nat → Int32) × (Nat → Int32) × (Nat → Int32) × Int32 × (Nat → Int32) × (Nat → Int32) × (Nat → Int32) × Int32 × Int32 × (Nat → Int32) × (Nat → Int32) × Int32 × Int32 × (Nat → Int32) × (Nat → Int32) × (Nat → Int32) × (Nat → Int32) × (Nat → Int32) × Int32)) (v34 : Int32) (v35 : (Nat → Int32)) (v36 : (Nat → Int32)) : Option (Int32 × Int32 × (Nat → Int32) × (Nat → Int32) × (Nat → Int32) × Int32 × (Nat → Int32) × (Nat → Int32) × (Nat → Int32) × (Nat → Int32) × Int32 × (Nat → Int32) × (Nat → Int32) × (Nat → Int32) × Int32 × Int32 × (Nat → Int32) × (Nat → Int32) × Int32 × Int32 × (Nat → Int32) × (Nat → Int32) × (Nat → Int32) × (Nat → Int32) × (Nat → Int32) × Int32) :=
if v6 ≤ v34 then (k33 v35 v36) else ((ag f5 5 v34).bind fun x38 =>
bd2 (fX12_puts v35 v36 o30 x38) fun o39 o40 =>
lt_ (v34 + 1) fun x41 =>
rc37 x41 o39 o40)
def bX12_addProduction_149 (c_rights : (Nat → Int32)) (f5 : (Nat → Int32)) (v6 : Int32) (v45 : Int32) (k57 : (Int32 → Option (Int32 × Int32 × (Nat → Int32) × (Nat → Int32) × (Nat → Int32) × Int32 × (Nat → Int32) × (Nat → Int32) × (Nat → Int32) × (Nat → Int32) × Int32 × (Nat → Int32) × (Nat → Int32) × (Nat → Int32) × Int32 × Int32 × (Nat → Int32) × (Nat → Int32) × Int32 × Int32 × (Nat → Int32) × (Nat → Int32) × (Nat → Int32) × (Nat → Int32) × (Nat → Int32) × Int32))) (rc60 : Int32 → Int32 → Option (Int32 × Int32 × (Nat → Int32) × (Nat → Int32) × (Nat → Int32) × Int32 × (Nat → Int32) × (Nat → Int32) × (Nat → Int32) × (Nat → Int32) × Int32 × (Nat → Int32) × (Nat → Int32) × (Nat → Int32) × Int32 × Int32 × (Nat → Int32) × (Nat → Int32) × Int32 × Int32 × (Nat → Int32) × (Nat → Int32) × (Nat → Int32) × (Nat → Int32) × (Nat → Int32) × Int32)) (v58 : Int32) (v59 : Int32) : Option (Int32 × Int32 × (Nat → Int32) × (Nat → Int32) × (Nat → Int32) × Int32 × (Nat → Int32) × (Nat → Int32) × (Nat → Int32) × (Nat → Int32) × Int32 × (Nat → Int32) × (Nat → Int32) × (Nat → Int32) × Int32 × Int32 × (Nat → Int32) × (Nat → Int32) × Int32 × Int32 × (Nat → Int32) × (Nat → Int32) × (Nat → Int32) × (Nat → Int32) × (Nat → Int32) × Int32) :=
if v6 ≤ v59 then (k57 v58) else (jn_ (fun (v61 : Int32) => lt_ (v59 + 1) fun x62 =>
rc60 v61 x62) fun k63 =>
jn_ (fun (v64 : Unit) => k63 0) fun k65 =>
if v58 = 0 then (k65 ()) else ((fX12_symbol c_rights v45 v59).bind fun x66 =>
(ag f5 5 v59).bind fun x67 =>
if x66 = x67 then (k63 1) else (k65 ())))
def bX12_addProduction_107 (N : Nat) (p1 : Int32) (c_rules : Int32) (c_lefts : (Nat → Int32)) (c_sizes : (Nat → Int32)) (c_rights : (Nat → Int32)) (c_edits : Int32) (c_pastRules : (Nat → Int32)) (c_pastLefts : (Nat → Int32)) (c_pastSizes : (Nat → Int32)) (c_pastRights : (Nat → Int32)) (c_levels : Int32) (c_codes : (Nat → Int32)) (c_details : (Nat → Int32)) (c_isWorked : Int32) (c_empties : Int32) (c_firsts : (Nat → Int32)) (c_follows : (Nat → Int32)) (c_isKept : Int32) (c_keptEmpties : Int32) (c_keptFirsts : (Nat → Int32)) (c_keptFollows : (Nat → Int32)) (c_strings : (Nat → Int32)) (c_longs : (Nat → Int32)) (c_trial : (Nat → Int32)) (c_trialLong : Int32) (f5 : (Nat → Int32)) (v6 : Int32) (k44 : (Unit → Option (Int32 × Int32 × (Nat → Int32) × (Nat → Int32) × (Nat → Int32) × Int32 × (Nat → Int32) × (Nat → Int32) × (Nat → Int32) × (Nat → Int32) × Int32 × (Nat → Int32) × (Nat → Int32) × (Nat → Int32) × Int32 × Int32 × (Nat → Int32) × (Nat → Int32) × Int32 × Int32 × (Nat → Int32) × (Nat → Int32) × (Nat → Int32) × (Nat → Int32) × (Nat → Int32) × Int32))) (rc46 : Int32 → Option (Int32 × Int32 × (Nat → Int32) × (Nat → Int32) × (Nat → Int32) × Int32 × (Nat → Int32) × (Nat → Int32) × (Nat → Int32) × (Nat → Int32) × Int32 × (Nat → Int32) × (Nat → Int32) × (Nat → Int32) × Int32 × Int32 × (Nat → Int32) × (Nat → Int32) × Int32 × Int32 × (Nat → Int32) × (Nat → Int32) × (Nat → Int32) × (Nat → Int32) × (Nat → Int32) × Int32)) (v45 : Int32) : Option (Int32 × Int32 × (Nat → Int32) × (Nat → Int32) × (Nat → Int32) × Int32 × (Nat → Int32) × (Nat → Int32) × (Nat → Int32) × (Nat → Int32) × Int32 × (Nat → Int32) × (Nat → Int32) × (Nat → Int32) × Int32 × Int32 × (Nat → Int32) × (Nat → Int32) × Int32 × Int32 × (Nat → Int32) × (Nat → Int32) × (Nat → Int32) × (Nat → Int32) × (Nat → Int32) × Int32) :=
if c_rules ≤ v45 then (k44 ()) else ((ag c_lefts 24 v45).bind fun x47 =>
jn_ (fun (v48 : Int32) => jn_ (fun (v49 : Int32) => if v49 = 0 then (lt_ (v45 + 1) fun x56 =>
rc46 x56) else (bd3 (fX12_tells c_levels c_codes c_details 0 13 p1) fun o50 o51 o52 =>
bd3 (fX12_tells o50 o51 o52 1 14 v45) fun o53 o54 o55 =>
some ((-4), c_rules, c_lefts, c_sizes, c_rights, c_edits, c_pastRules, c_pastLefts, c_pastSizes, c_pastRights, o53, o54, o55, f5, c_isWorked, c_empties, c_firsts, c_follows, c_isKept, c_keptEmpties, c_keptFirsts, c_keptFollows, c_strings, c_longs, c_trial, c_trialLong))) fun k57 =>
itr2 (bX12_addProduction_149 c_rights f5 v6 v45 k57) N v48 0) fun k69 =>
jn_ (fun (v70 : Unit) => k69 0) fun k71 =>
if x47 = p1 then ((ag c_sizes 24 v45).bind fun x72 =>
if x72 = v6 then (k69 1) else (k71 ())) else (k71 ()))
def bX12_addProduction_70 (c_rules : Int32) (c_lefts : (Nat → Int32)) (c_sizes : (Nat → Int32)) (c_rights : (Nat → Int32)) (c_edits : Int32) (c_pastRules : (Nat → Int32)) (c_pastLefts : (Nat → Int32)) (c_pastSizes : (Nat → Int32)) (c_pastRights : (Nat → Int32)) (c_levels : Int32) (c_codes : (Nat → Int32)) (c_details : (Nat → Int32)) (c_isWorked : Int32) (c_empties : Int32) (c_firsts : (Nat → Int32)) (c_follows : (Nat → Int32)) (c_isKept : Int32) (c_keptEmpties : Int32) (c_keptFirsts : (Nat → Int32)) (c_keptFollows : (Nat → Int32)) (c_strings : (Nat → Int32)) (c_longs : (Nat → Int32)) (c_trial : (Nat → Int32)) (c_trialLong : Int32) (f5 : (Nat → Int32)) (k74 : (Unit → Option (Int32 × Int32 × (Nat → Int32) × (Nat → Int32) × (Nat → Int32) × Int32 × (Nat → Int32) × (Nat → Int32) × (Nat → Int32) × (Nat → Int32) × Int32 × (Nat → Int32) × (Nat → Int32) × (Nat → Int32) × Int32 × Int32 × (Nat → Int32) × (Nat → Int32) × Int32 × Int32 × (Nat → Int32) × (Nat → Int32) × (Nat → Int32) × (Nat → Int32) × (Nat → Int32) × Int32))) (rc76 : Int32 → Option (Int32 × Int32 × (Nat → Int32) × (Nat → Int32) × (Nat → Int32) × Int32 × (Nat → Int32) × (Nat → Int32) × (Nat → Int32) × (Nat → Int32) × Int32 × (Nat → Int32) × (Nat → Int32) × (Nat → Int32) × Int32 × Int32 × (Nat → Int32) × (Nat → Int32) × Int32 × Int32 × (Nat → Int32) × (Nat → Int32) × (Nat → Int32) × (Nat → Int32) × (Nat → Int32) × Int32)) (v75 : Int32) : Option (Int32 × Int32 × (Nat → Int32) × (Nat → Int32) × (Nat → Int32) × Int32 × (Nat → Int32) × (Nat → Int32) × (Nat → Int32) × (Nat → Int32) × Int32 × (Nat → Int32) × (Nat → Int32) × (Nat → Int32) × Int32 × Int32 × (Nat → Int32) × (Nat → Int32) × Int32 × Int32 × (Nat → Int32) × (Nat → Int32) × (Nat → Int32) × (Nat → Int32) × (Nat → Int32) × Int32) :=
if 5 ≤ v75 then (k74 ()) else ((ag f5 5 v75).bind fun x77 =>
if x77 = (-1) then (lt_ (v75 + 1) fun x78 =>
rc76 x78) else (some ((-1), c_rules, c_lefts, c_sizes, c_rights, c_edits, c_pastRules, c_pastLefts, c_pastSizes, c_pastRights, c_levels, c_codes, c_details, f5, c_isWorked, c_empties, c_firsts, c_follows, c_isKept, c_keptEmpties, c_keptFirsts, c_keptFollows, c_strings, c_longs, c_trial, c_trialLong)))
def bX12_addProduction_41 (f5 : (Nat → Int32)) (k80 : (Int32 → Option (Int32 × Int32 × (Nat → Int32) × (Nat → Int32) × (Nat → Int32) × Int32 × (Nat → Int32) × (Nat → Int32) × (Nat → Int32) × (Nat → Int32) × Int32 × (Nat → Int32) × (Nat → Int32) × (Nat → Int32) × Int32 × Int32 × (Nat → Int32) × (Nat → Int32) × Int32 × Int32 × (Nat → Int32) × (Nat → Int32) × (Nat → Int32) × (Nat → Int32) × (Nat → Int32) × Int32))) (rc82 : Int32 → Option (Int32 × Int32 × (Nat → Int32) × (Nat → Int32) × (Nat → Int32) × Int32 × (Nat → Int32) × (Nat → Int32) × (Nat → Int32) × (Nat → Int32) × Int32 × (Nat → Int32) × (Nat → Int32) × (Nat → Int32) × Int32 × Int32 × (Nat → Int32) × (Nat → Int32) × Int32 × Int32 × (Nat → Int32) × (Nat → Int32) × (Nat → Int32) × (Nat → Int32) × (Nat → Int32) × Int32)) (v81 : Int32) : Option (Int32 × Int32 × (Nat → Int32) × (Nat → Int32) × (Nat → Int32) × Int32 × (Nat → Int32) × (Nat → Int32) × (Nat → Int32) × (Nat → Int32) × Int32 × (Nat → Int32) × (Nat → Int32) × (Nat → Int32) × Int32 × Int32 × (Nat → Int32) × (Nat → Int32) × Int32 × Int32 × (Nat → Int32) × (Nat → Int32) × (Nat → Int32) × (Nat → Int32) × (Nat → Int32) × Int32) :=
if 5 ≤ v81 then (k80 v81) else ((ag f5 5 v81).bind fun x83 =>
(fX12_isSymbol x83).bind fun x84 =>
if x84 = 0 then (k80 v81) else (lt_ (v81 + 1) fun x85 =>
rc82 x85))
def fX12_addProduction (N : Nat) (c_rules : Int32) (c_lefts : (Nat → Int32)) (c_sizes : (Nat → Int32)) (c_rights : (Nat → Int32)) (c_edits : Int32) (c_pastRules : (Nat → Int32)) (c_pastLefts : (Nat → Int32)) (c_pastSizes : (Nat → Int32)) (c_pastRights : (Nat → Int32)) (c_levels : Int32) (c_codes : (Nat → Int32)) (c_details : (Nat → Int32)) (c_asked : (Nat → Int32)) (c_isWorked : Int32) (c_empties : Int32) (c_firsts : (Nat → Int32)) (c_follows : (Nat → Int32)) (c_isKept : Int32) (c_keptEmpties : Int32) (c_keptFirsts : (Nat → Int32)) (c_keptFollows : (Nat → Int32)) (c_strings : (Nat → Int32)) (c_longs : (Nat → Int32)) (c_trial : (Nat → Int32)) (c_trialLong : Int32) (p1 : Int32) (p2 : Int32) (p3 : Int32) (p4 : Int32) (p5 : Int32) (p6 : Int32) : Option (Int32 × Int32 × (Nat → Int32) × (Nat → Int32) × (Nat → Int32) × Int32 × (Nat → Int32) × (Nat → Int32) × (Nat → Int32) × (Nat → Int32) × Int32 × (Nat → Int32) × (Nat → Int32) × (Nat → Int32) × Int32 × Int32 × (Nat → Int32) × (Nat → Int32) × Int32 × Int32 × (Nat → Int32) × (Nat → Int32) × (Nat → Int32) × (Nat → Int32) × (Nat → Int32) × Int32) :=
(as_ c_asked 5 0 p2).bind fun f1 =>
(as_ f1 5 1 p3).bind fun f2 =>
(as_ f2 5 2 p4).bind fun f3 =>
(as_ f3 5 3 p5).bind fun f4 =>
(as_ f4 5 4 p6).bind fun f5 =>
jn_ (fun (v6 : Int32) => jn_ (fun (v7 : Unit) => (fX12_isName p1).bind fun x8 =>
if x8 = 0 then (some ((-1), c_rules, c_lefts, c_sizes, c_rights, c_edits, c_pastRules, c_pastLefts, c_pastSizes, c_pastRights, c_levels, c_codes, c_details, f5, c_isWorked, c_empties, c_firsts, c_follows, c_isKept, c_keptEmpties, c_keptFirsts, c_keptFollows, c_strings, c_longs, c_trial, c_trialLong)) else (jn_ (fun (v9 : Unit) => if c_rules = 24 then (some ((-3), c_rules, c_lefts, c_sizes, c_rights, c_edits, c_pastRules, c_pastLefts, c_pastSizes, c_pastRights, c_levels, c_codes, c_details, f5, c_isWorked, c_empties, c_firsts, c_follows, c_isKept, c_keptEmpties, c_keptFirsts, c_keptFollows, c_strings, c_longs, c_trial, c_trialLong)) else (bd17 (fX12_edits N c_rules c_lefts c_sizes c_rights c_edits c_pastRules c_pastLefts c_pastSizes c_pastRights c_isWorked c_empties c_firsts c_follows c_isKept c_keptEmpties c_keptFirsts c_keptFollows c_strings c_longs c_trial c_trialLong) fun o10 o11 o12 o13 o14 o15 o16 o17 o18 o19 o20 o21 o22 o23 o24 o25 o26 =>
bd4 (fX12_opens c_rules c_lefts c_sizes p1) fun o30 o27 o28 o29 =>
jn2 (fun (v31 : (Nat → Int32)) (v32 : (Nat → Int32)) => some (o30, o27, o28, v31, v32, o10, o11, o12, o13, o14, c_levels, c_codes, c_details, f5, o15, o16, o17, o18, o19, o20, o21, o22, o23, o24, o25, o26)) fun k33 =>
itr3 (bX12_addProduction_252 f5 v6 o30 k33) N 0 o29 c_rights)) fun k44 =>
itr (bX12_addProduction_107 N p1 c_rules c_lefts c_sizes c_rights c_edits c_pastRules c_pastLefts c_pastSizes c_pastRights c_levels c_codes c_details c_isWorked c_empties c_firsts c_follows c_isKept c_keptEmpties c_keptFirsts c_keptFollows c_strings c_longs c_trial c_trialLong f5 v6 k44) N 0)) fun k74 =>
itr (bX12_addProduction_70 c_rules c_lefts c_sizes c_rights c_edits c_pastRules c_pastLefts c_pastSizes c_pastRights c_levels c_codes c_details c_isWorked c_empties c_firsts c_follows c_isKept c_keptEmpties c_keptFirsts c_keptFollows c_strings c_longs c_trial c_trialLong f5 k74) N v6) fun k80 =>
itr (bX12_addProduction_41 f5 k80) N 0
def fX12_removeProduction (N : Nat) (c_rules : Int32) (c_lefts : (Nat → Int32)) (c_sizes : (Nat → Int32)) (c_rights : (Nat → Int32)) (c_edits : Int32) (c_pastRules : (Nat → Int32)) (c_pastLefts : (Nat → Int32)) (c_pastSizes : (Nat → Int32)) (c_pastRights : (Nat → Int32)) (c_isWorked : Int32) (c_empties : Int32) (c_firsts : (Nat → Int32)) (c_follows : (Nat → Int32)) (c_isKept : Int32) (c_keptEmpties : Int32) (c_keptFirsts : (Nat → Int32)) (c_keptFollows : (Nat → Int32)) (c_strings : (Nat → Int32)) (c_longs : (Nat → Int32)) (c_trial : (Nat → Int32)) (c_trialLong : Int32) (p1 : Int32) : Option (Int32 × Int32 × (Nat → Int32) × (Nat → Int32) × (Nat → Int32) × Int32 × (Nat → Int32) × (Nat → Int32) × (Nat → Int32) × (Nat → Int32) × Int32 × Int32 × (Nat → Int32) × (Nat → Int32) × Int32 × Int32 × (Nat → Int32) × (Nat → Int32) × (Nat → Int32) × (Nat → Int32) × (Nat → Int32) × Int32) :=
(fX12_isRule c_rules p1).bind fun x1 =>
if x1 = 0 then (some ((-1), c_rules, c_lefts, c_sizes, c_rights, c_edits, c_pastRules, c_pastLefts, c_pastSizes, c_pastRights, c_isWorked, c_empties, c_firsts, c_follows, c_isKept, c_keptEmpties, c_keptFirsts, c_keptFollows, c_strings, c_longs, c_trial, c_trialLong)) else (bd17 (fX12_edits N c_rules c_lefts c_sizes c_rights c_edits c_pastRules c_pastLefts c_pastSizes c_pastRights c_isWorked c_empties c_firsts c_follows c_isKept c_keptEmpties c_keptFirsts c_keptFollows c_strings c_longs c_trial c_trialLong) fun o2 o3 o4 o5 o6 o7 o8 o9 o10 o11 o12 o13 o14 o15 o16 o17 o18 =>
bd4 (fX12_drops N c_rules c_lefts c_sizes c_rights p1) fun o19 o20 o21 o22 =>
some (o19, o19, o20, o21, o22, o2, o3, o4, o5, o6, o7, o8, o9, o10, o11, o12, o13, o14, o15, o16, o17, o18))
def fX12_clear (N : Nat) (c_rules : Int32) (c_lefts : (Nat → Int32)) (c_sizes : (Nat → Int32)) (c_rights : (Nat → Int32)) (c_edits : Int32) (c_pastRules : (Nat → Int32)) (c_pastLefts : (Nat → Int32)) (c_pastSizes : (Nat → Int32)) (c_pastRights : (Nat → Int32)) (c_isWorked : Int32) (c_empties : Int32) (c_firsts : (Nat → Int32)) (c_follows : (Nat → Int32)) (c_isKept : Int32) (c_keptEmpties : Int32) (c_keptFirsts : (Nat → Int32)) (c_keptFollows : (Nat → Int32)) (c_strings : (Nat → Int32)) (c_longs : (Nat → Int32)) (c_trial : (Nat → Int32)) (c_trialLong : Int32) : Option (Int32 × Int32 × Int32 × (Nat → Int32) × (Nat → Int32) × (Nat → Int32) × (Nat → Int32) × Int32 × Int32 × (Nat → Int32) × (Nat → Int32) × Int32 × Int32 × (Nat → Int32) × (Nat → Int32) × (Nat → Int32) × (Nat → Int32) × (Nat → Int32) × Int32) :=
bd17 (fX12_edits N c_rules c_lefts c_sizes c_rights c_edits c_pastRules c_pastLefts c_pastSizes c_pastRights c_isWorked c_empties c_firsts c_follows c_isKept c_keptEmpties c_keptFirsts c_keptFollows c_strings c_longs c_trial c_trialLong) fun o1 o2 o3 o4 o5 o6 o7 o8 o9 o10 o11 o12 o13 o14 o15 o16 o17 =>
some (c_rules, 0, o1, o2, o3, o4, o5, o6, o7, o8, o9, o10, o11, o12, o13, o14, o15, o16, o17)
def fX12_productionCount (c_rules : Int32) : Option (Int32) :=
some c_rules
def fX12_leftSide (c_rules : Int32) (c_lefts : (Nat → Int32)) (p1 : Int32) : Option (Int32) :=
(fX12_isRule c_rules p1).bind fun x1 =>
jn_ (fun (v2 : Int32) => some v2) fun k3 =>
if x1 = 0 then (k3 (-1)) else ((ag c_lefts 24 p1).bind fun x4 =>
k3 x4)
def fX12_rightLength (c_rules : Int32) (c_sizes : (Nat → Int32)) (p1 : Int32) : Option (Int32) :=
(fX12_isRule c_rules p1).bind fun x1 =>
jn_ (fun (v2 : Int32) => some v2) fun k3 =>
if x1 = 0 then (k3 (-1)) else ((ag c_sizes 24 p1).bind fun x4 =>
k3 x4)
def fX12_rightSymbol (c_rules : Int32) (c_sizes : (Nat → Int32)) (c_rights : (Nat → Int32)) (p1 : Int32) (p2 : Int32) : Option (Int32) :=
(fX12_isRule c_rules p1).bind fun x1 =>
jn_ (fun (v2 : Int32) => some v2) fun k3 =>
jn_ (fun (v4 : Unit) => k3 (-1)) fun k5 =>
if x1 = 0 then (k5 ()) else ((ag c_sizes 24 p1).bind fun x6 =>
(fX12_in p2 0 (x6 - (1 : Int32))).bind fun x7 =>
if x7 = 0 then (k5 ()) else ((fX12_symbol c_rights p1 p2).bind fun x8 =>
k3 x8))
def fX12_undo (N : Nat) (c_rules : Int32) (c_lefts : (Nat → Int32)) (c_sizes : (Nat → Int32)) (c_rights : (Nat → Int32)) (c_edits : Int32) (c_pastRules : (Nat → Int32)) (c_pastLefts : (Nat → Int32)) (c_pastSizes : (Nat → Int32)) (c_pastRights : (Nat → Int32)) (c_isWorked : Int32) (c_empties : Int32) (c_firsts : (Nat → Int32)) (c_follows : (Nat → Int32)) (c_isKept : Int32) (c_keptEmpties : Int32) (c_keptFirsts : (Nat → Int32)) (c_keptFollows : (Nat → Int32)) (c_strings : (Nat → Int32)) (c_longs : (Nat → Int32)) (c_trial : (Nat → Int32)) (c_trialLong : Int32) : Option (Int32 × Int32 × (Nat → Int32) × (Nat → Int32) × (Nat → Int32) × Int32 × Int32 × Int32 × (Nat → Int32) × (Nat → Int32) × Int32 × Int32 × (Nat → Int32) × (Nat → Int32) × (Nat → Int32) × (Nat → Int32) × (Nat → Int32) × Int32) :=
if c_edits = 0 then (some ((-2), c_rules, c_lefts, c_sizes, c_rights, c_edits, c_isWorked, c_empties, c_firsts, c_follows, c_isKept, c_keptEmpties, c_keptFirsts, c_keptFollows, c_strings, c_longs, c_trial, c_trialLong)) else (bd8 (fX12_works N c_rules c_lefts c_sizes c_rights c_isWorked c_empties c_firsts c_follows c_strings c_longs c_trial c_trialLong) fun o1 o2 o3 o4 o5 o6 o7 o8 =>
bd4 (fX12_keepsSets N o2 o3 o4 c_isKept c_keptEmpties c_keptFirsts c_keptFollows) fun o9 o10 o11 o12 =>
lt_ (c_edits - (1 : Int32)) fun x13 =>
bd4 (fX12_laysBack N c_rules c_lefts c_sizes c_rights c_pastRules c_pastLefts c_pastSizes c_pastRights x13) fun o14 o15 o16 o17 =>
some (x13, o14, o15, o16, o17, x13, 0, o2, o3, o4, o9, o10, o11, o12, o5, o6, o7, o8))
def fX12_selects (N : Nat) (c_lefts : (Nat → Int32)) (c_sizes : (Nat → Int32)) (c_rights : (Nat → Int32)) (c_empties : Int32) (c_firsts : (Nat → Int32)) (c_follows : (Nat → Int32)) (p1 : Int32) : Option (Int32) :=
(fX12_firstOf N c_sizes c_rights c_empties c_firsts p1 0).bind fun x1 =>
(fX12_areEmpty N c_sizes c_rights c_empties p1 0).bind fun x2 =>
jn_ (fun (v3 : Int32) => some (x1 ||| v3)) fun k4 =>
if x2 = 0 then (k4 0) else ((ag c_lefts 24 p1).bind fun x5 =>
(ag c_follows 8 x5).bind fun x6 =>
k4 x6)
def fX12_nullable (N : Nat) (c_rules : Int32) (c_lefts : (Nat → Int32)) (c_sizes : (Nat → Int32)) (c_rights : (Nat → Int32)) (c_isWorked : Int32) (c_empties : Int32) (c_firsts : (Nat → Int32)) (c_follows : (Nat → Int32)) (c_strings : (Nat → Int32)) (c_longs : (Nat → Int32)) (c_trial : (Nat → Int32)) (c_trialLong : Int32) (p1 : Int32) : Option (Int32 × Int32 × Int32 × (Nat → Int32) × (Nat → Int32) × (Nat → Int32) × (Nat → Int32) × (Nat → Int32) × Int32) :=
bd8 (fX12_works N c_rules c_lefts c_sizes c_rights c_isWorked c_empties c_firsts c_follows c_strings c_longs c_trial c_trialLong) fun o1 o2 o3 o4 o5 o6 o7 o8 =>
(fX12_isName p1).bind fun x9 =>
jn_ (fun (v10 : Int32) => some (v10, o1, o2, o3, o4, o5, o6, o7, o8)) fun k11 =>
if x9 = 0 then (k11 (-1)) else (k11 ((o2 >>> (p1 &&& (31 : Int32))) &&& (1 : Int32)))
def fX12_firstSet (N : Nat) (c_rules : Int32) (c_lefts : (Nat → Int32)) (c_sizes : (Nat → Int32)) (c_rights : (Nat → Int32)) (c_isWorked : Int32) (c_empties : Int32) (c_firsts : (Nat → Int32)) (c_follows : (Nat → Int32)) (c_strings : (Nat → Int32)) (c_longs : (Nat → Int32)) (c_trial : (Nat → Int32)) (c_trialLong : Int32) (p1 : Int32) : Option (Int32 × Int32 × Int32 × (Nat → Int32) × (Nat → Int32) × (Nat → Int32) × (Nat → Int32) × (Nat → Int32) × Int32) :=
bd8 (fX12_works N c_rules c_lefts c_sizes c_rights c_isWorked c_empties c_firsts c_follows c_strings c_longs c_trial c_trialLong) fun o1 o2 o3 o4 o5 o6 o7 o8 =>
(fX12_isName p1).bind fun x9 =>
jn_ (fun (v10 : Int32) => some (v10, o1, o2, o3, o4, o5, o6, o7, o8)) fun k11 =>
if x9 = 0 then (k11 (-1)) else ((ag o3 8 p1).bind fun x12 =>
k11 x12)
def fX12_followSet (N : Nat) (c_rules : Int32) (c_lefts : (Nat → Int32)) (c_sizes : (Nat → Int32)) (c_rights : (Nat → Int32)) (c_isWorked : Int32) (c_empties : Int32) (c_firsts : (Nat → Int32)) (c_follows : (Nat → Int32)) (c_strings : (Nat → Int32)) (c_longs : (Nat → Int32)) (c_trial : (Nat → Int32)) (c_trialLong : Int32) (p1 : Int32) : Option (Int32 × Int32 × Int32 × (Nat → Int32) × (Nat → Int32) × (Nat → Int32) × (Nat → Int32) × (Nat → Int32) × Int32) :=
bd8 (fX12_works N c_rules c_lefts c_sizes c_rights c_isWorked c_empties c_firsts c_follows c_strings c_longs c_trial c_trialLong) fun o1 o2 o3 o4 o5 o6 o7 o8 =>
(fX12_isName p1).bind fun x9 =>
jn_ (fun (v10 : Int32) => some (v10, o1, o2, o3, o4, o5, o6, o7, o8)) fun k11 =>
if x9 = 0 then (k11 (-1)) else ((ag o4 8 p1).bind fun x12 =>
k11 x12)
def fX12_selectSet (N : Nat) (c_rules : Int32) (c_lefts : (Nat → Int32)) (c_sizes : (Nat → Int32)) (c_rights : (Nat → Int32)) (c_isWorked : Int32) (c_empties : Int32) (c_firsts : (Nat → Int32)) (c_follows : (Nat → Int32)) (c_strings : (Nat → Int32)) (c_longs : (Nat → Int32)) (c_trial : (Nat → Int32)) (c_trialLong : Int32) (p1 : Int32) : Option (Int32 × Int32 × Int32 × (Nat → Int32) × (Nat → Int32) × (Nat → Int32) × (Nat → Int32) × (Nat → Int32) × Int32) :=
bd8 (fX12_works N c_rules c_lefts c_sizes c_rights c_isWorked c_empties c_firsts c_follows c_strings c_longs c_trial c_trialLong) fun o1 o2 o3 o4 o5 o6 o7 o8 =>
(fX12_isRule c_rules p1).bind fun x9 =>
jn_ (fun (v10 : Int32) => some (v10, o1, o2, o3, o4, o5, o6, o7, o8)) fun k11 =>
if x9 = 0 then (k11 (-1)) else ((fX12_selects N c_lefts c_sizes c_rights o2 o3 o4 p1).bind fun x12 =>
k11 x12)
def bX12_changedNonterminals_8 (c_isKept : Int32) (c_keptEmpties : Int32) (c_keptFirsts : (Nat → Int32)) (c_keptFollows : (Nat → Int32)) (o2 : Int32) (o3 : (Nat → Int32)) (o4 : (Nat → Int32)) (k10 : (Int32 → Option (Int32 × Int32 × Int32 × (Nat → Int32) × (Nat → Int32) × (Nat → Int32) × (Nat → Int32) × (Nat → Int32) × Int32))) (rc13 : Int32 → Int32 → Option (Int32 × Int32 × Int32 × (Nat → Int32) × (Nat → Int32) × (Nat → Int32) × (Nat → Int32) × (Nat → Int32) × Int32)) (v11 : Int32) (v12 : Int32) : Option (Int32 × Int32 × Int32 × (Nat → Int32) × (Nat → Int32) × (Nat → Int32) × (Nat → Int32) × (Nat → Int32) × Int32) :=
if 8 ≤ v12 then (k10 v11) else (if c_isKept = 0 then (k10 v11) else (jn_ (fun (v14 : Int32) => lt_ (v11 + v14) fun x15 =>
lt_ (v12 + 1) fun x16 =>
rc13 x15 x16) fun k17 =>
jn_ (fun (v18 : Unit) => k17 1) fun k19 =>
if ((o2 >>> (v12 &&& (31 : Int32))) &&& (1 : Int32)) = ((c_keptEmpties >>> (v12 &&& (31 : Int32))) &&& (1 : Int32)) then ((ag o3 8 v12).bind fun x20 =>
(ag c_keptFirsts 8 v12).bind fun x21 =>
if x20 = x21 then ((ag o4 8 v12).bind fun x22 =>
(ag c_keptFollows 8 v12).bind fun x23 =>
if x22 = x23 then (k17 0) else (k19 ())) else (k19 ())) else (k19 ())))
def fX12_changedNonterminals (N : Nat) (c_rules : Int32) (c_lefts : (Nat → Int32)) (c_sizes : (Nat → Int32)) (c_rights : (Nat → Int32)) (c_isWorked : Int32) (c_empties : Int32) (c_firsts : (Nat → Int32)) (c_follows : (Nat → Int32)) (c_isKept : Int32) (c_keptEmpties : Int32) (c_keptFirsts : (Nat → Int32)) (c_keptFollows : (Nat → Int32)) (c_strings : (Nat → Int32)) (c_longs : (Nat → Int32)) (c_trial : (Nat → Int32)) (c_trialLong : Int32) : Option (Int32 × Int32 × Int32 × (Nat → Int32) × (Nat → Int32) × (Nat → Int32) × (Nat → Int32) × (Nat → Int32) × Int32) :=
bd8 (fX12_works N c_rules c_lefts c_sizes c_rights c_isWorked c_empties c_firsts c_follows c_strings c_longs c_trial c_trialLong) fun o1 o2 o3 o4 o5 o6 o7 o8 =>
jn_ (fun (v9 : Int32) => some (v9, o1, o2, o3, o4, o5, o6, o7, o8)) fun k10 =>
itr2 (bX12_changedNonterminals_8 c_isKept c_keptEmpties c_keptFirsts c_keptFollows o2 o3 o4 k10) N 0 0
def bX12_productive_37 (c_sizes : (Nat → Int32)) (c_rights : (Nat → Int32)) (v10 : Int32) (v11 : Int32) (k19 : (Int32 → Option (Int32))) (rc22 : Int32 → Int32 → Option (Int32)) (v20 : Int32) (v21 : Int32) : Option (Int32) :=
(ag c_sizes 24 v11).bind fun x23 =>
if x23 ≤ v21 then (k19 v20) else (jn_ (fun (v24 : Int32) => lt_ (v21 + 1) fun x25 =>
rc22 v24 x25) fun k26 =>
jn_ (fun (v27 : Unit) => k26 0) fun k28 =>
if v20 = 0 then (k28 ()) else ((fX12_symbol c_rights v11 v21).bind fun x29 =>
jn_ (fun (v30 : Unit) => k26 1) fun k31 =>
if x29 < 10 then (k31 ()) else ((fX12_symbol c_rights v11 v21).bind fun x32 =>
if ((v10 >>> ((x32 - (10 : Int32)) &&& (31 : Int32))) &&& (1 : Int32)) = 1 then (k31 ()) else (k28 ()))))
def bX12_productive_22 (N : Nat) (c_rules : Int32) (c_lefts : (Nat → Int32)) (c_sizes : (Nat → Int32)) (c_rights : (Nat → Int32)) (k9 : (Int32 → Option (Int32))) (rc12 : Int32 → Int32 → Option (Int32)) (v10 : Int32) (v11 : Int32) : Option (Int32) :=
if c_rules ≤ v11 then (k9 v10) else (jn_ (fun (v13 : Int32) => jn_ (fun (v14 : Int32) => lt_ (v10 ||| v14) fun x15 =>
lt_ (v11 + 1) fun x16 =>
rc12 x15 x16) fun k17 =>
if v13 = 0 then (k17 0) else ((ag c_lefts 24 v11).bind fun x18 =>
k17 ((1 : Int32) <<< (x18 &&& (31 : Int32))))) fun k19 =>
itr2 (bX12_productive_37 c_sizes c_rights v10 v11 k19) N 1 0)
def bX12_productive_13 (N : Nat) (c_rules : Int32) (c_lefts : (Nat → Int32)) (c_sizes : (Nat → Int32)) (c_rights : (Nat → Int32)) (k3 : (Int32 → Option (Int32))) (rc6 : Int32 → Int32 → Option (Int32)) (v4 : Int32) (v5 : Int32) : Option (Int32) :=
if 8 ≤ v5 then (k3 v4) else (jn_ (fun (v7 : Int32) => lt_ (v5 + 1) fun x8 =>
rc6 v7 x8) fun k9 =>
itr2 (bX12_productive_22 N c_rules c_lefts c_sizes c_rights k9) N v4 0)
def fX12_productive (N : Nat) (c_rules : Int32) (c_lefts : (Nat → Int32)) (c_sizes : (Nat → Int32)) (c_rights : (Nat → Int32)) (p1 : Int32) : Option (Int32) :=
(fX12_isName p1).bind fun x1 =>
if x1 = 0 then (some (-1)) else (jn_ (fun (v2 : Int32) => some ((v2 >>> (p1 &&& (31 : Int32))) &&& (1 : Int32))) fun k3 =>
itr2 (bX12_productive_13 N c_rules c_lefts c_sizes c_rights k3) N 0 0)
def bX12_reachable_34 (c_lefts : (Nat → Int32)) (c_sizes : (Nat → Int32)) (c_rights : (Nat → Int32)) (v11 : Int32) (k15 : (Int32 → Option (Int32))) (rc18 : Int32 → Int32 → Option (Int32)) (v16 : Int32) (v17 : Int32) : Option (Int32) :=
(ag c_sizes 24 v11).bind fun x19 =>
if x19 ≤ v17 then (k15 v16) else ((ag c_lefts 24 v11).bind fun x20 =>
if ((v16 >>> (x20 &&& (31 : Int32))) &&& (1 : Int32)) = 1 then ((fX12_symbol c_rights v11 v17).bind fun x21 =>
jn_ (fun (v22 : Int32) => lt_ (v16 ||| v22) fun x23 =>
lt_ (v17 + 1) fun x24 =>
rc18 x23 x24) fun k25 =>
if x21 < 10 then (k25 0) else ((fX12_symbol c_rights v11 v17).bind fun x26 =>
k25 ((1 : Int32) <<< ((x26 - (10 : Int32)) &&& (31 : Int32))))) else (k15 v16))
def bX12_reachable_22 (N : Nat) (c_rules : Int32) (c_lefts : (Nat → Int32)) (c_sizes : (Nat → Int32)) (c_rights : (Nat → Int32)) (k9 : (Int32 → Option (Int32))) (rc12 : Int32 → Int32 → Option (Int32)) (v10 : Int32) (v11 : Int32) : Option (Int32) :=
if c_rules ≤ v11 then (k9 v10) else (jn_ (fun (v13 : Int32) => lt_ (v11 + 1) fun x14 =>
rc12 v13 x14) fun k15 =>
itr2 (bX12_reachable_34 c_lefts c_sizes c_rights v11 k15) N v10 0)
def bX12_reachable_13 (N : Nat) (c_rules : Int32) (c_lefts : (Nat → Int32)) (c_sizes : (Nat → Int32)) (c_rights : (Nat → Int32)) (k3 : (Int32 → Option (Int32))) (rc6 : Int32 → Int32 → Option (Int32)) (v4 : Int32) (v5 : Int32) : Option (Int32) :=
if 8 ≤ v5 then (k3 v4) else (jn_ (fun (v7 : Int32) => lt_ (v5 + 1) fun x8 =>
rc6 v7 x8) fun k9 =>
itr2 (bX12_reachable_22 N c_rules c_lefts c_sizes c_rights k9) N v4 0)
def fX12_reachable (N : Nat) (c_rules : Int32) (c_lefts : (Nat → Int32)) (c_sizes : (Nat → Int32)) (c_rights : (Nat → Int32)) (p1 : Int32) : Option (Int32) :=
(fX12_isName p1).bind fun x1 =>
if x1 = 0 then (some (-1)) else (jn_ (fun (v2 : Int32) => some ((v2 >>> (p1 &&& (31 : Int32))) &&& (1 : Int32))) fun k3 =>
itr2 (bX12_reachable_13 N c_rules c_lefts c_sizes c_rights k3) N 1 0)
def bX12_leftRecursive_71 (c_sizes : (Nat → Int32)) (c_rights : (Nat → Int32)) (o3 : Int32) (v19 : Int32) (k25 : (Int32 → Option (Int32 × Int32 × Int32 × (Nat → Int32) × (Nat → Int32) × (Nat → Int32) × (Nat → Int32) × (Nat → Int32) × Int32))) (rc29 : Int32 → Int32 → Int32 → Option (Int32 × Int32 × Int32 × (Nat → Int32) × (Nat → Int32) × (Nat → Int32) × (Nat → Int32) × (Nat → Int32) × Int32)) (v26 : Int32) (v27 : Int32) (v28 : Int32) : Option (Int32 × Int32 × Int32 × (Nat → Int32) × (Nat → Int32) × (Nat → Int32) × (Nat → Int32) × (Nat → Int32) × Int32) :=
(ag c_sizes 24 v19).bind fun x30 =>
if x30 ≤ v28 then (k25 v26) else (if v27 = 0 then (k25 v26) else ((fX12_symbol c_rights v19 v28).bind fun x31 =>
jn_ (fun (v32 : Int32) => lt_ (v26 ||| v32) fun x33 =>
(fX12_symbol c_rights v19 v28).bind fun x34 =>
(fX12_isEmpty o3 x34).bind fun x35 =>
lt_ (v28 + 1) fun x36 =>
rc29 x33 x35 x36) fun k37 =>
if x31 < 10 then (k37 0) else ((fX12_symbol c_rights v19 v28).bind fun x38 =>
k37 ((1 : Int32) <<< ((x38 - (10 : Int32)) &&& (31 : Int32))))))
def bX12_leftRecursive_26 (N : Nat) (p1 : Int32) (c_rules : Int32) (c_lefts : (Nat → Int32)) (c_sizes : (Nat → Int32)) (c_rights : (Nat → Int32)) (o3 : Int32) (k17 : (Int32 → Option (Int32 × Int32 × Int32 × (Nat → Int32) × (Nat → Int32) × (Nat → Int32) × (Nat → Int32) × (Nat → Int32) × Int32))) (rc20 : Int32 → Int32 → Option (Int32 × Int32 × Int32 × (Nat → Int32) × (Nat → Int32) × (Nat → Int32) × (Nat → Int32) × (Nat → Int32) × Int32)) (v18 : Int32) (v19 : Int32) : Option (Int32 × Int32 × Int32 × (Nat → Int32) × (Nat → Int32) × (Nat → Int32) × (Nat → Int32) × (Nat → Int32) × Int32) :=
if c_rules ≤ v19 then (k17 v18) else ((ag c_lefts 24 v19).bind fun x21 =>
jn_ (fun (v22 : Int32) => jn_ (fun (v23 : Int32) => lt_ (v19 + 1) fun x24 =>
rc20 v23 x24) fun k25 =>
itr3 (bX12_leftRecursive_71 c_sizes c_rights o3 v19 k25) N v18 v22 0) fun k40 =>
jn_ (fun (v41 : Unit) => k40 1) fun k42 =>
if x21 = p1 then (k42 ()) else ((ag c_lefts 24 v19).bind fun x43 =>
if ((v18 >>> (x43 &&& (31 : Int32))) &&& (1 : Int32)) = 1 then (k42 ()) else (k40 0)))
def bX12_leftRecursive_17 (N : Nat) (p1 : Int32) (c_rules : Int32) (c_lefts : (Nat → Int32)) (c_sizes : (Nat → Int32)) (c_rights : (Nat → Int32)) (o3 : Int32) (k11 : (Int32 → Option (Int32 × Int32 × Int32 × (Nat → Int32) × (Nat → Int32) × (Nat → Int32) × (Nat → Int32) × (Nat → Int32) × Int32))) (rc14 : Int32 → Int32 → Option (Int32 × Int32 × Int32 × (Nat → Int32) × (Nat → Int32) × (Nat → Int32) × (Nat → Int32) × (Nat → Int32) × Int32)) (v12 : Int32) (v13 : Int32) : Option (Int32 × Int32 × Int32 × (Nat → Int32) × (Nat → Int32) × (Nat → Int32) × (Nat → Int32) × (Nat → Int32) × Int32) :=
if 8 < v13 then (k11 v12) else (jn_ (fun (v15 : Int32) => lt_ (v13 + 1) fun x16 =>
rc14 v15 x16) fun k17 =>
itr2 (bX12_leftRecursive_26 N p1 c_rules c_lefts c_sizes c_rights o3 k17) N v12 0)
def fX12_leftRecursive (N : Nat) (c_rules : Int32) (c_lefts : (Nat → Int32)) (c_sizes : (Nat → Int32)) (c_rights : (Nat → Int32)) (c_isWorked : Int32) (c_empties : Int32) (c_firsts : (Nat → Int32)) (c_follows : (Nat → Int32)) (c_strings : (Nat → Int32)) (c_longs : (Nat → Int32)) (c_trial : (Nat → Int32)) (c_trialLong : Int32) (p1 : Int32) : Option (Int32 × Int32 × Int32 × (Nat → Int32) × (Nat → Int32) × (Nat → Int32) × (Nat → Int32) × (Nat → Int32) × Int32) :=
(fX12_isName p1).bind fun x1 =>
if x1 = 0 then (some ((-1), c_isWorked, c_empties, c_firsts, c_follows, c_strings, c_longs, c_trial, c_trialLong)) else (bd8 (fX12_works N c_rules c_lefts c_sizes c_rights c_isWorked c_empties c_firsts c_follows c_strings c_longs c_trial c_trialLong) fun o2 o3 o4 o5 o6 o7 o8 o9 =>
jn_ (fun (v10 : Int32) => some (((v10 >>> (p1 &&& (31 : Int32))) &&& (1 : Int32)), o2, o3, o4, o5, o6, o7, o8, o9)) fun k11 =>
itr2 (bX12_leftRecursive_17 N p1 c_rules c_lefts c_sizes c_rights o3 k11) N 0 0)
def fX12_shortestLength (N : Nat) (c_rules : Int32) (c_lefts : (Nat → Int32)) (c_sizes : (Nat → Int32)) (c_rights : (Nat → Int32)) (c_isWorked : Int32) (c_empties : Int32) (c_firsts : (Nat → Int32)) (c_follows : (Nat → Int32)) (c_strings : (Nat → Int32)) (c_longs : (Nat → Int32)) (c_trial : (Nat → Int32)) (c_trialLong : Int32) (p1 : Int32) : Option (Int32 × Int32 × Int32 × (Nat → Int32) × (Nat → Int32) × (Nat → Int32) × (Nat → Int32) × (Nat → Int32) × Int32) :=
bd8 (fX12_works N c_rules c_lefts c_sizes c_rights c_isWorked c_empties c_firsts c_follows c_strings c_longs c_trial c_trialLong) fun o1 o2 o3 o4 o5 o6 o7 o8 =>
(fX12_isName p1).bind fun x9 =>
jn_ (fun (v10 : Int32) => some (v10, o1, o2, o3, o4, o5, o6, o7, o8)) fun k11 =>
if x9 = 0 then (k11 (-1)) else ((ag o6 32 p1).bind fun x12 =>
if 0 ≤ x12 then ((ag o6 32 p1).bind fun x13 =>
k11 x13) else (k11 (-2)))
def fX12_shortestTerminal (N : Nat) (c_rules : Int32) (c_lefts : (Nat → Int32)) (c_sizes : (Nat → Int32)) (c_rights : (Nat → Int32)) (c_isWorked : Int32) (c_empties : Int32) (c_firsts : (Nat → Int32)) (c_follows : (Nat → Int32)) (c_strings : (Nat → Int32)) (c_longs : (Nat → Int32)) (c_trial : (Nat → Int32)) (c_trialLong : Int32) (p1 : Int32) (p2 : Int32) : Option (Int32 × Int32 × Int32 × (Nat → Int32) × (Nat → Int32) × (Nat → Int32) × (Nat → Int32) × (Nat → Int32) × Int32) :=
bd8 (fX12_works N c_rules c_lefts c_sizes c_rights c_isWorked c_empties c_firsts c_follows c_strings c_longs c_trial c_trialLong) fun o1 o2 o3 o4 o5 o6 o7 o8 =>
(fX12_isName p1).bind fun x9 =>
jn_ (fun (v10 : Int32) => some (v10, o1, o2, o3, o4, o5, o6, o7, o8)) fun k11 =>
if x9 = 0 then (k11 (-1)) else ((ag o6 32 p1).bind fun x12 =>
(fX12_in p2 0 (x12 - (1 : Int32))).bind fun x13 =>
if x13 = 0 then (k11 (-2)) else ((ag o5 1280 (((40 : Int32) * p1) + p2)).bind fun x14 =>
k11 x14))
def fX12_addsBegun (N : Nat) (c_sizes : (Nat → Int32)) (c_rights : (Nat → Int32)) (c_strings : (Nat → Int32)) (c_longs : (Nat → Int32)) (c_trial : (Nat → Int32)) (c_trialLong : Int32) (p1 : Int32) (p2 : Int32) (p3 : Int32) : Option ((Nat → Int32) × Int32) :=
(fX12_symbol c_rights p1 p2).bind fun x1 =>
jn2 (fun (v2 : (Nat → Int32)) (v3 : Int32) => (ag c_sizes 24 p1).bind fun x4 =>
bd2 (fX12_addsShortest N c_rights c_strings c_longs v2 v3 p1 (p2 + (1 : Int32)) x4) fun o5 o6 =>
some (o5, o6)) fun k7 =>
if x1 < 10 then ((fX12_symbol c_rights p1 p2).bind fun x8 =>
if x8 = p3 then (bd2 (fX12_adds c_trial c_trialLong p3) fun o9 o10 =>
k7 o9 o10) else (k7 c_trial (-1))) else ((fX12_symbol c_rights p1 p2).bind fun x11 =>
bd2 (fX12_addsSlot N c_strings c_longs c_trial c_trialLong (((8 : Int32) + x11) - (10 : Int32))) fun o12 o13 =>
k7 o12 o13)
def bX12_begins_5 (N : Nat) (p1 : Int32) (p2 : Int32) (c_lefts : (Nat → Int32)) (c_sizes : (Nat → Int32)) (c_rights : (Nat → Int32)) (c_empties : Int32) (k6 : (Int32 → (Nat → Int32) → (Nat → Int32) → (Nat → Int32) → Int32 → Option (Int32 × (Nat → Int32) × (Nat → Int32) × (Nat → Int32) × Int32))) (rc13 : Int32 → Int32 → (Nat → Int32) → (Nat → Int32) → (Nat → Int32) → Int32 → Option (Int32 × (Nat → Int32) × (Nat → Int32) × (Nat → Int32) × Int32)) (v7 : Int32) (v8 : Int32) (v9 : (Nat → Int32)) (v10 : (Nat → Int32)) (v11 : (Nat → Int32)) (v12 : Int32) : Option (Int32 × (Nat → Int32) × (Nat → Int32) × (Nat → Int32) × Int32) :=
(ag c_sizes 24 p1).bind fun x14 =>
if x14 ≤ v8 then (k6 v7 v9 v10 v11 v12) else ((fX12_tries v12).bind fun o15 =>
bd2 (fX12_addsBegun N c_sizes c_rights v9 v10 v11 o15 p1 v8 p2) fun o16 o17 =>
(ag c_lefts 24 p1).bind fun x18 =>
bd3 (fX12_betters N v9 v10 o16 o17 ((8 : Int32) + x18)) fun o21 o19 o20 =>
jn_ (fun (v22 : Int32) => (fX12_symbol c_rights p1 v8).bind fun x23 =>
(fX12_isEmpty c_empties x23).bind fun x24 =>
if x24 = 0 then (gz v22 (some (v22, o19, o20, o16, o17))) else (lt_ (v8 + 1) fun x25 =>
rc13 v22 x25 o19 o20 o16 o17)) fun k26 =>
jn_ (fun (v27 : Unit) => k26 1) fun k28 =>
if o21 = 0 then (if v7 = 0 then (k26 0) else (k28 ())) else (k28 ()))
def fX12_begins (N : Nat) (c_lefts : (Nat → Int32)) (c_sizes : (Nat → Int32)) (c_rights : (Nat → Int32)) (c_empties : Int32) (c_strings : (Nat → Int32)) (c_longs : (Nat → Int32)) (c_trial : (Nat → Int32)) (c_trialLong : Int32) (p1 : Int32) (p2 : Int32) : Option (Int32 × (Nat → Int32) × (Nat → Int32) × (Nat → Int32) × Int32) :=
jn5 (fun (v1 : Int32) (v2 : (Nat → Int32)) (v3 : (Nat → Int32)) (v4 : (Nat → Int32)) (v5 : Int32) => gz v1 (some (v1, v2, v3, v4, v5))) fun k6 =>
itr6 (bX12_begins_5 N p1 p2 c_lefts c_sizes c_rights c_empties k6) N 0 0 c_strings c_longs c_trial c_trialLong
def bX12_replaces_104 (N : Nat) (p1 : Int32) (p2 : Int32) (c_lefts : (Nat → Int32)) (c_sizes : (Nat → Int32)) (c_rights : (Nat → Int32)) (c_empties : Int32) (v8 : Int32) (x16 : Int32) (k57 : (Int32 → (Nat → Int32) → (Nat → Int32) → (Nat → Int32) → Int32 → Option (Int32 × (Nat → Int32) × (Nat → Int32) × (Nat → Int32) × Int32))) (k63 : (Int32 → (Nat → Int32) → (Nat → Int32) → (Nat → Int32) → Int32 → Option (Int32 × (Nat → Int32) × (Nat → Int32) × (Nat → Int32) × Int32))) (rc70 : Int32 → Int32 → (Nat → Int32) → (Nat → Int32) → (Nat → Int32) → Int32 → Option (Int32 × (Nat → Int32) × (Nat → Int32) × (Nat → Int32) × Int32)) (v64 : Int32) (v65 : Int32) (v66 : (Nat → Int32)) (v67 : (Nat → Int32)) (v68 : (Nat → Int32)) (v69 : Int32) : Option (Int32 × (Nat → Int32) × (Nat → Int32) × (Nat → Int32) × Int32) :=
(ag c_sizes 24 p1).bind fun x71 =>
if x71 ≤ v65 then (k57 v64 v66 v67 v68 v69) else ((fX12_tries v69).bind fun o72 =>
bd2 (fX12_addsShortest N c_rights v66 v67 v68 o72 p1 0 v8) fun o73 o74 =>
bd2 (fX12_addsSlot N v66 v67 o73 o74 ((24 : Int32) + x16)) fun o75 o76 =>
bd2 (fX12_addsBegun N c_sizes c_rights v66 v67 o75 o76 p1 v65 p2) fun o77 o78 =>
(ag c_lefts 24 p1).bind fun x79 =>
bd3 (fX12_betters N v66 v67 o77 o78 ((16 : Int32) + x79)) fun o82 o80 o81 =>
jn_ (fun (v83 : Int32) => (fX12_symbol c_rights p1 v65).bind fun x84 =>
(fX12_isEmpty c_empties x84).bind fun x85 =>
if x85 = 0 then (k63 v83 o80 o81 o77 o78) else (lt_ (v65 + 1) fun x86 =>
rc70 v83 x86 o80 o81 o77 o78)) fun k87 =>
jn_ (fun (v88 : Unit) => k87 1) fun k89 =>
if o82 = 0 then (if v64 = 0 then (k87 0) else (k89 ())) else (k89 ()))
def bX12_replaces_5 (N : Nat) (p1 : Int32) (p2 : Int32) (c_lefts : (Nat → Int32)) (c_sizes : (Nat → Int32)) (c_rights : (Nat → Int32)) (c_empties : Int32) (k6 : (Int32 → (Nat → Int32) → (Nat → Int32) → (Nat → Int32) → Int32 → Option (Int32 × (Nat → Int32) × (Nat → Int32) × (Nat → Int32) × Int32))) (rc13 : Int32 → Int32 → (Nat → Int32) → (Nat → Int32) → (Nat → Int32) → Int32 → Option (Int32 × (Nat → Int32) × (Nat → Int32) × (Nat → Int32) × Int32)) (v7 : Int32) (v8 : Int32) (v9 : (Nat → Int32)) (v10 : (Nat → Int32)) (v11 : (Nat → Int32)) (v12 : Int32) : Option (Int32 × (Nat → Int32) × (Nat → Int32) × (Nat → Int32) × Int32) :=
(ag c_sizes 24 p1).bind fun x14 =>
if x14 ≤ v8 then (k6 v7 v9 v10 v11 v12) else ((fX12_symbol c_rights p1 v8).bind fun x15 =>
lt_ (x15 - (10 : Int32)) fun x16 =>
jn5 (fun (v17 : Int32) (v18 : (Nat → Int32)) (v19 : (Nat → Int32)) (v20 : (Nat → Int32)) (v21 : Int32) => lt_ (v8 + 1) fun x22 =>
rc13 v17 x22 v18 v19 v20 v21) fun k23 =>
if 0 ≤ x16 then ((fX12_tries v12).bind fun o24 =>
bd2 (fX12_addsShortest N c_rights v9 v10 v11 o24 p1 0 v8) fun o25 o26 =>
bd2 (fX12_addsSlot N v9 v10 o25 o26 ((16 : Int32) + x16)) fun o27 o28 =>
(ag c_sizes 24 p1).bind fun x29 =>
bd2 (fX12_addsShortest N c_rights v9 v10 o27 o28 p1 (v8 + (1 : Int32)) x29) fun o30 o31 =>
(ag c_lefts 24 p1).bind fun x32 =>
bd3 (fX12_betters N v9 v10 o30 o31 ((16 : Int32) + x32)) fun o35 o33 o34 =>
jn_ (fun (v36 : Int32) => lt_ (v8 + (1 : Int32)) fun x37 =>
jn5 (fun (v38 : Int32) (v39 : (Nat → Int32)) (v40 : (Nat → Int32)) (v41 : (Nat → Int32)) (v42 : Int32) => (fX12_areEmpty N c_sizes c_rights c_empties p1 (v8 + (1 : Int32))).bind fun x43 =>
if x43 = 0 then (k23 v38 v39 v40 v41 v42) else ((fX12_tries v42).bind fun o44 =>
bd2 (fX12_addsShortest N c_rights v39 v40 v41 o44 p1 0 v8) fun o45 o46 =>
bd2 (fX12_addsSlot N v39 v40 o45 o46 ((24 : Int32) + x16)) fun o47 o48 =>
(ag c_lefts 24 p1).bind fun x49 =>
bd3 (fX12_betters N v39 v40 o47 o48 ((24 : Int32) + x49)) fun o52 o50 o51 =>
jn_ (fun (v53 : Int32) => k23 v53 o50 o51 o47 o48) fun k54 =>
jn_ (fun (v55 : Unit) => k54 1) fun k56 =>
if o52 = 0 then (if v38 = 0 then (k54 0) else (k56 ())) else (k56 ()))) fun k57 =>
jn5 (fun (v58 : Int32) (v59 : (Nat → Int32)) (v60 : (Nat → Int32)) (v61 : (Nat → Int32)) (v62 : Int32) => k57 v58 v59 v60 v61 v62) fun k63 =>
itr6 (bX12_replaces_104 N p1 p2 c_lefts c_sizes c_rights c_empties v8 x16 k57 k63) N v36 x37 o33 o34 o30 o31) fun k100 =>
jn_ (fun (v101 : Unit) => k100 1) fun k102 =>
if o35 = 0 then (if v7 = 0 then (k100 0) else (k102 ())) else (k102 ())) else (k23 v7 v9 v10 v11 v12))
def fX12_replaces (N : Nat) (c_lefts : (Nat → Int32)) (c_sizes : (Nat → Int32)) (c_rights : (Nat → Int32)) (c_empties : Int32) (c_strings : (Nat → Int32)) (c_longs : (Nat → Int32)) (c_trial : (Nat → Int32)) (c_trialLong : Int32) (p1 : Int32) (p2 : Int32) : Option (Int32 × (Nat → Int32) × (Nat → Int32) × (Nat → Int32) × Int32) :=
jn5 (fun (v1 : Int32) (v2 : (Nat → Int32)) (v3 : (Nat → Int32)) (v4 : (Nat → Int32)) (v5 : Int32) => gz v1 (some (v1, v2, v3, v4, v5))) fun k6 =>
itr6 (bX12_replaces_5 N p1 p2 c_lefts c_sizes c_rights c_empties k6) N 0 0 c_strings c_longs c_trial c_trialLong
def bX12_example_158 (N : Nat) (p2 : Int32) (c_rules : Int32) (c_lefts : (Nat → Int32)) (c_sizes : (Nat → Int32)) (c_rights : (Nat → Int32)) (c_empties : Int32) (k32 : (Int32 → (Nat → Int32) → (Nat → Int32) → (Nat → Int32) → Int32 → Option (Int32 × (Nat → Int32) × (Nat → Int32) × (Nat → Int32) × Int32))) (rc39 : Int32 → Int32 → (Nat → Int32) → (Nat → Int32) → (Nat → Int32) → Int32 → Option (Int32 × (Nat → Int32) × (Nat → Int32) × (Nat → Int32) × Int32)) (v33 : Int32) (v34 : Int32) (v35 : (Nat → Int32)) (v36 : (Nat → Int32)) (v37 : (Nat → Int32)) (v38 : Int32) : Option (Int32 × (Nat → Int32) × (Nat → Int32) × (Nat → Int32) × Int32) :=
if c_rules ≤ v34 then (k32 v33 v35 v36 v37 v38) else (bd5 (fX12_replaces N c_lefts c_sizes c_rights c_empties v35 v36 v37 v38 v34 p2) fun o44 o40 o41 o42 o43 =>
jn_ (fun (v45 : Int32) => lt_ (v34 + 1) fun x46 =>
rc39 v45 x46 o40 o41 o42 o43) fun k47 =>
jn_ (fun (v48 : Unit) => k47 1) fun k49 =>
if o44 = 0 then (if v33 = 0 then (k47 0) else (k49 ())) else (k49 ()))
def bX12_example_147 (N : Nat) (p2 : Int32) (c_rules : Int32) (c_lefts : (Nat → Int32)) (c_sizes : (Nat → Int32)) (c_rights : (Nat → Int32)) (c_empties : Int32) (k20 : ((Nat → Int32) → (Nat → Int32) → (Nat → Int32) → Int32 → Option (Int32 × (Nat → Int32) × (Nat → Int32) × (Nat → Int32) × Int32))) (rc26 : Int32 → (Nat → Int32) → (Nat → Int32) → (Nat → Int32) → Int32 → Option (Int32 × (Nat → Int32) × (Nat → Int32) × (Nat → Int32) × Int32)) (v21 : Int32) (v22 : (Nat → Int32)) (v23 : (Nat → Int32)) (v24 : (Nat → Int32)) (v25 : Int32) : Option (Int32 × (Nat → Int32) × (Nat → Int32) × (Nat → Int32) × Int32) :=
if v21 = 0 then (k20 v22 v23 v24 v25) else (jn5 (fun (v27 : Int32) (v28 : (Nat → Int32)) (v29 : (Nat → Int32)) (v30 : (Nat → Int32)) (v31 : Int32) => rc26 v27 v28 v29 v30 v31) fun k32 =>
itr6 (bX12_example_158 N p2 c_rules c_lefts c_sizes c_rights c_empties k32) N 0 0 v22 v23 v24 v25)
def bX12_example_65 (N : Nat) (p1 : Int32) (p2 : Int32) (p3 : Int32) (c_sizes : (Nat → Int32)) (c_rights : (Nat → Int32)) (c_empties : Int32) (k64 : ((Nat → Int32) → (Nat → Int32) → (Nat → Int32) → Int32 → Option (Int32 × (Nat → Int32) × (Nat → Int32) × (Nat → Int32) × Int32))) (k69 : ((Nat → Int32) → (Nat → Int32) → (Nat → Int32) → Int32 → Option (Int32 × (Nat → Int32) × (Nat → Int32) × (Nat → Int32) × Int32))) (rc75 : Int32 → (Nat → Int32) → (Nat → Int32) → (Nat → Int32) → Int32 → Option (Int32 × (Nat → Int32) × (Nat → Int32) × (Nat → Int32) × Int32)) (v70 : Int32) (v71 : (Nat → Int32)) (v72 : (Nat → Int32)) (v73 : (Nat → Int32)) (v74 : Int32) : Option (Int32 × (Nat → Int32) × (Nat → Int32) × (Nat → Int32) × Int32) :=
(ag c_sizes 24 p3).bind fun x76 =>
if x76 ≤ v70 then (k64 v71 v72 v73 v74) else ((fX12_tries v74).bind fun o77 =>
bd2 (fX12_addsBegun N c_sizes c_rights v71 v72 v73 o77 p3 v70 p2) fun o78 o79 =>
bd3 (fX12_betters N v71 v72 o78 o79 ((16 : Int32) + p1)) fun o82 o80 o81 =>
(fX12_symbol c_rights p3 v70).bind fun x83 =>
(fX12_isEmpty c_empties x83).bind fun x84 =>
if x84 = 0 then (k69 o80 o81 o78 o79) else (lt_ (v70 + 1) fun x85 =>
rc75 x85 o80 o81 o78 o79))
def bX12_example_22 (N : Nat) (p2 : Int32) (c_rules : Int32) (c_lefts : (Nat → Int32)) (c_sizes : (Nat → Int32)) (c_rights : (Nat → Int32)) (c_empties : Int32) (k106 : (Int32 → (Nat → Int32) → (Nat → Int32) → (Nat → Int32) → Int32 → Option (Int32 × (Nat → Int32) × (Nat → Int32) × (Nat → Int32) × Int32))) (rc113 : Int32 → Int32 → (Nat → Int32) → (Nat → Int32) → (Nat → Int32) → Int32 → Option (Int32 × (Nat → Int32) × (Nat → Int32) × (Nat → Int32) × Int32)) (v107 : Int32) (v108 : Int32) (v109 : (Nat → Int32)) (v110 : (Nat → Int32)) (v111 : (Nat → Int32)) (v112 : Int32) : Option (Int32 × (Nat → Int32) × (Nat → Int32) × (Nat → Int32) × Int32) :=
if c_rules ≤ v108 then (k106 v107 v109 v110 v111 v112) else (bd5 (fX12_begins N c_lefts c_sizes c_rights c_empties v109 v110 v111 v112 v108 p2) fun o118 o114 o115 o116 o117 =>
jn_ (fun (v119 : Int32) => lt_ (v108 + 1) fun x120 =>
rc113 v119 x120 o114 o115 o116 o117) fun k121 =>
jn_ (fun (v122 : Unit) => k121 1) fun k123 =>
if o118 = 0 then (if v107 = 0 then (k121 0) else (k123 ())) else (k123 ()))
def bX12_example_11 (N : Nat) (p2 : Int32) (c_rules : Int32) (c_lefts : (Nat → Int32)) (c_sizes : (Nat → Int32)) (c_rights : (Nat → Int32)) (c_empties : Int32) (k94 : ((Nat → Int32) → (Nat → Int32) → (Nat → Int32) → Int32 → Option (Int32 × (Nat → Int32) × (Nat → Int32) × (Nat → Int32) × Int32))) (rc100 : Int32 → (Nat → Int32) → (Nat → Int32) → (Nat → Int32) → Int32 → Option (Int32 × (Nat → Int32) × (Nat → Int32) × (Nat → Int32) × Int32)) (v95 : Int32) (v96 : (Nat → Int32)) (v97 : (Nat → Int32)) (v98 : (Nat → Int32)) (v99 : Int32) : Option (Int32 × (Nat → Int32) × (Nat → Int32) × (Nat → Int32) × Int32) :=
if v95 = 0 then (k94 v96 v97 v98 v99) else (jn5 (fun (v101 : Int32) (v102 : (Nat → Int32)) (v103 : (Nat → Int32)) (v104 : (Nat → Int32)) (v105 : Int32) => rc100 v101 v102 v103 v104 v105) fun k106 =>
itr6 (bX12_example_22 N p2 c_rules c_lefts c_sizes c_rights c_empties k106) N 0 0 v96 v97 v98 v99)
def fX12_example (N : Nat) (c_rules : Int32) (c_lefts : (Nat → Int32)) (c_sizes : (Nat → Int32)) (c_rights : (Nat → Int32)) (c_empties : Int32) (c_strings : (Nat → Int32)) (c_longs : (Nat → Int32)) (c_trial : (Nat → Int32)) (c_trialLong : Int32) (p1 : Int32) (p2 : Int32) (p3 : Int32) : Option (Int32 × (Nat → Int32) × (Nat → Int32) × (Nat → Int32) × Int32) :=
(fX12_empties N c_longs 8 32).bind fun o1 =>
jn4 (fun (v2 : (Nat → Int32)) (v3 : (Nat → Int32)) (v4 : (Nat → Int32)) (v5 : Int32) => jn4 (fun (v6 : (Nat → Int32)) (v7 : (Nat → Int32)) (v8 : (Nat → Int32)) (v9 : Int32) => (fX12_areEmpty N c_sizes c_rights c_empties p3 0).bind fun x10 =>
jn3 (fun (v11 : (Nat → Int32)) (v12 : (Nat → Int32)) (v13 : Int32) => jn4 (fun (v14 : (Nat → Int32)) (v15 : (Nat → Int32)) (v16 : (Nat → Int32)) (v17 : Int32) => jn_ (fun (v18 : Int32) => some (v18, v14, v15, v16, v17)) fun k19 =>
if p2 = 8 then (k19 24) else (k19 16)) fun k20 =>
itr5 (bX12_example_147 N p2 c_rules c_lefts c_sizes c_rights c_empties k20) N 1 v11 v12 v8 v13) fun k59 =>
if x10 = 0 then (k59 v6 v7 v9) else ((fX12_tries v9).bind fun o60 =>
bd3 (fX12_betters N v6 v7 v8 o60 ((24 : Int32) + p1)) fun o63 o61 o62 =>
k59 o61 o62 o60)) fun k64 =>
jn4 (fun (v65 : (Nat → Int32)) (v66 : (Nat → Int32)) (v67 : (Nat → Int32)) (v68 : Int32) => k64 v65 v66 v67 v68) fun k69 =>
itr5 (bX12_example_65 N p1 p2 p3 c_sizes c_rights c_empties k64 k69) N 0 v2 v3 v4 v5) fun k94 =>
itr5 (bX12_example_11 N p2 c_rules c_lefts c_sizes c_rights c_empties k94) N 1 c_strings o1 c_trial c_trialLong
def bX12_entry_2 (N : Nat) (p1 : Int32) (p2 : Int32) (c_rules : Int32) (c_lefts : (Nat → Int32)) (c_sizes : (Nat → Int32)) (c_rights : (Nat → Int32)) (c_empties : Int32) (c_firsts : (Nat → Int32)) (c_follows : (Nat → Int32)) (k2 : (Unit → Option (Int32))) (rc4 : Int32 → Option (Int32)) (v3 : Int32) : Option (Int32) :=
if c_rules ≤ v3 then (k2 ()) else ((ag c_lefts 24 v3).bind fun x5 =>
jn_ (fun (v6 : Unit) => lt_ (v3 + 1) fun x7 =>
rc4 x7) fun k8 =>
if x5 = p1 then ((fX12_selects N c_lefts c_sizes c_rights c_empties c_firsts c_follows v3).bind fun x9 =>
if ((x9 >>> (p2 &&& (31 : Int32))) &&& (1 : Int32)) = 1 then (some v3) else (k8 ())) else (k8 ()))
def fX12_entry (N : Nat) (c_rules : Int32) (c_lefts : (Nat → Int32)) (c_sizes : (Nat → Int32)) (c_rights : (Nat → Int32)) (c_empties : Int32) (c_firsts : (Nat → Int32)) (c_follows : (Nat → Int32)) (p1 : Int32) (p2 : Int32) : Option (Int32) :=
jn_ (fun (v1 : Unit) => some (-2)) fun k2 =>
itr (bX12_entry_2 N p1 p2 c_rules c_lefts c_sizes c_rights c_empties c_firsts c_follows k2) N 0
def fX12_tableEntry (N : Nat) (c_rules : Int32) (c_lefts : (Nat → Int32)) (c_sizes : (Nat → Int32)) (c_rights : (Nat → Int32)) (c_isWorked : Int32) (c_empties : Int32) (c_firsts : (Nat → Int32)) (c_follows : (Nat → Int32)) (c_strings : (Nat → Int32)) (c_longs : (Nat → Int32)) (c_trial : (Nat → Int32)) (c_trialLong : Int32) (p1 : Int32) (p2 : Int32) : Option (Int32 × Int32 × Int32 × (Nat → Int32) × (Nat → Int32) × (Nat → Int32) × (Nat → Int32) × (Nat → Int32) × Int32) :=
bd8 (fX12_works N c_rules c_lefts c_sizes c_rights c_isWorked c_empties c_firsts c_follows c_strings c_longs c_trial c_trialLong) fun o1 o2 o3 o4 o5 o6 o7 o8 =>
(fX12_isName p1).bind fun x9 =>
jn_ (fun (v10 : Int32) => some (v10, o1, o2, o3, o4, o5, o6, o7, o8)) fun k11 =>
jn_ (fun (v12 : Unit) => k11 (-1)) fun k13 =>
if x9 = 0 then (k13 ()) else ((fX12_in p2 0 8).bind fun x14 =>
if x14 = 0 then (k13 ()) else ((fX12_entry N c_rules c_lefts c_sizes c_rights o2 o3 o4 p1 p2).bind fun x15 =>
k11 x15))
def bX12_conflicts_66 (N : Nat) (p1 : Int32) (c_rules : Int32) (c_lefts : (Nat → Int32)) (c_sizes : (Nat → Int32)) (c_rights : (Nat → Int32)) (c_empties : Int32) (c_firsts : (Nat → Int32)) (c_follows : (Nat → Int32)) (v4 : Int32) (v10 : Int32) (v16 : Int32) (k21 : (Int32 → Option (Int32 × Int32 × Int32 × Int32 × Int32))) (rc26 : Int32 → Int32 → Option (Int32 × Int32 × Int32 × Int32 × Int32)) (v24 : Int32) (v25 : Int32) : Option (Int32 × Int32 × Int32 × Int32 × Int32) :=
if c_rules ≤ v25 then (k21 v24) else ((ag c_lefts 24 v25).bind fun x27 =>
jn_ (fun (v28 : Int32) => lt_ (v25 + 1) fun x29 =>
rc26 v28 x29) fun k30 =>
if x27 = v4 then ((fX12_selects N c_lefts c_sizes c_rights c_empties c_firsts c_follows v25).bind fun x31 =>
if ((x31 >>> (v10 &&& (31 : Int32))) &&& (1 : Int32)) = 0 then (k30 v24) else (lt_ (v24 + 1) fun x32 =>
if p1 < x32 then (some (x32, v4, v10, v16, v25)) else (k30 x32))) else (k30 v24))
def bX12_conflicts_23 (N : Nat) (p1 : Int32) (c_rules : Int32) (c_lefts : (Nat → Int32)) (c_sizes : (Nat → Int32)) (c_rights : (Nat → Int32)) (c_empties : Int32) (c_firsts : (Nat → Int32)) (c_follows : (Nat → Int32)) (v4 : Int32) (v10 : Int32) (k14 : (Int32 → Option (Int32 × Int32 × Int32 × Int32 × Int32))) (rc17 : Int32 → Int32 → Option (Int32 × Int32 × Int32 × Int32 × Int32)) (v15 : Int32) (v16 : Int32) : Option (Int32 × Int32 × Int32 × Int32 × Int32) :=
if c_rules ≤ v16 then (k14 v15) else ((ag c_lefts 24 v16).bind fun x18 =>
jn_ (fun (v19 : Int32) => lt_ (v16 + 1) fun x20 =>
rc17 v19 x20) fun k21 =>
if x18 = v4 then ((fX12_selects N c_lefts c_sizes c_rights c_empties c_firsts c_follows v16).bind fun x22 =>
if ((x22 >>> (v10 &&& (31 : Int32))) &&& (1 : Int32)) = 0 then (k21 v15) else (lt_ (v16 + (1 : Int32)) fun x23 =>
itr2 (bX12_conflicts_66 N p1 c_rules c_lefts c_sizes c_rights c_empties c_firsts c_follows v4 v10 v16 k21) N v15 x23)) else (k21 v15))
def bX12_conflicts_13 (N : Nat) (p1 : Int32) (c_rules : Int32) (c_lefts : (Nat → Int32)) (c_sizes : (Nat → Int32)) (c_rights : (Nat → Int32)) (c_empties : Int32) (c_firsts : (Nat → Int32)) (c_follows : (Nat → Int32)) (v4 : Int32) (k8 : (Int32 → Option (Int32 × Int32 × Int32 × Int32 × Int32))) (rc11 : Int32 → Int32 → Option (Int32 × Int32 × Int32 × Int32 × Int32)) (v9 : Int32) (v10 : Int32) : Option (Int32 × Int32 × Int32 × Int32 × Int32) :=
if 8 < v10 then (k8 v9) else (jn_ (fun (v12 : Int32) => lt_ (v10 + 1) fun x13 =>
rc11 v12 x13) fun k14 =>
itr2 (bX12_conflicts_23 N p1 c_rules c_lefts c_sizes c_rights c_empties c_firsts c_follows v4 v10 k14) N v9 0)
def bX12_conflicts_4 (N : Nat) (p1 : Int32) (c_rules : Int32) (c_lefts : (Nat → Int32)) (c_sizes : (Nat → Int32)) (c_rights : (Nat → Int32)) (c_empties : Int32) (c_firsts : (Nat → Int32)) (c_follows : (Nat → Int32)) (k2 : (Int32 → Option (Int32 × Int32 × Int32 × Int32 × Int32))) (rc5 : Int32 → Int32 → Option (Int32 × Int32 × Int32 × Int32 × Int32)) (v3 : Int32) (v4 : Int32) : Option (Int32 × Int32 × Int32 × Int32 × Int32) :=
if 8 ≤ v4 then (k2 v3) else (jn_ (fun (v6 : Int32) => lt_ (v4 + 1) fun x7 =>
rc5 v6 x7) fun k8 =>
itr2 (bX12_conflicts_13 N p1 c_rules c_lefts c_sizes c_rights c_empties c_firsts c_follows v4 k8) N v3 0)
def fX12_conflicts (N : Nat) (c_rules : Int32) (c_lefts : (Nat → Int32)) (c_sizes : (Nat → Int32)) (c_rights : (Nat → Int32)) (c_empties : Int32) (c_firsts : (Nat → Int32)) (c_follows : (Nat → Int32)) (c_foundName : Int32) (c_foundToken : Int32) (c_foundP : Int32) (c_foundQ : Int32) (p1 : Int32) : Option (Int32 × Int32 × Int32 × Int32 × Int32) :=
jn_ (fun (v1 : Int32) => some (v1, c_foundName, c_foundToken, c_foundP, c_foundQ)) fun k2 =>
itr2 (bX12_conflicts_4 N p1 c_rules c_lefts c_sizes c_rights c_empties c_firsts c_follows k2) N 0 0
def fX12_conflictMany (N : Nat) (c_rules : Int32) (c_lefts : (Nat → Int32)) (c_sizes : (Nat → Int32)) (c_rights : (Nat → Int32)) (c_empties : Int32) (c_firsts : (Nat → Int32)) (c_follows : (Nat → Int32)) (c_foundName : Int32) (c_foundToken : Int32) (c_foundP : Int32) (c_foundQ : Int32) : Option (Int32 × Int32 × Int32 × Int32 × Int32) :=
bd5 (fX12_conflicts N c_rules c_lefts c_sizes c_rights c_empties c_firsts c_follows c_foundName c_foundToken c_foundP c_foundQ 1048576) fun o5 o1 o2 o3 o4 =>
some (o5, o1, o2, o3, o4)
def fX12_isConflict (N : Nat) (c_rules : Int32) (c_lefts : (Nat → Int32)) (c_sizes : (Nat → Int32)) (c_rights : (Nat → Int32)) (c_empties : Int32) (c_firsts : (Nat → Int32)) (c_follows : (Nat → Int32)) (c_foundName : Int32) (c_foundToken : Int32) (c_foundP : Int32) (c_foundQ : Int32) (p1 : Int32) : Option (Int32 × Int32 × Int32 × Int32 × Int32) :=
jn5 (fun (v1 : Int32) (v2 : Int32) (v3 : Int32) (v4 : Int32) (v5 : Int32) => gz v1 (some (v1, v2, v3, v4, v5))) fun k6 =>
jn4 (fun (v7 : Int32) (v8 : Int32) (v9 : Int32) (v10 : Int32) => k6 0 v7 v8 v9 v10) fun k11 =>
if p1 < 0 then (k11 c_foundName c_foundToken c_foundP c_foundQ) else (bd5 (fX12_conflicts N c_rules c_lefts c_sizes c_rights c_empties c_firsts c_follows c_foundName c_foundToken c_foundP c_foundQ p1) fun o16 o12 o13 o14 o15 =>
if o16 ≤ p1 then (k11 o12 o13 o14 o15) else (k6 1 o12 o13 o14 o15))
def fX12_conflictCount (N : Nat) (c_rules : Int32) (c_lefts : (Nat → Int32)) (c_sizes : (Nat → Int32)) (c_rights : (Nat → Int32)) (c_isWorked : Int32) (c_empties : Int32) (c_firsts : (Nat → Int32)) (c_follows : (Nat → Int32)) (c_strings : (Nat → Int32)) (c_longs : (Nat → Int32)) (c_trial : (Nat → Int32)) (c_trialLong : Int32) (c_foundName : Int32) (c_foundToken : Int32) (c_foundP : Int32) (c_foundQ : Int32) : Option (Int32 × Int32 × Int32 × (Nat → Int32) × (Nat → Int32) × (Nat → Int32) × (Nat → Int32) × (Nat → Int32) × Int32 × Int32 × Int32 × Int32 × Int32) :=
bd8 (fX12_works N c_rules c_lefts c_sizes c_rights c_isWorked c_empties c_firsts c_follows c_strings c_longs c_trial c_trialLong) fun o1 o2 o3 o4 o5 o6 o7 o8 =>
bd5 (fX12_conflictMany N c_rules c_lefts c_sizes c_rights o2 o3 o4 c_foundName c_foundToken c_foundP c_foundQ) fun o13 o9 o10 o11 o12 =>
some (o13, o1, o2, o3, o4, o5, o6, o7, o8, o9, o10, o11, o12)
def fX12_conflict (N : Nat) (c_rules : Int32) (c_lefts : (Nat → Int32)) (c_sizes : (Nat → Int32)) (c_rights : (Nat → Int32)) (c_isWorked : Int32) (c_empties : Int32) (c_firsts : (Nat → Int32)) (c_follows : (Nat → Int32)) (c_strings : (Nat → Int32)) (c_longs : (Nat → Int32)) (c_trial : (Nat → Int32)) (c_trialLong : Int32) (c_foundName : Int32) (c_foundToken : Int32) (c_foundP : Int32) (c_foundQ : Int32) (p1 : Int32) (p2 : Int32) : Option (Int32 × Int32 × Int32 × (Nat → Int32) × (Nat → Int32) × (Nat → Int32) × (Nat → Int32) × (Nat → Int32) × Int32 × Int32 × Int32 × Int32 × Int32) :=
bd8 (fX12_works N c_rules c_lefts c_sizes c_rights c_isWorked c_empties c_firsts c_follows c_strings c_longs c_trial c_trialLong) fun o1 o2 o3 o4 o5 o6 o7 o8 =>
bd5 (fX12_isConflict N c_rules c_lefts c_sizes c_rights o2 o3 o4 c_foundName c_foundToken c_foundP c_foundQ p1) fun o13 o9 o10 o11 o12 =>
jn_ (fun (v14 : Unit) => some ((-1), o1, o2, o3, o4, o5, o6, o7, o8, o9, o10, o11, o12)) fun k15 =>
if o13 = 0 then (k15 ()) else ((fX12_in p2 0 3).bind fun x16 =>
if x16 = 0 then (k15 ()) else (jn_ (fun (v17 : Int32) => some (v17, o1, o2, o3, o4, o5, o6, o7, o8, o9, o10, o11, o12)) fun k18 =>
if p2 = 0 then (k18 o9) else (if p2 = 1 then (k18 o10) else (if p2 = 2 then (k18 o11) else (k18 o12)))))
def fX12_kindNow (N : Nat) (c_sizes : (Nat → Int32)) (c_rights : (Nat → Int32)) (c_empties : Int32) (c_firsts : (Nat → Int32)) (c_foundToken : Int32) (c_foundP : Int32) (c_foundQ : Int32) : Option (Int32) :=
(fX12_firstOf N c_sizes c_rights c_empties c_firsts c_foundP 0).bind fun x1 =>
(fX12_firstOf N c_sizes c_rights c_empties c_firsts c_foundQ 0).bind fun x2 =>
some (((2 : Int32) - ((x1 >>> (c_foundToken &&& (31 : Int32))) &&& (1 : Int32))) - ((x2 >>> (c_foundToken &&& (31 : Int32))) &&& (1 : Int32)))
def fX12_conflictKind (N : Nat) (c_rules : Int32) (c_lefts : (Nat → Int32)) (c_sizes : (Nat → Int32)) (c_rights : (Nat → Int32)) (c_isWorked : Int32) (c_empties : Int32) (c_firsts : (Nat → Int32)) (c_follows : (Nat → Int32)) (c_strings : (Nat → Int32)) (c_longs : (Nat → Int32)) (c_trial : (Nat → Int32)) (c_trialLong : Int32) (c_foundName : Int32) (c_foundToken : Int32) (c_foundP : Int32) (c_foundQ : Int32) (p1 : Int32) : Option (Int32 × Int32 × Int32 × (Nat → Int32) × (Nat → Int32) × (Nat → Int32) × (Nat → Int32) × (Nat → Int32) × Int32 × Int32 × Int32 × Int32 × Int32) :=
bd8 (fX12_works N c_rules c_lefts c_sizes c_rights c_isWorked c_empties c_firsts c_follows c_strings c_longs c_trial c_trialLong) fun o1 o2 o3 o4 o5 o6 o7 o8 =>
bd5 (fX12_isConflict N c_rules c_lefts c_sizes c_rights o2 o3 o4 c_foundName c_foundToken c_foundP c_foundQ p1) fun o13 o9 o10 o11 o12 =>
jn_ (fun (v14 : Int32) => some (v14, o1, o2, o3, o4, o5, o6, o7, o8, o9, o10, o11, o12)) fun k15 =>
if o13 = 0 then (k15 (-1)) else ((fX12_kindNow N c_sizes c_rights o2 o3 o10 o11 o12).bind fun x16 =>
k15 x16)
def fX12_exampleLength (N : Nat) (c_rules : Int32) (c_lefts : (Nat → Int32)) (c_sizes : (Nat → Int32)) (c_rights : (Nat → Int32)) (c_isWorked : Int32) (c_empties : Int32) (c_firsts : (Nat → Int32)) (c_follows : (Nat → Int32)) (c_strings : (Nat → Int32)) (c_longs : (Nat → Int32)) (c_trial : (Nat → Int32)) (c_trialLong : Int32) (c_foundName : Int32) (c_foundToken : Int32) (c_foundP : Int32) (c_foundQ : Int32) (p1 : Int32) (p2 : Int32) : Option (Int32 × Int32 × Int32 × (Nat → Int32) × (Nat → Int32) × (Nat → Int32) × (Nat → Int32) × (Nat → Int32) × Int32 × Int32 × Int32 × Int32 × Int32) :=
bd8 (fX12_works N c_rules c_lefts c_sizes c_rights c_isWorked c_empties c_firsts c_follows c_strings c_longs c_trial c_trialLong) fun o1 o2 o3 o4 o5 o6 o7 o8 =>
bd5 (fX12_isConflict N c_rules c_lefts c_sizes c_rights o2 o3 o4 c_foundName c_foundToken c_foundP c_foundQ p1) fun o13 o9 o10 o11 o12 =>
jn_ (fun (v14 : Unit) => some ((-1), o1, o2, o3, o4, o5, o6, o7, o8, o9, o10, o11, o12)) fun k15 =>
if o13 = 0 then (k15 ()) else ((fX12_in p2 0 1).bind fun x16 =>
if x16 = 0 then (k15 ()) else (jn_ (fun (v17 : Int32) => bd5 (fX12_example N c_rules c_lefts c_sizes c_rights o2 o5 o6 o7 o8 o9 o10 v17) fun o22 o18 o19 o20 o21 =>
(ag o19 32 o22).bind fun x23 =>
jn_ (fun (v24 : Int32) => some (v24, o1, o2, o3, o4, o18, o19, o20, o21, o9, o10, o11, o12)) fun k25 =>
if 0 ≤ x23 then ((ag o19 32 o22).bind fun x26 =>
k25 x26) else (k25 (-2))) fun k27 =>
if p2 = 0 then (k27 o11) else (k27 o12)))
def fX12_exampleTerminal (N : Nat) (c_rules : Int32) (c_lefts : (Nat → Int32)) (c_sizes : (Nat → Int32)) (c_rights : (Nat → Int32)) (c_isWorked : Int32) (c_empties : Int32) (c_firsts : (Nat → Int32)) (c_follows : (Nat → Int32)) (c_strings : (Nat → Int32)) (c_longs : (Nat → Int32)) (c_trial : (Nat → Int32)) (c_trialLong : Int32) (c_foundName : Int32) (c_foundToken : Int32) (c_foundP : Int32) (c_foundQ : Int32) (p1 : Int32) (p2 : Int32) (p3 : Int32) : Option (Int32 × Int32 × Int32 × (Nat → Int32) × (Nat → Int32) × (Nat → Int32) × (Nat → Int32) × (Nat → Int32) × Int32 × Int32 × Int32 × Int32 × Int32) :=
bd8 (fX12_works N c_rules c_lefts c_sizes c_rights c_isWorked c_empties c_firsts c_follows c_strings c_longs c_trial c_trialLong) fun o1 o2 o3 o4 o5 o6 o7 o8 =>
bd5 (fX12_isConflict N c_rules c_lefts c_sizes c_rights o2 o3 o4 c_foundName c_foundToken c_foundP c_foundQ p1) fun o13 o9 o10 o11 o12 =>
jn_ (fun (v14 : Unit) => some ((-1), o1, o2, o3, o4, o5, o6, o7, o8, o9, o10, o11, o12)) fun k15 =>
if o13 = 0 then (k15 ()) else ((fX12_in p2 0 1).bind fun x16 =>
if x16 = 0 then (k15 ()) else (jn_ (fun (v17 : Int32) => bd5 (fX12_example N c_rules c_lefts c_sizes c_rights o2 o5 o6 o7 o8 o9 o10 v17) fun o22 o18 o19 o20 o21 =>
(ag o19 32 o22).bind fun x23 =>
(fX12_in p3 0 (x23 - (1 : Int32))).bind fun x24 =>
jn_ (fun (v25 : Int32) => some (v25, o1, o2, o3, o4, o18, o19, o20, o21, o9, o10, o11, o12)) fun k26 =>
if x24 = 0 then (k26 (-2)) else ((ag o18 1280 (((40 : Int32) * o22) + p3)).bind fun x27 =>
k26 x27)) fun k28 =>
if p2 = 0 then (k28 o11) else (k28 o12)))
def fX12_check (N : Nat) (c_rules : Int32) (c_lefts : (Nat → Int32)) (c_sizes : (Nat → Int32)) (c_rights : (Nat → Int32)) (c_levels : Int32) (c_codes : (Nat → Int32)) (c_details : (Nat → Int32)) (c_isWorked : Int32) (c_empties : Int32) (c_firsts : (Nat → Int32)) (c_follows : (Nat → Int32)) (c_strings : (Nat → Int32)) (c_longs : (Nat → Int32)) (c_trial : (Nat → Int32)) (c_trialLong : Int32) (c_foundName : Int32) (c_foundToken : Int32) (c_foundP : Int32) (c_foundQ : Int32) : Option (Int32 × Int32 × (Nat → Int32) × (Nat → Int32) × Int32 × Int32 × (Nat → Int32) × (Nat → Int32) × (Nat → Int32) × (Nat → Int32) × (Nat → Int32) × Int32 × Int32 × Int32 × Int32 × Int32) :=
bd8 (fX12_works N c_rules c_lefts c_sizes c_rights c_isWorked c_empties c_firsts c_follows c_strings c_longs c_trial c_trialLong) fun o1 o2 o3 o4 o5 o6 o7 o8 =>
bd5 (fX12_conflictMany N c_rules c_lefts c_sizes c_rights o2 o3 o4 c_foundName c_foundToken c_foundP c_foundQ) fun o13 o9 o10 o11 o12 =>
if o13 = 0 then (some (0, c_levels, c_codes, c_details, o1, o2, o3, o4, o5, o6, o7, o8, o9, o10, o11, o12)) else (bd5 (fX12_isConflict N c_rules c_lefts c_sizes c_rights o2 o3 o4 o9 o10 o11 o12 0) fun o18 o14 o15 o16 o17 =>
bd3 (fX12_tells c_levels c_codes c_details 0 8 o13) fun o19 o20 o21 =>
bd3 (fX12_tells o19 o20 o21 1 9 o14) fun o22 o23 o24 =>
(fX12_kindNow N c_sizes c_rights o2 o3 o15 o16 o17).bind fun x25 =>
bd3 (fX12_tells o22 o23 o24 2 ((10 : Int32) + x25) o15) fun o26 o27 o28 =>
some ((-5), o26, o27, o28, o1, o2, o3, o4, o5, o6, o7, o8, o14, o15, o16, o17))
def bX12_unused_86 (v2 : Int32) (k4 : (Unit → Option (Int32))) (rc6 : Int32 → Option (Int32)) (v5 : Int32) : Option (Int32) :=
if 8 ≤ v5 then (k4 ()) else (if ((v2 >>> (v5 &&& (31 : Int32))) &&& (1 : Int32)) = 0 then (some v5) else (lt_ (v5 + 1) fun x7 =>
rc6 x7))
def bX12_unused_30 (c_sizes : (Nat → Int32)) (c_rights : (Nat → Int32)) (v11 : Int32) (k17 : (Int32 → Option (Int32))) (rc20 : Int32 → Int32 → Option (Int32)) (v18 : Int32) (v19 : Int32) : Option (Int32) :=
(ag c_sizes 24 v11).bind fun x21 =>
if x21 ≤ v19 then (k17 v18) else ((fX12_symbol c_rights v11 v19).bind fun x22 =>
jn_ (fun (v23 : Int32) => lt_ (v18 ||| v23) fun x24 =>
lt_ (v19 + 1) fun x25 =>
rc20 x24 x25) fun k26 =>
if x22 < 10 then (k26 0) else ((fX12_symbol c_rights v11 v19).bind fun x27 =>
k26 ((1 : Int32) <<< ((x27 - (10 : Int32)) &&& (31 : Int32)))))
def bX12_unused_8 (N : Nat) (c_rules : Int32) (c_lefts : (Nat → Int32)) (c_sizes : (Nat → Int32)) (c_rights : (Nat → Int32)) (k9 : (Int32 → Option (Int32))) (rc12 : Int32 → Int32 → Option (Int32)) (v10 : Int32) (v11 : Int32) : Option (Int32) :=
if c_rules ≤ v11 then (k9 v10) else ((ag c_lefts 24 v11).bind fun x13 =>
lt_ (v10 ||| ((1 : Int32) <<< (x13 &&& (31 : Int32)))) fun x14 =>
jn_ (fun (v15 : Int32) => lt_ (v11 + 1) fun x16 =>
rc12 v15 x16) fun k17 =>
itr2 (bX12_unused_30 c_sizes c_rights v11 k17) N x14 0)
def fX12_unused (N : Nat) (c_rules : Int32) (c_lefts : (Nat → Int32)) (c_sizes : (Nat → Int32)) (c_rights : (Nat → Int32)) (p1 : Int32) : Option (Int32) :=
lt_ ((1 : Int32) ||| ((1 : Int32) <<< (p1 &&& (31 : Int32)))) fun x1 =>
jn_ (fun (v2 : Int32) => jn_ (fun (v3 : Unit) => some (-1)) fun k4 =>
itr (bX12_unused_86 v2 k4) N 0) fun k9 =>
itr2 (bX12_unused_8 N c_rules c_lefts c_sizes c_rights k9) N x1 0
def bX12_common_2 (p1 : Int32) (p2 : Int32) (c_sizes : (Nat → Int32)) (c_rights : (Nat → Int32)) (k2 : (Int32 → Option (Int32))) (rc4 : Int32 → Option (Int32)) (v3 : Int32) : Option (Int32) :=
(ag c_sizes 24 p1).bind fun x5 =>
if x5 ≤ v3 then (k2 v3) else ((ag c_sizes 24 p2).bind fun x6 =>
if x6 ≤ v3 then (k2 v3) else ((fX12_symbol c_rights p1 v3).bind fun x7 =>
(fX12_symbol c_rights p2 v3).bind fun x8 =>
if x7 = x8 then (lt_ (v3 + 1) fun x9 =>
rc4 x9) else (k2 v3)))
def fX12_common (N : Nat) (c_sizes : (Nat → Int32)) (c_rights : (Nat → Int32)) (p1 : Int32) (p2 : Int32) : Option (Int32) :=
jn_ (fun (v1 : Int32) => some v1) fun k2 =>
itr (bX12_common_2 p1 p2 c_sizes c_rights k2) N 0
def fX12_refuses (c_levels : Int32) (c_codes : (Nat → Int32)) (c_details : (Nat → Int32)) (p1 : Int32) (p2 : Int32) (p3 : Int32) (p4 : Int32) : Option (Int32 × Int32 × (Nat → Int32) × (Nat → Int32)) :=
bd3 (fX12_tells c_levels c_codes c_details 0 15 p1) fun o1 o2 o3 =>
bd3 (fX12_tells o1 o2 o3 1 p2 p3) fun o4 o5 o6 =>
some (p4, o4, o5, o6)
def bX12_leftFactor_366 (v23 : (Nat → Int32)) (v24 : (Nat → Int32)) (v38 : Int32) (o47 : Int32) (k51 : ((Nat → Int32) → (Nat → Int32) → Option (Int32 × Int32 × (Nat → Int32) × (Nat → Int32) × (Nat → Int32) × Int32 × (Nat → Int32) × (Nat → Int32) × (Nat → Int32) × (Nat → Int32) × Int32 × (Nat → Int32) × (Nat → Int32) × Int32 × Int32 × (Nat → Int32) × (Nat → Int32) × Int32 × Int32 × (Nat → Int32) × (Nat → Int32) × (Nat → Int32) × (Nat → Int32) × (Nat → Int32) × Int32 × (Nat → Int32) × (Nat → Int32)))) (rc55 : Int32 → (Nat → Int32) → (Nat → Int32) → Option (Int32 × Int32 × (Nat → Int32) × (Nat → Int32) × (Nat → Int32) × Int32 × (Nat → Int32) × (Nat → Int32) × (Nat → Int32) × (Nat → Int32) × Int32 × (Nat → Int32) × (Nat → Int32) × Int32 × Int32 × (Nat → Int32) × (Nat → Int32) × Int32 × Int32 × (Nat → Int32) × (Nat → Int32) × (Nat → Int32) × (Nat → Int32) × (Nat → Int32) × Int32 × (Nat → Int32) × (Nat → Int32))) (v52 : Int32) (v53 : (Nat → Int32)) (v54 : (Nat → Int32)) : Option (Int32 × Int32 × (Nat → Int32) × (Nat → Int32) × (Nat → Int32) × Int32 × (Nat → Int32) × (Nat → Int32) × (Nat → Int32) × (Nat → Int32) × Int32 × (Nat → Int32) × (Nat → Int32) × Int32 × Int32 × (Nat → Int32) × (Nat → Int32) × Int32 × Int32 × (Nat → Int32) × (Nat → Int32) × (Nat → Int32) × (Nat → Int32) × (Nat → Int32) × Int32 × (Nat → Int32) × (Nat → Int32)) :=
(ag v24 24 v38).bind fun x56 =>
if x56 ≤ v52 then (k51 v53 v54) else ((ag v23 120 (((5 : Int32) * v38) + v52)).bind fun x57 =>
bd2 (fX12_puts v53 v54 o47 x57) fun o58 o59 =>
lt_ (v52 + 1) fun x60 =>
rc55 x60 o58 o59)
def bX12_leftFactor_348 (N : Nat) (x4 : Int32) (v22 : Int32) (v23 : (Nat → Int32)) (v24 : (Nat → Int32)) (k37 : (Int32 → (Nat → Int32) → (Nat → Int32) → (Nat → Int32) → Option (Int32 × Int32 × (Nat → Int32) × (Nat → Int32) × (Nat → Int32) × Int32 × (Nat → Int32) × (Nat → Int32) × (Nat → Int32) × (Nat → Int32) × Int32 × (Nat → Int32) × (Nat → Int32) × Int32 × Int32 × (Nat → Int32) × (Nat → Int32) × Int32 × Int32 × (Nat → Int32) × (Nat → Int32) × (Nat → Int32) × (Nat → Int32) × (Nat → Int32) × Int32 × (Nat → Int32) × (Nat → Int32)))) (rc43 : Int32 → Int32 → (Nat → Int32) → (Nat → Int32) → (Nat → Int32) → Option (Int32 × Int32 × (Nat → Int32) × (Nat → Int32) × (Nat → Int32) × Int32 × (Nat → Int32) × (Nat → Int32) × (Nat → Int32) × (Nat → Int32) × Int32 × (Nat → Int32) × (Nat → Int32) × Int32 × Int32 × (Nat → Int32) × (Nat → Int32) × Int32 × Int32 × (Nat → Int32) × (Nat → Int32) × (Nat → Int32) × (Nat → Int32) × (Nat → Int32) × Int32 × (Nat → Int32) × (Nat → Int32))) (v38 : Int32) (v39 : Int32) (v40 : (Nat → Int32)) (v41 : (Nat → Int32)) (v42 : (Nat → Int32)) : Option (Int32 × Int32 × (Nat → Int32) × (Nat → Int32) × (Nat → Int32) × Int32 × (Nat → Int32) × (Nat → Int32) × (Nat → Int32) × (Nat → Int32) × Int32 × (Nat → Int32) × (Nat → Int32) × Int32 × Int32 × (Nat → Int32) × (Nat → Int32) × Int32 × Int32 × (Nat → Int32) × (Nat → Int32) × (Nat → Int32) × (Nat → Int32) × (Nat → Int32) × Int32 × (Nat → Int32) × (Nat → Int32)) :=
if v22 ≤ v38 then (k37 v39 v40 v41 v42) else (bd4 (fX12_opens v39 v40 v41 x4) fun o47 o44 o45 o46 =>
jn2 (fun (v48 : (Nat → Int32)) (v49 : (Nat → Int32)) => lt_ (v38 + 1) fun x50 =>
rc43 x50 o44 o45 v48 v49) fun k51 =>
itr3 (bX12_leftFactor_366 v23 v24 v38 o47 k51) N 0 o46 v42)
def bX12_leftFactor_288 (N : Nat) (p1 : Int32) (v2 : Int32) (v3 : Int32) (k67 : (Int32 → (Nat → Int32) → (Nat → Int32) → (Nat → Int32) → Option (Int32 × Int32 × (Nat → Int32) × (Nat → Int32) × (Nat → Int32) × Int32 × (Nat → Int32) × (Nat → Int32) × (Nat → Int32) × (Nat → Int32) × Int32 × (Nat → Int32) × (Nat → Int32) × Int32 × Int32 × (Nat → Int32) × (Nat → Int32) × Int32 × Int32 × (Nat → Int32) × (Nat → Int32) × (Nat → Int32) × (Nat → Int32) × (Nat → Int32) × Int32 × (Nat → Int32) × (Nat → Int32)))) (rc73 : Int32 → Int32 → (Nat → Int32) → (Nat → Int32) → (Nat → Int32) → Option (Int32 × Int32 × (Nat → Int32) × (Nat → Int32) × (Nat → Int32) × Int32 × (Nat → Int32) × (Nat → Int32) × (Nat → Int32) × (Nat → Int32) × Int32 × (Nat → Int32) × (Nat → Int32) × Int32 × Int32 × (Nat → Int32) × (Nat → Int32) × Int32 × Int32 × (Nat → Int32) × (Nat → Int32) × (Nat → Int32) × (Nat → Int32) × (Nat → Int32) × Int32 × (Nat → Int32) × (Nat → Int32))) (v68 : Int32) (v69 : Int32) (v70 : (Nat → Int32)) (v71 : (Nat → Int32)) (v72 : (Nat → Int32)) : Option (Int32 × Int32 × (Nat → Int32) × (Nat → Int32) × (Nat → Int32) × Int32 × (Nat → Int32) × (Nat → Int32) × (Nat → Int32) × (Nat → Int32) × Int32 × (Nat → Int32) × (Nat → Int32) × Int32 × Int32 × (Nat → Int32) × (Nat → Int32) × Int32 × Int32 × (Nat → Int32) × (Nat → Int32) × (Nat → Int32) × (Nat → Int32) × (Nat → Int32) × Int32 × (Nat → Int32) × (Nat → Int32)) :=
if v68 ≤ v3 then (k67 v69 v70 v71 v72) else ((ag v70 24 v68).bind fun x74 =>
jn4 (fun (v75 : Int32) (v76 : (Nat → Int32)) (v77 : (Nat → Int32)) (v78 : (Nat → Int32)) => lt_ (v68 + (-1)) fun x79 =>
rc73 x79 v75 v76 v77 v78) fun k80 =>
if x74 = p1 then ((fX12_common N v71 v72 v68 v3).bind fun x81 =>
if x81 < v2 then (k80 v69 v70 v71 v72) else (bd4 (fX12_drops N v69 v70 v71 v72 v68) fun o82 o83 o84 o85 =>
k80 o82 o83 o84 o85)) else (k80 v69 v70 v71 v72))
def bX12_leftFactor_231 (c_sizes : (Nat → Int32)) (c_rights : (Nat → Int32)) (v2 : Int32) (v91 : Int32) (v92 : Int32) (k107 : ((Nat → Int32) → Option (Int32 × Int32 × (Nat → Int32) × (Nat → Int32) × (Nat → Int32) × Int32 × (Nat → Int32) × (Nat → Int32) × (Nat → Int32) × (Nat → Int32) × Int32 × (Nat → Int32) × (Nat → Int32) × Int32 × Int32 × (Nat → Int32) × (Nat → Int32) × Int32 × Int32 × (Nat → Int32) × (Nat → Int32) × (Nat → Int32) × (Nat → Int32) × (Nat → Int32) × Int32 × (Nat → Int32) × (Nat → Int32)))) (rc110 : Int32 → (Nat → Int32) → Option (Int32 × Int32 × (Nat → Int32) × (Nat → Int32) × (Nat → Int32) × Int32 × (Nat → Int32) × (Nat → Int32) × (Nat → Int32) × (Nat → Int32) × Int32 × (Nat → Int32) × (Nat → Int32) × Int32 × Int32 × (Nat → Int32) × (Nat → Int32) × Int32 × Int32 × (Nat → Int32) × (Nat → Int32) × (Nat → Int32) × (Nat → Int32) × (Nat → Int32) × Int32 × (Nat → Int32) × (Nat → Int32))) (v108 : Int32) (v109 : (Nat → Int32)) : Option (Int32 × Int32 × (Nat → Int32) × (Nat → Int32) × (Nat → Int32) × Int32 × (Nat → Int32) × (Nat → Int32) × (Nat → Int32) × (Nat → Int32) × Int32 × (Nat → Int32) × (Nat → Int32) × Int32 × Int32 × (Nat → Int32) × (Nat → Int32) × Int32 × Int32 × (Nat → Int32) × (Nat → Int32) × (Nat → Int32) × (Nat → Int32) × (Nat → Int32) × Int32 × (Nat → Int32) × (Nat → Int32)) :=
(ag c_sizes 24 v92).bind fun x111 =>
if x111 ≤ v108 then (k107 v109) else ((fX12_symbol c_rights v92 v108).bind fun x112 =>
(as_ v109 120 ((((5 : Int32) * v91) + v108) - v2) x112).bind fun f113 =>
lt_ (v108 + 1) fun x114 =>
rc110 x114 f113)
def bX12_leftFactor_172 (N : Nat) (p1 : Int32) (c_rules : Int32) (c_lefts : (Nat → Int32)) (c_sizes : (Nat → Int32)) (c_rights : (Nat → Int32)) (v2 : Int32) (v3 : Int32) (k90 : (Int32 → (Nat → Int32) → (Nat → Int32) → Option (Int32 × Int32 × (Nat → Int32) × (Nat → Int32) × (Nat → Int32) × Int32 × (Nat → Int32) × (Nat → Int32) × (Nat → Int32) × (Nat → Int32) × Int32 × (Nat → Int32) × (Nat → Int32) × Int32 × Int32 × (Nat → Int32) × (Nat → Int32) × Int32 × Int32 × (Nat → Int32) × (Nat → Int32) × (Nat → Int32) × (Nat → Int32) × (Nat → Int32) × Int32 × (Nat → Int32) × (Nat → Int32)))) (rc95 : Int32 → Int32 → (Nat → Int32) → (Nat → Int32) → Option (Int32 × Int32 × (Nat → Int32) × (Nat → Int32) × (Nat → Int32) × Int32 × (Nat → Int32) × (Nat → Int32) × (Nat → Int32) × (Nat → Int32) × Int32 × (Nat → Int32) × (Nat → Int32) × Int32 × Int32 × (Nat → Int32) × (Nat → Int32) × Int32 × Int32 × (Nat → Int32) × (Nat → Int32) × (Nat → Int32) × (Nat → Int32) × (Nat → Int32) × Int32 × (Nat → Int32) × (Nat → Int32))) (v91 : Int32) (v92 : Int32) (v93 : (Nat → Int32)) (v94 : (Nat → Int32)) : Option (Int32 × Int32 × (Nat → Int32) × (Nat → Int32) × (Nat → Int32) × Int32 × (Nat → Int32) × (Nat → Int32) × (Nat → Int32) × (Nat → Int32) × Int32 × (Nat → Int32) × (Nat → Int32) × Int32 × Int32 × (Nat → Int32) × (Nat → Int32) × Int32 × Int32 × (Nat → Int32) × (Nat → Int32) × (Nat → Int32) × (Nat → Int32) × (Nat → Int32) × Int32 × (Nat → Int32) × (Nat → Int32)) :=
if c_rules ≤ v92 then (k90 v91 v93 v94) else ((ag c_lefts 24 v92).bind fun x96 =>
jn3 (fun (v97 : Int32) (v98 : (Nat → Int32)) (v99 : (Nat → Int32)) => lt_ (v92 + 1) fun x100 =>
rc95 v97 x100 v98 v99) fun k101 =>
if x96 = p1 then (jn_ (fun (v102 : Unit) => (ag c_sizes 24 v92).bind fun x103 =>
(as_ v94 24 v91 (x103 - v2)).bind fun f104 =>
jn_ (fun (v105 : (Nat → Int32)) => lt_ (v91 + 1) fun x106 =>
k101 x106 v105 f104) fun k107 =>
itr2 (bX12_leftFactor_231 c_sizes c_rights v2 v91 v92 k107) N v2 v93) fun k116 =>
if v92 = v3 then (k116 ()) else ((fX12_common N c_sizes c_rights v92 v3).bind fun x117 =>
if v2 ≤ x117 then (k116 ()) else (k101 v91 v93 v94))) else (k101 v91 v93 v94))
def bX12_leftFactor_28 (N : Nat) (p1 : Int32) (c_rules : Int32) (c_lefts : (Nat → Int32)) (c_sizes : (Nat → Int32)) (c_rights : (Nat → Int32)) (v132 : Int32) (k137 : (Int32 → Int32 → Option (Int32 × Int32 × (Nat → Int32) × (Nat → Int32) × (Nat → Int32) × Int32 × (Nat → Int32) × (Nat → Int32) × (Nat → Int32) × (Nat → Int32) × Int32 × (Nat → Int32) × (Nat → Int32) × Int32 × Int32 × (Nat → Int32) × (Nat → Int32) × Int32 × Int32 × (Nat → Int32) × (Nat → Int32) × (Nat → Int32) × (Nat → Int32) × (Nat → Int32) × Int32 × (Nat → Int32) × (Nat → Int32)))) (rc141 : Int32 → Int32 → Int32 → Option (Int32 × Int32 × (Nat → Int32) × (Nat → Int32) × (Nat → Int32) × Int32 × (Nat → Int32) × (Nat → Int32) × (Nat → Int32) × (Nat → Int32) × Int32 × (Nat → Int32) × (Nat → Int32) × Int32 × Int32 × (Nat → Int32) × (Nat → Int32) × Int32 × Int32 × (Nat → Int32) × (Nat → Int32) × (Nat → Int32) × (Nat → Int32) × (Nat → Int32) × Int32 × (Nat → Int32) × (Nat → Int32))) (v138 : Int32) (v139 : Int32) (v140 : Int32) : Option (Int32 × Int32 × (Nat → Int32) × (Nat → Int32) × (Nat → Int32) × Int32 × (Nat → Int32) × (Nat → Int32) × (Nat → Int32) × (Nat → Int32) × Int32 × (Nat → Int32) × (Nat → Int32) × Int32 × Int32 × (Nat → Int32) × (Nat → Int32) × Int32 × Int32 × (Nat → Int32) × (Nat → Int32) × (Nat → Int32) × (Nat → Int32) × (Nat → Int32) × Int32 × (Nat → Int32) × (Nat → Int32)) :=
if c_rules ≤ v140 then (k137 v138 v139) else (jn2 (fun (v142 : Int32) (v143 : Int32) => lt_ (v140 + 1) fun x144 =>
rc141 v142 v143 x144) fun k145 =>
if v132 = v140 then (k145 v138 v139) else ((ag c_lefts 24 v132).bind fun x146 =>
if x146 = p1 then ((ag c_lefts 24 v140).bind fun x147 =>
if x147 = p1 then ((fX12_common N c_sizes c_rights v132 v140).bind fun x148 =>
if v138 < x148 then ((fX12_common N c_sizes c_rights v132 v140).bind fun x149 =>
k145 x149 v132) else (k145 v138 v139)) else (k145 v138 v139)) else (k145 v138 v139)))
def bX12_leftFactor_16 (N : Nat) (p1 : Int32) (c_rules : Int32) (c_lefts : (Nat → Int32)) (c_sizes : (Nat → Int32)) (c_rights : (Nat → Int32)) (k129 : (Int32 → Int32 → Option (Int32 × Int32 × (Nat → Int32) × (Nat → Int32) × (Nat → Int32) × Int32 × (Nat → Int32) × (Nat → Int32) × (Nat → Int32) × (Nat → Int32) × Int32 × (Nat → Int32) × (Nat → Int32) × Int32 × Int32 × (Nat → Int32) × (Nat → Int32) × Int32 × Int32 × (Nat → Int32) × (Nat → Int32) × (Nat → Int32) × (Nat → Int32) × (Nat → Int32) × Int32 × (Nat → Int32) × (Nat → Int32)))) (rc133 : Int32 → Int32 → Int32 → Option (Int32 × Int32 × (Nat → Int32) × (Nat → Int32) × (Nat → Int32) × Int32 × (Nat → Int32) × (Nat → Int32) × (Nat → Int32) × (Nat → Int32) × Int32 × (Nat → Int32) × (Nat → Int32) × Int32 × Int32 × (Nat → Int32) × (Nat → Int32) × Int32 × Int32 × (Nat → Int32) × (Nat → Int32) × (Nat → Int32) × (Nat → Int32) × (Nat → Int32) × Int32 × (Nat → Int32) × (Nat → Int32))) (v130 : Int32) (v131 : Int32) (v132 : Int32) : Option (Int32 × Int32 × (Nat → Int32) × (Nat → Int32) × (Nat → Int32) × Int32 × (Nat → Int32) × (Nat → Int32) × (Nat → Int32) × (Nat → Int32) × Int32 × (Nat → Int32) × (Nat → Int32) × Int32 × Int32 × (Nat → Int32) × (Nat → Int32) × Int32 × Int32 × (Nat → Int32) × (Nat → Int32) × (Nat → Int32) × (Nat → Int32) × (Nat → Int32) × Int32 × (Nat → Int32) × (Nat → Int32)) :=
if c_rules ≤ v132 then (k129 v130 v131) else (jn2 (fun (v134 : Int32) (v135 : Int32) => lt_ (v132 + 1) fun x136 =>
rc133 v134 v135 x136) fun k137 =>
itr3 (bX12_leftFactor_28 N p1 c_rules c_lefts c_sizes c_rights v132 k137) N v130 v131 0)
def fX12_leftFactor (N : Nat) (c_rules : Int32) (c_lefts : (Nat → Int32)) (c_sizes : (Nat → Int32)) (c_rights : (Nat → Int32)) (c_edits : Int32) (c_pastRules : (Nat → Int32)) (c_pastLefts : (Nat → Int32)) (c_pastSizes : (Nat → Int32)) (c_pastRights : (Nat → Int32)) (c_levels : Int32) (c_codes : (Nat → Int32)) (c_details : (Nat → Int32)) (c_isWorked : Int32) (c_empties : Int32) (c_firsts : (Nat → Int32)) (c_follows : (Nat → Int32)) (c_isKept : Int32) (c_keptEmpties : Int32) (c_keptFirsts : (Nat → Int32)) (c_keptFollows : (Nat → Int32)) (c_strings : (Nat → Int32)) (c_longs : (Nat → Int32)) (c_trial : (Nat → Int32)) (c_trialLong : Int32) (c_moved : (Nat → Int32)) (c_movedSizes : (Nat → Int32)) (p1 : Int32) : Option (Int32 × Int32 × (Nat → Int32) × (Nat → Int32) × (Nat → Int32) × Int32 × (Nat → Int32) × (Nat → Int32) × (Nat → Int32) × (Nat → Int32) × Int32 × (Nat → Int32) × (Nat → Int32) × Int32 × Int32 × (Nat → Int32) × (Nat → Int32) × Int32 × Int32 × (Nat → Int32) × (Nat → Int32) × (Nat → Int32) × (Nat → Int32) × (Nat → Int32) × Int32 × (Nat → Int32) × (Nat → Int32)) :=
(fX12_isName p1).bind fun x1 =>
if x1 = 0 then (some ((-1), c_rules, c_lefts, c_sizes, c_rights, c_edits, c_pastRules, c_pastLefts, c_pastSizes, c_pastRights, c_levels, c_codes, c_details, c_isWorked, c_empties, c_firsts, c_follows, c_isKept, c_keptEmpties, c_keptFirsts, c_keptFollows, c_strings, c_longs, c_trial, c_trialLong, c_moved, c_movedSizes)) else (jn2 (fun (v2 : Int32) (v3 : Int32) => if v2 = 0 then (some ((-2), c_rules, c_lefts, c_sizes, c_rights, c_edits, c_pastRules, c_pastLefts, c_pastSizes, c_pastRights, c_levels, c_codes, c_details, c_isWorked, c_empties, c_firsts, c_follows, c_isKept, c_keptEmpties, c_keptFirsts, c_keptFollows, c_strings, c_longs, c_trial, c_trialLong, c_moved, c_movedSizes)) else ((fX12_unused N c_rules c_lefts c_sizes c_rights p1).bind fun x4 =>
if 0 ≤ x4 then (if (c_rules + (1 : Int32)) ≤ 24 then (bd17 (fX12_edits N c_rules c_lefts c_sizes c_rights c_edits c_pastRules c_pastLefts c_pastSizes c_pastRights c_isWorked c_empties c_firsts c_follows c_isKept c_keptEmpties c_keptFirsts c_keptFollows c_strings c_longs c_trial c_trialLong) fun o5 o6 o7 o8 o9 o10 o11 o12 o13 o14 o15 o16 o17 o18 o19 o20 o21 =>
jn3 (fun (v22 : Int32) (v23 : (Nat → Int32)) (v24 : (Nat → Int32)) => lt_ (c_rules - (1 : Int32)) fun x25 =>
jn4 (fun (v26 : Int32) (v27 : (Nat → Int32)) (v28 : (Nat → Int32)) (v29 : (Nat → Int32)) => (as_ v28 24 v3 v2).bind fun f30 =>
bd2 (fX12_puts f30 v29 v3 ((10 : Int32) + x4)) fun o31 o32 =>
jn4 (fun (v33 : Int32) (v34 : (Nat → Int32)) (v35 : (Nat → Int32)) (v36 : (Nat → Int32)) => some (x4, v33, v34, v35, v36, o5, o6, o7, o8, o9, c_levels, c_codes, c_details, o10, o11, o12, o13, o14, o15, o16, o17, o18, o19, o20, o21, v23, v24)) fun k37 =>
itr5 (bX12_leftFactor_348 N x4 v22 v23 v24 k37) N 0 v26 v27 o31 o32) fun k67 =>
itr5 (bX12_leftFactor_288 N p1 v2 v3 k67) N x25 c_rules c_lefts c_sizes c_rights) fun k90 =>
itr4 (bX12_leftFactor_172 N p1 c_rules c_lefts c_sizes c_rights v2 v3 k90) N 0 v3 c_moved c_movedSizes) else (bd4 (fX12_refuses c_levels c_codes c_details p1 17 (c_rules + (1 : Int32)) (-3)) fun o124 o121 o122 o123 =>
some (o124, c_rules, c_lefts, c_sizes, c_rights, c_edits, c_pastRules, c_pastLefts, c_pastSizes, c_pastRights, o121, o122, o123, c_isWorked, c_empties, c_firsts, c_follows, c_isKept, c_keptEmpties, c_keptFirsts, c_keptFollows, c_strings, c_longs, c_trial, c_trialLong, c_moved, c_movedSizes))) else (bd4 (fX12_refuses c_levels c_codes c_details p1 16 0 (-3)) fun o128 o125 o126 o127 =>
some (o128, c_rules, c_lefts, c_sizes, c_rights, c_edits, c_pastRules, c_pastLefts, c_pastSizes, c_pastRights, o125, o126, o127, c_isWorked, c_empties, c_firsts, c_follows, c_isKept, c_keptEmpties, c_keptFirsts, c_keptFollows, c_strings, c_longs, c_trial, c_trialLong, c_moved, c_movedSizes)))) fun k129 =>
itr3 (bX12_leftFactor_16 N p1 c_rules c_lefts c_sizes c_rights k129) N 0 (-1) 0)
def fX12_isRecursive (c_lefts : (Nat → Int32)) (c_sizes : (Nat → Int32)) (c_rights : (Nat → Int32)) (p1 : Int32) (p2 : Int32) : Option (Int32) :=
(ag c_lefts 24 p1).bind fun x1 =>
jn_ (fun (v2 : Int32) => gz v2 (some v2)) fun k3 =>
jn_ (fun (v4 : Unit) => k3 0) fun k5 =>
if x1 = p2 then ((ag c_sizes 24 p1).bind fun x6 =>
if x6 ≤ 0 then (k5 ()) else ((fX12_symbol c_rights p1 0).bind fun x7 =>
if x7 = ((10 : Int32) + p2) then (k3 1) else (k5 ()))) else (k5 ())
def bX12_removeLeftRecursion_398 (v27 : (Nat → Int32)) (v28 : (Nat → Int32)) (v43 : Int32) (o52 : Int32) (k58 : ((Nat → Int32) → (Nat → Int32) → Option (Int32 × Int32 × (Nat → Int32) × (Nat → Int32) × (Nat → Int32) × Int32 × (Nat → Int32) × (Nat → Int32) × (Nat → Int32) × (Nat → Int32) × Int32 × (Nat → Int32) × (Nat → Int32) × Int32 × Int32 × (Nat → Int32) × (Nat → Int32) × Int32 × Int32 × (Nat → Int32) × (Nat → Int32) × (Nat → Int32) × (Nat → Int32) × (Nat → Int32) × Int32 × (Nat → Int32) × (Nat → Int32)))) (rc62 : Int32 → (Nat → Int32) → (Nat → Int32) → Option (Int32 × Int32 × (Nat → Int32) × (Nat → Int32) × (Nat → Int32) × Int32 × (Nat → Int32) × (Nat → Int32) × (Nat → Int32) × (Nat → Int32) × Int32 × (Nat → Int32) × (Nat → Int32) × Int32 × Int32 × (Nat → Int32) × (Nat → Int32) × Int32 × Int32 × (Nat → Int32) × (Nat → Int32) × (Nat → Int32) × (Nat → Int32) × (Nat → Int32) × Int32 × (Nat → Int32) × (Nat → Int32))) (v59 : Int32) (v60 : (Nat → Int32)) (v61 : (Nat → Int32)) : Option (Int32 × Int32 × (Nat → Int32) × (Nat → Int32) × (Nat → Int32) × Int32 × (Nat → Int32) × (Nat → Int32) × (Nat → Int32) × (Nat → Int32) × Int32 × (Nat → Int32) × (Nat → Int32) × Int32 × Int32 × (Nat → Int32) × (Nat → Int32) × Int32 × Int32 × (Nat → Int32) × (Nat → Int32) × (Nat → Int32) × (Nat → Int32) × (Nat → Int32) × Int32 × (Nat → Int32) × (Nat → Int32)) :=
(ag v28 24 v43).bind fun x63 =>
if x63 ≤ v59 then (k58 v60 v61) else ((ag v27 120 (((5 : Int32) * v43) + v59)).bind fun x64 =>
bd2 (fX12_puts v60 v61 o52 x64) fun o65 o66 =>
lt_ (v59 + 1) fun x67 =>
rc62 x67 o65 o66)
def bX12_removeLeftRecursion_380 (N : Nat) (x6 : Int32) (v24 : Int32) (v27 : (Nat → Int32)) (v28 : (Nat → Int32)) (k42 : (Int32 → (Nat → Int32) → (Nat → Int32) → (Nat → Int32) → Option (Int32 × Int32 × (Nat → Int32) × (Nat → Int32) × (Nat → Int32) × Int32 × (Nat → Int32) × (Nat → Int32) × (Nat → Int32) × (Nat → Int32) × Int32 × (Nat → Int32) × (Nat → Int32) × Int32 × Int32 × (Nat → Int32) × (Nat → Int32) × Int32 × Int32 × (Nat → Int32) × (Nat → Int32) × (Nat → Int32) × (Nat → Int32) × (Nat → Int32) × Int32 × (Nat → Int32) × (Nat → Int32)))) (rc48 : Int32 → Int32 → (Nat → Int32) → (Nat → Int32) → (Nat → Int32) → Option (Int32 × Int32 × (Nat → Int32) × (Nat → Int32) × (Nat → Int32) × Int32 × (Nat → Int32) × (Nat → Int32) × (Nat → Int32) × (Nat → Int32) × Int32 × (Nat → Int32) × (Nat → Int32) × Int32 × Int32 × (Nat → Int32) × (Nat → Int32) × Int32 × Int32 × (Nat → Int32) × (Nat → Int32) × (Nat → Int32) × (Nat → Int32) × (Nat → Int32) × Int32 × (Nat → Int32) × (Nat → Int32))) (v43 : Int32) (v44 : Int32) (v45 : (Nat → Int32)) (v46 : (Nat → Int32)) (v47 : (Nat → Int32)) : Option (Int32 × Int32 × (Nat → Int32) × (Nat → Int32) × (Nat → Int32) × Int32 × (Nat → Int32) × (Nat → Int32) × (Nat → Int32) × (Nat → Int32) × Int32 × (Nat → Int32) × (Nat → Int32) × Int32 × Int32 × (Nat → Int32) × (Nat → Int32) × Int32 × Int32 × (Nat → Int32) × (Nat → Int32) × (Nat → Int32) × (Nat → Int32) × (Nat → Int32) × Int32 × (Nat → Int32) × (Nat → Int32)) :=
if v24 ≤ v43 then (k42 v44 v45 v46 v47) else (bd4 (fX12_opens v44 v45 v46 x6) fun o52 o49 o50 o51 =>
jn2 (fun (v53 : (Nat → Int32)) (v54 : (Nat → Int32)) => bd2 (fX12_puts v53 v54 o52 ((10 : Int32) + x6)) fun o55 o56 =>
lt_ (v43 + 1) fun x57 =>
rc48 x57 o49 o50 o55 o56) fun k58 =>
itr3 (bX12_removeLeftRecursion_398 v27 v28 v43 o52 k58) N 0 o51 v47)
def bX12_removeLeftRecursion_350 (N : Nat) (p1 : Int32) (k74 : (Int32 → (Nat → Int32) → (Nat → Int32) → (Nat → Int32) → Option (Int32 × Int32 × (Nat → Int32) × (Nat → Int32) × (Nat → Int32) × Int32 × (Nat → Int32) × (Nat → Int32) × (Nat → Int32) × (Nat → Int32) × Int32 × (Nat → Int32) × (Nat → Int32) × Int32 × Int32 × (Nat → Int32) × (Nat → Int32) × Int32 × Int32 × (Nat → Int32) × (Nat → Int32) × (Nat → Int32) × (Nat → Int32) × (Nat → Int32) × Int32 × (Nat → Int32) × (Nat → Int32)))) (rc80 : Int32 → Int32 → (Nat → Int32) → (Nat → Int32) → (Nat → Int32) → Option (Int32 × Int32 × (Nat → Int32) × (Nat → Int32) × (Nat → Int32) × Int32 × (Nat → Int32) × (Nat → Int32) × (Nat → Int32) × (Nat → Int32) × Int32 × (Nat → Int32) × (Nat → Int32) × Int32 × Int32 × (Nat → Int32) × (Nat → Int32) × Int32 × Int32 × (Nat → Int32) × (Nat → Int32) × (Nat → Int32) × (Nat → Int32) × (Nat → Int32) × Int32 × (Nat → Int32) × (Nat → Int32))) (v75 : Int32) (v76 : Int32) (v77 : (Nat → Int32)) (v78 : (Nat → Int32)) (v79 : (Nat → Int32)) : Option (Int32 × Int32 × (Nat → Int32) × (Nat → Int32) × (Nat → Int32) × Int32 × (Nat → Int32) × (Nat → Int32) × (Nat → Int32) × (Nat → Int32) × Int32 × (Nat → Int32) × (Nat → Int32) × Int32 × Int32 × (Nat → Int32) × (Nat → Int32) × Int32 × Int32 × (Nat → Int32) × (Nat → Int32) × (Nat → Int32) × (Nat → Int32) × (Nat → Int32) × Int32 × (Nat → Int32) × (Nat → Int32)) :=
if v75 < 0 then (k74 v76 v77 v78 v79) else ((fX12_isRecursive v77 v78 v79 v75 p1).bind fun x81 =>
jn4 (fun (v82 : Int32) (v83 : (Nat → Int32)) (v84 : (Nat → Int32)) (v85 : (Nat → Int32)) => lt_ (v75 + (-1)) fun x86 =>
rc80 x86 v82 v83 v84 v85) fun k87 =>
if x81 = 0 then (k87 v76 v77 v78 v79) else (bd4 (fX12_drops N v76 v77 v78 v79 v75) fun o88 o89 o90 o91 =>
k87 o88 o89 o90 o91))
def bX12_removeLeftRecursion_293 (v97 : Int32) (v98 : Int32) (v99 : (Nat → Int32)) (v100 : (Nat → Int32)) (k117 : ((Nat → Int32) → Option (Int32 × Int32 × (Nat → Int32) × (Nat → Int32) × (Nat → Int32) × Int32 × (Nat → Int32) × (Nat → Int32) × (Nat → Int32) × (Nat → Int32) × Int32 × (Nat → Int32) × (Nat → Int32) × Int32 × Int32 × (Nat → Int32) × (Nat → Int32) × Int32 × Int32 × (Nat → Int32) × (Nat → Int32) × (Nat → Int32) × (Nat → Int32) × (Nat → Int32) × Int32 × (Nat → Int32) × (Nat → Int32)))) (rc120 : Int32 → (Nat → Int32) → Option (Int32 × Int32 × (Nat → Int32) × (Nat → Int32) × (Nat → Int32) × Int32 × (Nat → Int32) × (Nat → Int32) × (Nat → Int32) × (Nat → Int32) × Int32 × (Nat → Int32) × (Nat → Int32) × Int32 × Int32 × (Nat → Int32) × (Nat → Int32) × Int32 × Int32 × (Nat → Int32) × (Nat → Int32) × (Nat → Int32) × (Nat → Int32) × (Nat → Int32) × Int32 × (Nat → Int32) × (Nat → Int32))) (v118 : Int32) (v119 : (Nat → Int32)) : Option (Int32 × Int32 × (Nat → Int32) × (Nat → Int32) × (Nat → Int32) × Int32 × (Nat → Int32) × (Nat → Int32) × (Nat → Int32) × (Nat → Int32) × Int32 × (Nat → Int32) × (Nat → Int32) × Int32 × Int32 × (Nat → Int32) × (Nat → Int32) × Int32 × Int32 × (Nat → Int32) × (Nat → Int32) × (Nat → Int32) × (Nat → Int32) × (Nat → Int32) × Int32 × (Nat → Int32) × (Nat → Int32)) :=
(ag v99 24 v98).bind fun x121 =>
if x121 ≤ v118 then (k117 v119) else ((fX12_symbol v100 v98 v118).bind fun x122 =>
(as_ v119 120 ((((5 : Int32) * v97) + v118) - (1 : Int32)) x122).bind fun f123 =>
lt_ (v118 + 1) fun x124 =>
rc120 x124 f123)
def bX12_removeLeftRecursion_227 (N : Nat) (p1 : Int32) (c_rules : Int32) (c_lefts : (Nat → Int32)) (x6 : Int32) (k96 : (Int32 → (Nat → Int32) → (Nat → Int32) → (Nat → Int32) → (Nat → Int32) → Option (Int32 × Int32 × (Nat → Int32) × (Nat → Int32) × (Nat → Int32) × Int32 × (Nat → Int32) × (Nat → Int32) × (Nat → Int32) × (Nat → Int32) × Int32 × (Nat → Int32) × (Nat → Int32) × Int32 × Int32 × (Nat → Int32) × (Nat → Int32) × Int32 × Int32 × (Nat → Int32) × (Nat → Int32) × (Nat → Int32) × (Nat → Int32) × (Nat → Int32) × Int32 × (Nat → Int32) × (Nat → Int32)))) (rc103 : Int32 → Int32 → (Nat → Int32) → (Nat → Int32) → (Nat → Int32) → (Nat → Int32) → Option (Int32 × Int32 × (Nat → Int32) × (Nat → Int32) × (Nat → Int32) × Int32 × (Nat → Int32) × (Nat → Int32) × (Nat → Int32) × (Nat → Int32) × Int32 × (Nat → Int32) × (Nat → Int32) × Int32 × Int32 × (Nat → Int32) × (Nat → Int32) × Int32 × Int32 × (Nat → Int32) × (Nat → Int32) × (Nat → Int32) × (Nat → Int32) × (Nat → Int32) × Int32 × (Nat → Int32) × (Nat → Int32))) (v97 : Int32) (v98 : Int32) (v99 : (Nat → Int32)) (v100 : (Nat → Int32)) (v101 : (Nat → Int32)) (v102 : (Nat → Int32)) : Option (Int32 × Int32 × (Nat → Int32) × (Nat → Int32) × (Nat → Int32) × Int32 × (Nat → Int32) × (Nat → Int32) × (Nat → Int32) × (Nat → Int32) × Int32 × (Nat → Int32) × (Nat → Int32) × Int32 × Int32 × (Nat → Int32) × (Nat → Int32) × Int32 × Int32 × (Nat → Int32) × (Nat → Int32) × (Nat → Int32) × (Nat → Int32) × (Nat → Int32) × Int32 × (Nat → Int32) × (Nat → Int32)) :=
if c_rules ≤ v98 then (k96 v97 v99 v100 v101 v102) else ((ag c_lefts 24 v98).bind fun x104 =>
jn5 (fun (v105 : Int32) (v106 : (Nat → Int32)) (v107 : (Nat → Int32)) (v108 : (Nat → Int32)) (v109 : (Nat → Int32)) => lt_ (v98 + 1) fun x110 =>
rc103 v105 x110 v106 v107 v108 v109) fun k111 =>
if x104 = p1 then ((fX12_isRecursive c_lefts v99 v100 v98 p1).bind fun x112 =>
if x112 = 0 then (bd2 (fX12_puts v99 v100 v98 ((10 : Int32) + x6)) fun o126 o127 =>
k111 v97 o126 o127 v101 v102) else ((ag v99 24 v98).bind fun x113 =>
(as_ v102 24 v97 (x113 - (1 : Int32))).bind fun f114 =>
jn_ (fun (v115 : (Nat → Int32)) => lt_ (v97 + 1) fun x116 =>
k111 x116 v99 v100 v115 f114) fun k117 =>
itr2 (bX12_removeLeftRecursion_293 v97 v98 v99 v100 k117) N 1 v101)) else (k111 v97 v99 v100 v101 v102))
def bX12_removeLeftRecursion_22 (p1 : Int32) (c_rules : Int32) (c_lefts : (Nat → Int32)) (c_sizes : (Nat → Int32)) (c_rights : (Nat → Int32)) (k153 : (Int32 → Int32 → Int32 → Int32 → Option (Int32 × Int32 × (Nat → Int32) × (Nat → Int32) × (Nat → Int32) × Int32 × (Nat → Int32) × (Nat → Int32) × (Nat → Int32) × (Nat → Int32) × Int32 × (Nat → Int32) × (Nat → Int32) × Int32 × Int32 × (Nat → Int32) × (Nat → Int32) × Int32 × Int32 × (Nat → Int32) × (Nat → Int32) × (Nat → Int32) × (Nat → Int32) × (Nat → Int32) × Int32 × (Nat → Int32) × (Nat → Int32)))) (rc159 : Int32 → Int32 → Int32 → Int32 → Int32 → Option (Int32 × Int32 × (Nat → Int32) × (Nat → Int32) × (Nat → Int32) × Int32 × (Nat → Int32) × (Nat → Int32) × (Nat → Int32) × (Nat → Int32) × Int32 × (Nat → Int32) × (Nat → Int32) × Int32 × Int32 × (Nat → Int32) × (Nat → Int32) × Int32 × Int32 × (Nat → Int32) × (Nat → Int32) × (Nat → Int32) × (Nat → Int32) × (Nat → Int32) × Int32 × (Nat → Int32) × (Nat → Int32))) (v154 : Int32) (v155 : Int32) (v156 : Int32) (v157 : Int32) (v158 : Int32) : Option (Int32 × Int32 × (Nat → Int32) × (Nat → Int32) × (Nat → Int32) × Int32 × (Nat → Int32) × (Nat → Int32) × (Nat → Int32) × (Nat → Int32) × Int32 × (Nat → Int32) × (Nat → Int32) × Int32 × Int32 × (Nat → Int32) × (Nat → Int32) × Int32 × Int32 × (Nat → Int32) × (Nat → Int32) × (Nat → Int32) × (Nat → Int32) × (Nat → Int32) × Int32 × (Nat → Int32) × (Nat → Int32)) :=
if c_rules ≤ v158 then (k153 v154 v155 v156 v157) else ((ag c_lefts 24 v158).bind fun x160 =>
jn4 (fun (v161 : Int32) (v162 : Int32) (v163 : Int32) (v164 : Int32) => lt_ (v158 + 1) fun x165 =>
rc159 v161 v162 v163 v164 x165) fun k166 =>
if x160 = p1 then (lt_ (v155 + 1) fun x167 =>
(fX12_isRecursive c_lefts c_sizes c_rights v158 p1).bind fun x168 =>
if x168 = 0 then ((ag c_sizes 24 v158).bind fun x169 =>
if x169 = 5 then (if 0 ≤ v157 then (k166 v154 x167 v156 v157) else (k166 v154 x167 v156 v158)) else (k166 v154 x167 v156 v157)) else (lt_ (v154 + 1) fun x170 =>
(ag c_sizes 24 v158).bind fun x171 =>
jn_ (fun (v172 : Int32) => k166 x170 x167 v172 v157) fun k173 =>
if x171 = 1 then (k173 v158) else (k173 v156))) else (k166 v154 v155 v156 v157))
def fX12_removeLeftRecursion (N : Nat) (c_rules : Int32) (c_lefts : (Nat → Int32)) (c_sizes : (Nat → Int32)) (c_rights : (Nat → Int32)) (c_edits : Int32) (c_pastRules : (Nat → Int32)) (c_pastLefts : (Nat → Int32)) (c_pastSizes : (Nat → Int32)) (c_pastRights : (Nat → Int32)) (c_levels : Int32) (c_codes : (Nat → Int32)) (c_details : (Nat → Int32)) (c_isWorked : Int32) (c_empties : Int32) (c_firsts : (Nat → Int32)) (c_follows : (Nat → Int32)) (c_isKept : Int32) (c_keptEmpties : Int32) (c_keptFirsts : (Nat → Int32)) (c_keptFollows : (Nat → Int32)) (c_strings : (Nat → Int32)) (c_longs : (Nat → Int32)) (c_trial : (Nat → Int32)) (c_trialLong : Int32) (c_moved : (Nat → Int32)) (c_movedSizes : (Nat → Int32)) (p1 : Int32) : Option (Int32 × Int32 × (Nat → Int32) × (Nat → Int32) × (Nat → Int32) × Int32 × (Nat → Int32) × (Nat → Int32) × (Nat → Int32) × (Nat → Int32) × Int32 × (Nat → Int32) × (Nat → Int32) × Int32 × Int32 × (Nat → Int32) × (Nat → Int32) × Int32 × Int32 × (Nat → Int32) × (Nat → Int32) × (Nat → Int32) × (Nat → Int32) × (Nat → Int32) × Int32 × (Nat → Int32) × (Nat → Int32)) :=
(fX12_isName p1).bind fun x1 =>
if x1 = 0 then (some ((-1), c_rules, c_lefts, c_sizes, c_rights, c_edits, c_pastRules, c_pastLefts, c_pastSizes, c_pastRights, c_levels, c_codes, c_details, c_isWorked, c_empties, c_firsts, c_follows, c_isKept, c_keptEmpties, c_keptFirsts, c_keptFollows, c_strings, c_longs, c_trial, c_trialLong, c_moved, c_movedSizes)) else (jn4 (fun (v2 : Int32) (v3 : Int32) (v4 : Int32) (v5 : Int32) => if v2 = 0 then (some ((-2), c_rules, c_lefts, c_sizes, c_rights, c_edits, c_pastRules, c_pastLefts, c_pastSizes, c_pastRights, c_levels, c_codes, c_details, c_isWorked, c_empties, c_firsts, c_follows, c_isKept, c_keptEmpties, c_keptFirsts, c_keptFollows, c_strings, c_longs, c_trial, c_trialLong, c_moved, c_movedSizes)) else (if v4 < 0 then (if v2 = v3 then (bd4 (fX12_refuses c_levels c_codes c_details p1 19 v3 (-5)) fun o148 o145 o146 o147 =>
some (o148, c_rules, c_lefts, c_sizes, c_rights, c_edits, c_pastRules, c_pastLefts, c_pastSizes, c_pastRights, o145, o146, o147, c_isWorked, c_empties, c_firsts, c_follows, c_isKept, c_keptEmpties, c_keptFirsts, c_keptFollows, c_strings, c_longs, c_trial, c_trialLong, c_moved, c_movedSizes)) else (if v5 < 0 then ((fX12_unused N c_rules c_lefts c_sizes c_rights p1).bind fun x6 =>
if 0 ≤ x6 then (if (c_rules + (1 : Int32)) ≤ 24 then (bd17 (fX12_edits N c_rules c_lefts c_sizes c_rights c_edits c_pastRules c_pastLefts c_pastSizes c_pastRights c_isWorked c_empties c_firsts c_follows c_isKept c_keptEmpties c_keptFirsts c_keptFollows c_strings c_longs c_trial c_trialLong) fun o7 o8 o9 o10 o11 o12 o13 o14 o15 o16 o17 o18 o19 o20 o21 o22 o23 =>
jn5 (fun (v24 : Int32) (v25 : (Nat → Int32)) (v26 : (Nat → Int32)) (v27 : (Nat → Int32)) (v28 : (Nat → Int32)) => lt_ (c_rules - (1 : Int32)) fun x29 =>
jn4 (fun (v30 : Int32) (v31 : (Nat → Int32)) (v32 : (Nat → Int32)) (v33 : (Nat → Int32)) => jn4 (fun (v34 : Int32) (v35 : (Nat → Int32)) (v36 : (Nat → Int32)) (v37 : (Nat → Int32)) => bd4 (fX12_opens v34 v35 v36 x6) fun o41 o38 o39 o40 =>
some (x6, o38, o39, o40, v37, o7, o8, o9, o10, o11, c_levels, c_codes, c_details, o12, o13, o14, o15, o16, o17, o18, o19, o20, o21, o22, o23, v27, v28)) fun k42 =>
itr5 (bX12_removeLeftRecursion_380 N x6 v24 v27 v28 k42) N 0 v30 v31 v32 v33) fun k74 =>
itr5 (bX12_removeLeftRecursion_350 N p1 k74) N x29 c_rules c_lefts v25 v26) fun k96 =>
itr6 (bX12_removeLeftRecursion_227 N p1 c_rules c_lefts x6 k96) N 0 0 c_sizes c_rights c_moved c_movedSizes) else (bd4 (fX12_refuses c_levels c_codes c_details p1 17 (c_rules + (1 : Int32)) (-3)) fun o136 o133 o134 o135 =>
some (o136, c_rules, c_lefts, c_sizes, c_rights, c_edits, c_pastRules, c_pastLefts, c_pastSizes, c_pastRights, o133, o134, o135, c_isWorked, c_empties, c_firsts, c_follows, c_isKept, c_keptEmpties, c_keptFirsts, c_keptFollows, c_strings, c_longs, c_trial, c_trialLong, c_moved, c_movedSizes))) else (bd4 (fX12_refuses c_levels c_codes c_details p1 16 0 (-3)) fun o140 o137 o138 o139 =>
some (o140, c_rules, c_lefts, c_sizes, c_rights, c_edits, c_pastRules, c_pastLefts, c_pastSizes, c_pastRights, o137, o138, o139, c_isWorked, c_empties, c_firsts, c_follows, c_isKept, c_keptEmpties, c_keptFirsts, c_keptFollows, c_strings, c_longs, c_trial, c_trialLong, c_moved, c_movedSizes))) else (bd4 (fX12_refuses c_levels c_codes c_details p1 20 v5 (-5)) fun o144 o141 o142 o143 =>
some (o144, c_rules, c_lefts, c_sizes, c_rights, c_edits, c_pastRules, c_pastLefts, c_pastSizes, c_pastRights, o141, o142, o143, c_isWorked, c_empties, c_firsts, c_follows, c_isKept, c_keptEmpties, c_keptFirsts, c_keptFollows, c_strings, c_longs, c_trial, c_trialLong, c_moved, c_movedSizes)))) else (bd4 (fX12_refuses c_levels c_codes c_details p1 18 v4 (-5)) fun o152 o149 o150 o151 =>
some (o152, c_rules, c_lefts, c_sizes, c_rights, c_edits, c_pastRules, c_pastLefts, c_pastSizes, c_pastRights, o149, o150, o151, c_isWorked, c_empties, c_firsts, c_follows, c_isKept, c_keptEmpties, c_keptFirsts, c_keptFollows, c_strings, c_longs, c_trial, c_trialLong, c_moved, c_movedSizes)))) fun k153 =>
itr5 (bX12_removeLeftRecursion_22 p1 c_rules c_lefts c_sizes c_rights k153) N 0 0 (-1) (-1) 0)
def fX12_setSynchronizing (c_synchronizing : (Nat → Int32)) (p1 : Int32) (p2 : Int32) : Option (Int32 × (Nat → Int32)) :=
(fX12_isName p1).bind fun x1 =>
jn_ (fun (v2 : Unit) => some ((-1), c_synchronizing)) fun k3 =>
if x1 = 0 then (k3 ()) else ((fX12_in p2 0 511).bind fun x4 =>
if x4 = 0 then (k3 ()) else ((ag c_synchronizing 8 p1).bind fun x5 =>
(as_ c_synchronizing 8 p1 p2).bind fun f6 =>
some (x5, f6)))
def bX12_appendInput_61 (c_inputLong : Int32) (k5 : ((Nat → Int32) → Option (Int32 × (Nat → Int32) × Int32))) (rc9 : Int32 → Int32 → (Nat → Int32) → Option (Int32 × (Nat → Int32) × Int32)) (v6 : Int32) (v7 : Int32) (v8 : (Nat → Int32)) : Option (Int32 × (Nat → Int32) × Int32) :=
if v7 < 0 then (k5 v8) else ((as_ v8 40 (c_inputLong + v7) ((v6 - v6 / (10 : Int32) * (10 : Int32)) - (1 : Int32))).bind fun f10 =>
lt_ (v6 / (10 : Int32)) fun x11 =>
lt_ (v7 + (-1)) fun x12 =>
rc9 x11 x12 f10)
def bX12_appendInput_10 (c_input : (Nat → Int32)) (c_inputLong : Int32) (k14 : (Int32 → Option (Int32 × (Nat → Int32) × Int32))) (rc17 : Int32 → Int32 → Option (Int32 × (Nat → Int32) × Int32)) (v15 : Int32) (v16 : Int32) : Option (Int32 × (Nat → Int32) × Int32) :=
if v16 ≤ 0 then (k14 v15) else ((fX12_in (v16 - v16 / (10 : Int32) * (10 : Int32)) 1 8).bind fun x18 =>
if x18 = 0 then (some ((-1), c_input, c_inputLong)) else (lt_ (v15 + 1) fun x19 =>
lt_ (v16 / (10 : Int32)) fun x20 =>
rc17 x19 x20))
def fX12_appendInput (N : Nat) (c_input : (Nat → Int32)) (c_inputLong : Int32) (p1 : Int32) : Option (Int32 × (Nat → Int32) × Int32) :=
if 0 < p1 then (jn_ (fun (v1 : Int32) => if (c_inputLong + v1) ≤ 40 then (lt_ (v1 - (1 : Int32)) fun x2 =>
jn_ (fun (v3 : (Nat → Int32)) => lt_ (c_inputLong + v1) fun x4 =>
some (x4, v3, x4)) fun k5 =>
itr3 (bX12_appendInput_61 c_inputLong k5) N p1 x2 c_input) else (some ((-3), c_input, c_inputLong))) fun k14 =>
itr2 (bX12_appendInput_10 c_input c_inputLong k14) N 0 p1) else (some ((-1), c_input, c_inputLong))
def fX12_clearInput (c_inputLong : Int32) : Option (Int32 × Int32) :=
some (c_inputLong, 0)
def fX12_inputTerminal (c_input : (Nat → Int32)) (c_inputLong : Int32) (p1 : Int32) : Option (Int32) :=
(fX12_in p1 0 (c_inputLong - (1 : Int32))).bind fun x1 =>
jn_ (fun (v2 : Int32) => some v2) fun k3 =>
if x1 = 0 then (k3 (-2)) else ((ag c_input 40 p1).bind fun x4 =>
k3 x4)
def fX12_starts (N : Nat) (c_rules : Int32) (c_lefts : (Nat → Int32)) (c_sizes : (Nat → Int32)) (c_rights : (Nat → Int32)) (c_isWorked : Int32) (c_empties : Int32) (c_firsts : (Nat → Int32)) (c_follows : (Nat → Int32)) (c_strings : (Nat → Int32)) (c_longs : (Nat → Int32)) (c_trial : (Nat → Int32)) (c_trialLong : Int32) (c_stack : (Nat → Int32)) (c_stackParents : (Nat → Int32)) (c_top : Int32) (c_at : Int32) (c_steps : Int32) (c_traced : Int32) (c_nodes : Int32) (c_made : Int32) : Option (Int32 × Int32 × (Nat → Int32) × (Nat → Int32) × (Nat → Int32) × (Nat → Int32) × (Nat → Int32) × Int32 × (Nat → Int32) × (Nat → Int32) × Int32 × Int32 × Int32 × Int32 × Int32 × Int32) :=
bd8 (fX12_works N c_rules c_lefts c_sizes c_rights c_isWorked c_empties c_firsts c_follows c_strings c_longs c_trial c_trialLong) fun o1 o2 o3 o4 o5 o6 o7 o8 =>
(as_ c_stack 66 0 10).bind fun f9 =>
(as_ c_stackParents 66 0 (-1)).bind fun f10 =>
some (o1, o2, o3, o4, o5, o6, o7, o8, f9, f10, 1, 0, 0, 0, 0, 0)
def fX12_token (c_input : (Nat → Int32)) (c_inputLong : Int32) (c_at : Int32) : Option (Int32) :=
jn_ (fun (v1 : Int32) => some v1) fun k2 =>
if c_inputLong ≤ c_at then (k2 8) else ((ag c_input 40 c_at).bind fun x3 =>
k2 x3)
def bX12_goes_171 (c_rights : (Nat → Int32)) (c_at : Int32) (v3 : Int32) (x7 : Int32) (k16 : ((Nat → Int32) → (Nat → Int32) → Int32 → Int32 → Int32 → (Nat → Int32) → Option (Int32 × (Nat → Int32) × (Nat → Int32) × Int32 × Int32 × Int32 × Int32 × (Nat → Int32) × Int32 × (Nat → Int32) × (Nat → Int32)))) (f17 : (Nat → Int32)) (x18 : Int32) (rc25 : Int32 → (Nat → Int32) → (Nat → Int32) → Int32 → Option (Int32 × (Nat → Int32) × (Nat → Int32) × Int32 × Int32 × Int32 × Int32 × (Nat → Int32) × Int32 × (Nat → Int32) × (Nat → Int32))) (v21 : Int32) (v22 : (Nat → Int32)) (v23 : (Nat → Int32)) (v24 : Int32) : Option (Int32 × (Nat → Int32) × (Nat → Int32) × Int32 × Int32 × Int32 × Int32 × (Nat → Int32) × Int32 × (Nat → Int32) × (Nat → Int32)) :=
if v21 < 0 then (k16 v22 v23 v24 c_at x18 f17) else ((fX12_symbol c_rights v3 v21).bind fun x26 =>
(as_ v22 66 v24 x26).bind fun f27 =>
(as_ v23 66 v24 (x7 - (1 : Int32))).bind fun f28 =>
lt_ (v24 + (1 : Int32)) fun x29 =>
lt_ (v21 + (-1)) fun x30 =>
rc25 x30 f27 f28 x29)
def fX12_goes (N : Nat) (c_rules : Int32) (c_lefts : (Nat → Int32)) (c_sizes : (Nat → Int32)) (c_rights : (Nat → Int32)) (c_empties : Int32) (c_firsts : (Nat → Int32)) (c_follows : (Nat → Int32)) (c_input : (Nat → Int32)) (c_inputLong : Int32) (c_stack : (Nat → Int32)) (c_stackParents : (Nat → Int32)) (c_top : Int32) (c_at : Int32) (c_steps : Int32) (c_traced : Int32) (c_traces : (Nat → Int32)) (c_made : Int32) (c_nodeSymbols : (Nat → Int32)) (c_nodeParents : (Nat → Int32)) : Option (Int32 × (Nat → Int32) × (Nat → Int32) × Int32 × Int32 × Int32 × Int32 × (Nat → Int32) × Int32 × (Nat → Int32) × (Nat → Int32)) :=
if c_top = 0 then (some (0, c_stack, c_stackParents, c_top, c_at, c_steps, c_traced, c_traces, c_made, c_nodeSymbols, c_nodeParents)) else ((ag c_stack 66 (c_top - (1 : Int32))).bind fun x1 =>
(ag c_stackParents 66 (c_top - (1 : Int32))).bind fun x2 =>
jn_ (fun (v3 : Int32) => jn_ (fun (v4 : Unit) => (as_ c_nodeSymbols 300 c_made x1).bind fun f5 =>
(as_ c_nodeParents 300 c_made x2).bind fun f6 =>
lt_ (c_made + (1 : Int32)) fun x7 =>
lt_ (c_top - (1 : Int32)) fun x8 =>
jn6 (fun (v9 : (Nat → Int32)) (v10 : (Nat → Int32)) (v11 : Int32) (v12 : Int32) (v13 : Int32) (v14 : (Nat → Int32)) => lt_ (c_steps + (1 : Int32)) fun x15 =>
some (1, v9, v10, v11, v12, x15, v13, v14, x7, f5, f6)) fun k16 =>
if 10 ≤ x1 then ((as_ c_traces 300 c_traced v3).bind fun f17 =>
lt_ (c_traced + (1 : Int32)) fun x18 =>
(ag c_sizes 24 v3).bind fun x19 =>
lt_ (x19 - (1 : Int32)) fun x20 =>
itr4 (bX12_goes_171 c_rights c_at v3 x7 k16 f17 x18) N x20 c_stack c_stackParents x8) else (lt_ (c_at + (1 : Int32)) fun x37 =>
k16 c_stack c_stackParents x8 x37 c_traced c_traces)) fun k38 =>
jn_ (fun (v39 : Unit) => some (0, c_stack, c_stackParents, c_top, c_at, c_steps, c_traced, c_traces, c_made, c_nodeSymbols, c_nodeParents)) fun k40 =>
if 10 ≤ x1 then (if v3 = (-2) then (k40 ()) else (k38 ())) else ((fX12_token c_input c_inputLong c_at).bind fun x41 =>
if x1 = x41 then (k38 ()) else (k40 ()))) fun k42 =>
if x1 < 10 then (k42 (-2)) else ((fX12_token c_input c_inputLong c_at).bind fun x43 =>
(fX12_entry N c_rules c_lefts c_sizes c_rights c_empties c_firsts c_follows (x1 - (10 : Int32)) x43).bind fun x44 =>
k42 x44))
def fX12_isDone (c_input : (Nat → Int32)) (c_inputLong : Int32) (c_top : Int32) (c_at : Int32) : Option (Int32) :=
jn_ (fun (v1 : Int32) => gz v1 (some v1)) fun k2 =>
jn_ (fun (v3 : Unit) => k2 0) fun k4 =>
if c_top = 0 then ((fX12_token c_input c_inputLong c_at).bind fun x5 =>
if x5 = 8 then (k2 1) else (k4 ())) else (k4 ())
def bX12_entries_4 (N : Nat) (p1 : Int32) (c_rules : Int32) (c_lefts : (Nat → Int32)) (c_sizes : (Nat → Int32)) (c_rights : (Nat → Int32)) (c_empties : Int32) (c_firsts : (Nat → Int32)) (c_follows : (Nat → Int32)) (k2 : (Int32 → Option (Int32))) (rc5 : Int32 → Int32 → Option (Int32)) (v3 : Int32) (v4 : Int32) : Option (Int32) :=
if 8 < v4 then (k2 v3) else ((fX12_entry N c_rules c_lefts c_sizes c_rights c_empties c_firsts c_follows p1 v4).bind fun x6 =>
jn_ (fun (v7 : Int32) => lt_ (v3 + v7) fun x8 =>
lt_ (v4 + 1) fun x9 =>
rc5 x8 x9) fun k10 =>
if x6 = (-2) then (k10 0) else (k10 1))
def fX12_entries (N : Nat) (c_rules : Int32) (c_lefts : (Nat → Int32)) (c_sizes : (Nat → Int32)) (c_rights : (Nat → Int32)) (c_empties : Int32) (c_firsts : (Nat → Int32)) (c_follows : (Nat → Int32)) (p1 : Int32) : Option (Int32) :=
jn_ (fun (v1 : Int32) => some v1) fun k2 =>
itr2 (bX12_entries_4 N p1 c_rules c_lefts c_sizes c_rights c_empties c_firsts c_follows k2) N 0 0
def bX12_hasRules_2 (p1 : Int32) (c_rules : Int32) (c_lefts : (Nat → Int32)) (k2 : (Unit → Option (Int32))) (rc4 : Int32 → Option (Int32)) (v3 : Int32) : Option (Int32) :=
if c_rules ≤ v3 then (k2 ()) else ((ag c_lefts 24 v3).bind fun x5 =>
if x5 = p1 then (some 1) else (lt_ (v3 + 1) fun x6 =>
rc4 x6))
def fX12_hasRules (N : Nat) (c_rules : Int32) (c_lefts : (Nat → Int32)) (p1 : Int32) : Option (Int32) :=
jn_ (fun (v1 : Unit) => some 0) fun k2 =>
itr (bX12_hasRules_2 p1 c_rules c_lefts k2) N 0
def fX12_stops (c_levels : Int32) (c_codes : (Nat → Int32)) (c_details : (Nat → Int32)) (c_at : Int32) (c_steps : Int32) : Option (Int32 × Int32 × (Nat → Int32) × (Nat → Int32)) :=
bd3 (fX12_tells c_levels c_codes c_details 0 1 c_at) fun o1 o2 o3 =>
bd3 (fX12_tells o1 o2 o3 1 7 c_steps) fun o4 o5 o6 =>
some ((-6), o4, o5, o6)
def fX12_canGo (N : Nat) (c_rules : Int32) (c_lefts : (Nat → Int32)) (c_sizes : (Nat → Int32)) (c_rights : (Nat → Int32)) (c_empties : Int32) (c_firsts : (Nat → Int32)) (c_follows : (Nat → Int32)) (c_input : (Nat → Int32)) (c_inputLong : Int32) (c_stack : (Nat → Int32)) (c_top : Int32) (c_at : Int32) : Option (Int32) :=
if c_top = 0 then (some 0) else ((ag c_stack 66 (c_top - (1 : Int32))).bind fun x1 =>
jn_ (fun (v2 : Int32) => gz v2 (some v2)) fun k3 =>
if 10 ≤ x1 then ((fX12_token c_input c_inputLong c_at).bind fun x4 =>
(fX12_entry N c_rules c_lefts c_sizes c_rights c_empties c_firsts c_follows (x1 - (10 : Int32)) x4).bind fun x5 =>
if x5 = (-2) then (k3 0) else (k3 1)) else ((fX12_token c_input c_inputLong c_at).bind fun x6 =>
if x1 = x6 then (k3 1) else (k3 0)))
def bX12_parse_4 (N : Nat) (c_rules : Int32) (c_lefts : (Nat → Int32)) (c_sizes : (Nat → Int32)) (c_rights : (Nat → Int32)) (c_levels : Int32) (c_codes : (Nat → Int32)) (c_details : (Nat → Int32)) (c_input : (Nat → Int32)) (c_inputLong : Int32) (o1 : Int32) (o2 : Int32) (o3 : (Nat → Int32)) (o4 : (Nat → Int32)) (o5 : (Nat → Int32)) (o6 : (Nat → Int32)) (o7 : (Nat → Int32)) (o8 : Int32) (o15 : Int32) (k27 : ((Nat → Int32) → (Nat → Int32) → Int32 → Int32 → Int32 → Int32 → (Nat → Int32) → Int32 → (Nat → Int32) → (Nat → Int32) → Option (Int32 × Int32 × (Nat → Int32) × (Nat → Int32) × Int32 × Int32 × (Nat → Int32) × (Nat → Int32) × (Nat → Int32) × (Nat → Int32) × (Nat → Int32) × Int32 × (Nat → Int32) × (Nat → Int32) × Int32 × Int32 × Int32 × Int32 × (Nat → Int32) × Int32 × Int32 × (Nat → Int32) × (Nat → Int32)))) (k66 : ((Nat → Int32) → (Nat → Int32) → Int32 → Int32 → Int32 → Int32 → (Nat → Int32) → Int32 → (Nat → Int32) → (Nat → Int32) → Option (Int32 × Int32 × (Nat → Int32) × (Nat → Int32) × Int32 × Int32 × (Nat → Int32) × (Nat → Int32) × (Nat → Int32) × (Nat → Int32) × (Nat → Int32) × Int32 × (Nat → Int32) × (Nat → Int32) × Int32 × Int32 × Int32 × Int32 × (Nat → Int32) × Int32 × Int32 × (Nat → Int32) × (Nat → Int32)))) (rc77 : (Nat → Int32) → (Nat → Int32) → Int32 → Int32 → Int32 → Int32 → (Nat → Int32) → Int32 → (Nat → Int32) → (Nat → Int32) → Option (Int32 × Int32 × (Nat → Int32) × (Nat → Int32) × Int32 × Int32 × (Nat → Int32) × (Nat → Int32) × (Nat → Int32) × (Nat → Int32) × (Nat → Int32) × Int32 × (Nat → Int32) × (Nat → Int32) × Int32 × Int32 × Int32 × Int32 × (Nat → Int32) × Int32 × Int32 × (Nat → Int32) × (Nat → Int32))) (v67 : (Nat → Int32)) (v68 : (Nat → Int32)) (v69 : Int32) (v70 : Int32) (v71 : Int32) (v72 : Int32) (v73 : (Nat → Int32)) (v74 : Int32) (v75 : (Nat → Int32)) (v76 : (Nat → Int32)) : Option (Int32 × Int32 × (Nat → Int32) × (Nat → Int32) × Int32 × Int32 × (Nat → Int32) × (Nat → Int32) × (Nat → Int32) × (Nat → Int32) × (Nat → Int32) × Int32 × (Nat → Int32) × (Nat → Int32) × Int32 × Int32 × Int32 × Int32 × (Nat → Int32) × Int32 × Int32 × (Nat → Int32) × (Nat → Int32)) :=
(fX12_isDone c_input c_inputLong v69 v70).bind fun x78 =>
if x78 = 0 then ((fX12_canGo N c_rules c_lefts c_sizes c_rights o2 o3 o4 c_input c_inputLong v67 v69 v70).bind fun x79 =>
jn_ (fun (v80 : Unit) => bd11 (fX12_goes N c_rules c_lefts c_sizes c_rights o2 o3 o4 c_input c_inputLong v67 v68 v69 v70 v71 v72 v73 v74 v75 v76) fun o91 o81 o82 o83 o84 o85 o86 o87 o88 o89 o90 =>
if o91 = 0 then (k66 o81 o82 o83 o84 o85 o86 o87 o88 o89 o90) else (if o83 ≤ 60 then (rc77 o81 o82 o83 o84 o85 o86 o87 o88 o89 o90) else (bd4 (fX12_stops c_levels c_codes c_details o84 o85) fun o95 o92 o93 o94 =>
some (o95, o92, o93, o94, o1, o2, o3, o4, o5, o6, o7, o8, o81, o82, o83, o84, o85, o86, o87, o15, o88, o89, o90)))) fun k96 =>
if x79 = 0 then (k96 ()) else (if v71 = 300 then (bd4 (fX12_stops c_levels c_codes c_details v70 v71) fun o100 o97 o98 o99 =>
some (o100, o97, o98, o99, o1, o2, o3, o4, o5, o6, o7, o8, v67, v68, v69, v70, v71, v72, v73, o15, v74, v75, v76)) else (k96 ()))) else (k27 v67 v68 v69 v70 v71 v72 v73 v74 v75 v76)
def fX12_parse (N : Nat) (c_rules : Int32) (c_lefts : (Nat → Int32)) (c_sizes : (Nat → Int32)) (c_rights : (Nat → Int32)) (c_levels : Int32) (c_codes : (Nat → Int32)) (c_details : (Nat → Int32)) (c_isWorked : Int32) (c_empties : Int32) (c_firsts : (Nat → Int32)) (c_follows : (Nat → Int32)) (c_strings : (Nat → Int32)) (c_longs : (Nat → Int32)) (c_trial : (Nat → Int32)) (c_trialLong : Int32) (c_input : (Nat → Int32)) (c_inputLong : Int32) (c_stack : (Nat → Int32)) (c_stackParents : (Nat → Int32)) (c_top : Int32) (c_at : Int32) (c_steps : Int32) (c_traced : Int32) (c_traces : (Nat → Int32)) (c_nodes : Int32) (c_made : Int32) (c_nodeSymbols : (Nat → Int32)) (c_nodeParents : (Nat → Int32)) : Option (Int32 × Int32 × (Nat → Int32) × (Nat → Int32) × Int32 × Int32 × (Nat → Int32) × (Nat → Int32) × (Nat → Int32) × (Nat → Int32) × (Nat → Int32) × Int32 × (Nat → Int32) × (Nat → Int32) × Int32 × Int32 × Int32 × Int32 × (Nat → Int32) × Int32 × Int32 × (Nat → Int32) × (Nat → Int32)) :=
bd16 (fX12_starts N c_rules c_lefts c_sizes c_rights c_isWorked c_empties c_firsts c_follows c_strings c_longs c_trial c_trialLong c_stack c_stackParents c_top c_at c_steps c_traced c_nodes c_made) fun o1 o2 o3 o4 o5 o6 o7 o8 o9 o10 o11 o12 o13 o14 o15 o16 =>
jn10 (fun (v17 : (Nat → Int32)) (v18 : (Nat → Int32)) (v19 : Int32) (v20 : Int32) (v21 : Int32) (v22 : Int32) (v23 : (Nat → Int32)) (v24 : Int32) (v25 : (Nat → Int32)) (v26 : (Nat → Int32)) => some (v21, c_levels, c_codes, c_details, o1, o2, o3, o4, o5, o6, o7, o8, v17, v18, v19, v20, v21, v22, v23, v24, v24, v25, v26)) fun k27 =>
jn10 (fun (v28 : (Nat → Int32)) (v29 : (Nat → Int32)) (v30 : Int32) (v31 : Int32) (v32 : Int32) (v33 : Int32) (v34 : (Nat → Int32)) (v35 : Int32) (v36 : (Nat → Int32)) (v37 : (Nat → Int32)) => bd3 (fX12_tells c_levels c_codes c_details 0 1 v31) fun o38 o39 o40 =>
jn3 (fun (v41 : Int32) (v42 : (Nat → Int32)) (v43 : (Nat → Int32)) => some ((-5), v41, v42, v43, o1, o2, o3, o4, o5, o6, o7, o8, v28, v29, v30, v31, v32, v33, v34, o15, v35, v36, v37)) fun k44 =>
if v30 = 0 then (bd3 (fX12_tells o38 o39 o40 1 4 (c_inputLong - v31)) fun o63 o64 o65 =>
k44 o63 o64 o65) else ((ag v28 66 (v30 - (1 : Int32))).bind fun x45 =>
if 10 ≤ x45 then ((ag v28 66 (v30 - (1 : Int32))).bind fun x46 =>
lt_ (x46 - (10 : Int32)) fun x47 =>
bd3 (fX12_tells o38 o39 o40 1 3 x47) fun o48 o49 o50 =>
(fX12_hasRules N c_rules c_lefts x47).bind fun x51 =>
if x51 = 0 then (bd3 (fX12_tells o48 o49 o50 2 5 x47) fun o52 o53 o54 =>
k44 o52 o53 o54) else ((fX12_entries N c_rules c_lefts c_sizes c_rights o2 o3 o4 x47).bind fun x55 =>
bd3 (fX12_tells o48 o49 o50 2 6 x55) fun o56 o57 o58 =>
k44 o56 o57 o58)) else ((ag v28 66 (v30 - (1 : Int32))).bind fun x59 =>
bd3 (fX12_tells o38 o39 o40 1 2 x59) fun o60 o61 o62 =>
k44 o60 o61 o62))) fun k66 =>
itr10 (bX12_parse_4 N c_rules c_lefts c_sizes c_rights c_levels c_codes c_details c_input c_inputLong o1 o2 o3 o4 o5 o6 o7 o8 o15 k27 k66) N o9 o10 o11 o12 o13 o14 c_traces o16 c_nodeSymbols c_nodeParents
def fX12_errs (c_stack : (Nat → Int32)) (c_top : Int32) (c_at : Int32) (c_steps : Int32) (c_errors : Int32) (c_errorAts : (Nat → Int32)) (c_errorKinds : (Nat → Int32)) (c_errorTops : (Nat → Int32)) (p1 : Int32) : Option (Int32 × Int32 × (Nat → Int32) × (Nat → Int32) × (Nat → Int32)) :=
(as_ c_errorAts 300 c_errors c_at).bind fun f1 =>
(as_ c_errorKinds 300 c_errors p1).bind fun f2 =>
jn_ (fun (v3 : Int32) => (as_ c_errorTops 300 c_errors v3).bind fun f4 =>
lt_ (c_errors + (1 : Int32)) fun x5 =>
lt_ (c_steps + (1 : Int32)) fun x6 =>
some (x6, x5, f1, f2, f4)) fun k7 =>
if p1 = 3 then (k7 (-1)) else ((ag c_stack 66 (c_top - (1 : Int32))).bind fun x8 =>
k7 x8)
def bX12_recover_9 (N : Nat) (c_rules : Int32) (c_lefts : (Nat → Int32)) (c_sizes : (Nat → Int32)) (c_rights : (Nat → Int32)) (c_synchronizing : (Nat → Int32)) (c_input : (Nat → Int32)) (c_inputLong : Int32) (o1 : Int32) (o2 : Int32) (o3 : (Nat → Int32)) (o4 : (Nat → Int32)) (o5 : (Nat → Int32)) (o6 : (Nat → Int32)) (o7 : (Nat → Int32)) (o8 : Int32) (o15 : Int32) (k31 : ((Nat → Int32) → (Nat → Int32) → Int32 → Int32 → Int32 → Int32 → (Nat → Int32) → Int32 → (Nat → Int32) → (Nat → Int32) → Int32 → (Nat → Int32) → (Nat → Int32) → (Nat → Int32) → Option (Int32 × Int32 × Int32 × (Nat → Int32) × (Nat → Int32) × (Nat → Int32) × (Nat → Int32) × (Nat → Int32) × Int32 × (Nat → Int32) × (Nat → Int32) × Int32 × Int32 × Int32 × Int32 × (Nat → Int32) × Int32 × Int32 × (Nat → Int32) × (Nat → Int32) × Int32 × (Nat → Int32) × (Nat → Int32) × (Nat → Int32)))) (rc46 : (Nat → Int32) → (Nat → Int32) → Int32 → Int32 → Int32 → Int32 → (Nat → Int32) → Int32 → (Nat → Int32) → (Nat → Int32) → Int32 → (Nat → Int32) → (Nat → Int32) → (Nat → Int32) → Option (Int32 × Int32 × Int32 × (Nat → Int32) × (Nat → Int32) × (Nat → Int32) × (Nat → Int32) × (Nat → Int32) × Int32 × (Nat → Int32) × (Nat → Int32) × Int32 × Int32 × Int32 × Int32 × (Nat → Int32) × Int32 × Int32 × (Nat → Int32) × (Nat → Int32) × Int32 × (Nat → Int32) × (Nat → Int32) × (Nat → Int32))) (v32 : (Nat → Int32)) (v33 : (Nat → Int32)) (v34 : Int32) (v35 : Int32) (v36 : Int32) (v37 : Int32) (v38 : (Nat → Int32)) (v39 : Int32) (v40 : (Nat → Int32)) (v41 : (Nat → Int32)) (v42 : Int32) (v43 : (Nat → Int32)) (v44 : (Nat → Int32)) (v45 : (Nat → Int32)) : Option (Int32 × Int32 × Int32 × (Nat → Int32) × (Nat → Int32) × (Nat → Int32) × (Nat → Int32) × (Nat → Int32) × Int32 × (Nat → Int32) × (Nat → Int32) × Int32 × Int32 × Int32 × Int32 × (Nat → Int32) × Int32 × Int32 × (Nat → Int32) × (Nat → Int32) × Int32 × (Nat → Int32) × (Nat → Int32) × (Nat → Int32)) :=
(fX12_isDone c_input c_inputLong v34 v35).bind fun x47 =>
if x47 = 0 then (if v36 = 300 then (some ((-6), o1, o2, o3, o4, o5, o6, o7, o8, v32, v33, v34, v35, v36, v37, v38, o15, v39, v40, v41, v42, v43, v44, v45)) else (bd11 (fX12_goes N c_rules c_lefts c_sizes c_rights o2 o3 o4 c_input c_inputLong v32 v33 v34 v35 v36 v37 v38 v39 v40 v41) fun o58 o48 o49 o50 o51 o52 o53 o54 o55 o56 o57 =>
if o58 = 0 then (if o50 = 0 then (bd5 (fX12_errs o48 o50 o51 o52 v42 v43 v44 v45 3) fun o80 o81 o82 o83 o84 =>
rc46 o48 o49 o50 c_inputLong o80 o53 o54 o55 o56 o57 o81 o82 o83 o84) else ((ag o48 66 (o50 - (1 : Int32))).bind fun x59 =>
jn_ (fun (v60 : Int32) => jn_ (fun (v61 : Int32) => bd5 (fX12_errs o48 o50 o51 o52 v42 v43 v44 v45 v61) fun o62 o63 o64 o65 o66 =>
jn2 (fun (v67 : Int32) (v68 : Int32) => rc46 o48 o49 v67 v68 o62 o53 o54 o55 o56 o57 o63 o64 o65 o66) fun k69 =>
if v60 = 0 then (lt_ (o51 + (1 : Int32)) fun x70 =>
k69 o50 x70) else (lt_ (o50 - (1 : Int32)) fun x71 =>
k69 x71 o51)) fun k72 =>
if 10 ≤ x59 then (if v60 = 0 then (k72 2) else (k72 1)) else (k72 0)) fun k73 =>
jn_ (fun (v74 : Unit) => k73 1) fun k75 =>
if x59 < 10 then (k75 ()) else ((fX12_token c_input c_inputLong o51).bind fun x76 =>
if x76 = 8 then (k75 ()) else ((ag o4 8 (x59 - (10 : Int32))).bind fun x77 =>
(ag c_synchronizing 8 (x59 - (10 : Int32))).bind fun x78 =>
(fX12_token c_input c_inputLong o51).bind fun x79 =>
if (((x77 ||| x78) >>> (x79 &&& (31 : Int32))) &&& (1 : Int32)) = 1 then (k75 ()) else (k73 0))))) else (if o50 ≤ 60 then (rc46 o48 o49 o50 o51 o52 o53 o54 o55 o56 o57 v42 v43 v44 v45) else (some ((-6), o1, o2, o3, o4, o5, o6, o7, o8, o48, o49, o50, o51, o52, o53, o54, o15, o55, o56, o57, v42, v43, v44, v45))))) else (k31 v32 v33 v34 v35 v36 v37 v38 v39 v40 v41 v42 v43 v44 v45)
def fX12_recover (N : Nat) (c_rules : Int32) (c_lefts : (Nat → Int32)) (c_sizes : (Nat → Int32)) (c_rights : (Nat → Int32)) (c_isWorked : Int32) (c_empties : Int32) (c_firsts : (Nat → Int32)) (c_follows : (Nat → Int32)) (c_strings : (Nat → Int32)) (c_longs : (Nat → Int32)) (c_trial : (Nat → Int32)) (c_trialLong : Int32) (c_synchronizing : (Nat → Int32)) (c_input : (Nat → Int32)) (c_inputLong : Int32) (c_stack : (Nat → Int32)) (c_stackParents : (Nat → Int32)) (c_top : Int32) (c_at : Int32) (c_steps : Int32) (c_traced : Int32) (c_traces : (Nat → Int32)) (c_nodes : Int32) (c_made : Int32) (c_nodeSymbols : (Nat → Int32)) (c_nodeParents : (Nat → Int32)) (c_errors : Int32) (c_errorAts : (Nat → Int32)) (c_errorKinds : (Nat → Int32)) (c_errorTops : (Nat → Int32)) : Option (Int32 × Int32 × Int32 × (Nat → Int32) × (Nat → Int32) × (Nat → Int32) × (Nat → Int32) × (Nat → Int32) × Int32 × (Nat → Int32) × (Nat → Int32) × Int32 × Int32 × Int32 × Int32 × (Nat → Int32) × Int32 × Int32 × (Nat → Int32) × (Nat → Int32) × Int32 × (Nat → Int32) × (Nat → Int32) × (Nat → Int32)) :=
bd16 (fX12_starts N c_rules c_lefts c_sizes c_rights c_isWorked c_empties c_firsts c_follows c_strings c_longs c_trial c_trialLong c_stack c_stackParents c_top c_at c_steps c_traced c_nodes c_made) fun o1 o2 o3 o4 o5 o6 o7 o8 o9 o10 o11 o12 o13 o14 o15 o16 =>
jn14 (fun (v17 : (Nat → Int32)) (v18 : (Nat → Int32)) (v19 : Int32) (v20 : Int32) (v21 : Int32) (v22 : Int32) (v23 : (Nat → Int32)) (v24 : Int32) (v25 : (Nat → Int32)) (v26 : (Nat → Int32)) (v27 : Int32) (v28 : (Nat → Int32)) (v29 : (Nat → Int32)) (v30 : (Nat → Int32)) => some (v27, o1, o2, o3, o4, o5, o6, o7, o8, v17, v18, v19, v20, v21, v22, v23, o15, v24, v25, v26, v27, v28, v29, v30)) fun k31 =>
itr14 (bX12_recover_9 N c_rules c_lefts c_sizes c_rights c_synchronizing c_input c_inputLong o1 o2 o3 o4 o5 o6 o7 o8 o15 k31) N o9 o10 o11 o12 o13 o14 c_traces o16 c_nodeSymbols c_nodeParents 0 c_errorAts c_errorKinds c_errorTops
def fX12_error (c_errors : Int32) (c_errorAts : (Nat → Int32)) (c_errorKinds : (Nat → Int32)) (c_errorTops : (Nat → Int32)) (p1 : Int32) (p2 : Int32) : Option (Int32) :=
(fX12_in p2 0 2).bind fun x1 =>
if x1 = 0 then (some (-1)) else ((fX12_in p1 0 (c_errors - (1 : Int32))).bind fun x2 =>
jn_ (fun (v3 : Int32) => some v3) fun k4 =>
if x2 = 0 then (k4 (-2)) else (if p2 = 0 then ((ag c_errorAts 300 p1).bind fun x7 =>
k4 x7) else (if p2 = 1 then ((ag c_errorKinds 300 p1).bind fun x6 =>
k4 x6) else ((ag c_errorTops 300 p1).bind fun x5 =>
k4 x5))))
def fX12_traceLength (c_traced : Int32) : Option (Int32) :=
some c_traced
def fX12_trace (c_traced : Int32) (c_traces : (Nat → Int32)) (p1 : Int32) : Option (Int32) :=
(fX12_in p1 0 (c_traced - (1 : Int32))).bind fun x1 =>
jn_ (fun (v2 : Int32) => some v2) fun k3 =>
if x1 = 0 then (k3 (-2)) else ((ag c_traces 300 p1).bind fun x4 =>
k3 x4)
def fX12_nodeCount (c_nodes : Int32) : Option (Int32) :=
some c_nodes
def fX12_nodeSymbol (c_nodes : Int32) (c_nodeSymbols : (Nat → Int32)) (p1 : Int32) : Option (Int32) :=
(fX12_in p1 0 (c_nodes - (1 : Int32))).bind fun x1 =>
jn_ (fun (v2 : Int32) => some v2) fun k3 =>
if x1 = 0 then (k3 (-2)) else ((ag c_nodeSymbols 300 p1).bind fun x4 =>
k3 x4)
def fX12_nodeParent (c_nodes : Int32) (c_nodeParents : (Nat → Int32)) (p1 : Int32) : Option (Int32) :=
(fX12_in p1 0 (c_nodes - (1 : Int32))).bind fun x1 =>
jn_ (fun (v2 : Int32) => some v2) fun k3 =>
if x1 = 0 then (k3 (-2)) else ((ag c_nodeParents 300 p1).bind fun x4 =>
k3 x4)
def bX12_nodeHeight_35 (p1 : Int32) (c_nodeParents : (Nat → Int32)) (k14 : (Int32 → Int32 → Option (Int32))) (rc17 : Int32 → Int32 → Option (Int32)) (v15 : Int32) (v16 : Int32) : Option (Int32) :=
if v15 ≤ p1 then (k14 v15 v16) else ((ag c_nodeParents 300 v15).bind fun x18 =>
lt_ (v16 + 1) fun x19 =>
rc17 x18 x19)
def bX12_nodeHeight_21 (N : Nat) (p1 : Int32) (c_nodes : Int32) (c_nodeParents : (Nat → Int32)) (k3 : (Int32 → Option (Int32))) (rc6 : Int32 → Int32 → Option (Int32)) (v4 : Int32) (v5 : Int32) : Option (Int32) :=
if c_nodes ≤ v5 then (k3 v4) else (jn2 (fun (v7 : Int32) (v8 : Int32) => jn_ (fun (v9 : Int32) => lt_ (v5 + 1) fun x10 =>
rc6 v9 x10) fun k11 =>
jn_ (fun (v12 : Unit) => k11 v4) fun k13 =>
if v7 = p1 then (if v8 ≤ v4 then (k13 ()) else (k11 v8)) else (k13 ())) fun k14 =>
itr2 (bX12_nodeHeight_35 p1 c_nodeParents k14) N v5 0)
def fX12_nodeHeight (N : Nat) (c_nodes : Int32) (c_nodeParents : (Nat → Int32)) (p1 : Int32) : Option (Int32) :=
(fX12_in p1 0 (c_nodes - (1 : Int32))).bind fun x1 =>
if x1 = 0 then (some (-2)) else (jn_ (fun (v2 : Int32) => some v2) fun k3 =>
itr2 (bX12_nodeHeight_21 N p1 c_nodes c_nodeParents k3) N 0 p1)
def fX12_setWeight (c_weights : (Nat → Int32)) (p1 : Int32) (p2 : Int32) : Option (Int32 × (Nat → Int32)) :=
(fX12_in p1 0 7).bind fun x1 =>
jn_ (fun (v2 : Unit) => some ((-1), c_weights)) fun k3 =>
if x1 = 0 then (k3 ()) else ((fX12_in p2 1 9).bind fun x4 =>
if x4 = 0 then (k3 ()) else ((ag c_weights 8 p1).bind fun x5 =>
(as_ c_weights 8 p1 p2).bind fun f6 =>
some (x5, f6)))
def bX12_weighs_trial_6 (p2 : Int32) (p3 : Int32) (c_trial : (Nat → Int32)) (c_weights : (Nat → Int32)) (k2 : (Int32 → Option (Int32))) (rc5 : Int32 → Int32 → Option (Int32)) (v3 : Int32) (v4 : Int32) : Option (Int32) :=
if p3 ≤ v4 then (k2 v3) else ((ag c_trial 40 (p2 + v4)).bind fun x6 =>
(ag c_weights 8 x6).bind fun x7 =>
lt_ (v3 + x7) fun x8 =>
lt_ (v4 + 1) fun x9 =>
rc5 x8 x9)
def fX12_weighs_trial (N : Nat) (c_trial : (Nat → Int32)) (c_weights : (Nat → Int32)) (p2 : Int32) (p3 : Int32) : Option (Int32) :=
jn_ (fun (v1 : Int32) => some v1) fun k2 =>
itr2 (bX12_weighs_trial_6 p2 p3 c_trial c_weights k2) N 0 0
def bX12_weighs_partly_6 (p2 : Int32) (p3 : Int32) (c_weights : (Nat → Int32)) (c_partly : (Nat → Int32)) (k2 : (Int32 → Option (Int32))) (rc5 : Int32 → Int32 → Option (Int32)) (v3 : Int32) (v4 : Int32) : Option (Int32) :=
if p3 ≤ v4 then (k2 v3) else ((ag c_partly 2160 (p2 + v4)).bind fun x6 =>
(ag c_weights 8 x6).bind fun x7 =>
lt_ (v3 + x7) fun x8 =>
lt_ (v4 + 1) fun x9 =>
rc5 x8 x9)
def fX12_weighs_partly (N : Nat) (c_weights : (Nat → Int32)) (c_partly : (Nat → Int32)) (p2 : Int32) (p3 : Int32) : Option (Int32) :=
jn_ (fun (v1 : Int32) => some v1) fun k2 =>
itr2 (bX12_weighs_partly_6 p2 p3 c_weights c_partly k2) N 0 0
def bX12_isLess_partly_77 (p2 : Int32) (p3 : Int32) (c_trial : (Nat → Int32)) (c_partly : (Nat → Int32)) (k16 : (Int32 → Option (Int32))) (rc18 : Int32 → Option (Int32)) (v17 : Int32) : Option (Int32) :=
if p3 ≤ v17 then (k16 v17) else ((ag c_trial 40 v17).bind fun x19 =>
(ag c_partly 2160 (p2 + v17)).bind fun x20 =>
if x19 = x20 then (lt_ (v17 + 1) fun x21 =>
rc18 x21) else (k16 v17))
def fX12_isLess_partly (N : Nat) (c_trial : (Nat → Int32)) (c_trialLong : Int32) (c_weights : (Nat → Int32)) (c_partly : (Nat → Int32)) (p2 : Int32) (p3 : Int32) : Option (Int32) :=
jn_ (fun (v1 : Unit) => jn_ (fun (v2 : Int32) => gz v2 (some v2)) fun k3 =>
jn_ (fun (v4 : Unit) => k3 1) fun k5 =>
if p3 < 0 then (k5 ()) else (if p3 ≤ c_trialLong then (k3 0) else (k5 ()))) fun k6 =>
if p3 < 0 then (k6 ()) else (if c_trialLong = p3 then ((fX12_weighs_trial N c_trial c_weights 0 c_trialLong).bind fun x7 =>
(fX12_weighs_partly N c_weights c_partly p2 p3).bind fun x8 =>
if x7 = x8 then (jn_ (fun (v9 : Int32) => jn_ (fun (v10 : Int32) => gz v10 (some v10)) fun k11 =>
jn_ (fun (v12 : Unit) => k11 0) fun k13 =>
if p3 ≤ v9 then (k13 ()) else ((ag c_trial 40 v9).bind fun x14 =>
(ag c_partly 2160 (p2 + v9)).bind fun x15 =>
if x15 ≤ x14 then (k13 ()) else (k11 1))) fun k16 =>
itr (bX12_isLess_partly_77 p2 p3 c_trial c_partly k16) N 0) else (jn_ (fun (v23 : Int32) => gz v23 (some v23)) fun k24 =>
if x8 ≤ x7 then (k24 0) else (k24 1))) else (k6 ()))
def bX12_reaches_49 (c_trial : (Nat → Int32)) (c_trialLong : Int32) (x1 : Int32) (k8 : ((Nat → Int32) → Option ((Nat → Int32) × (Nat → Int32)))) (rc11 : Int32 → (Nat → Int32) → Option ((Nat → Int32) × (Nat → Int32))) (v9 : Int32) (v10 : (Nat → Int32)) : Option ((Nat → Int32) × (Nat → Int32)) :=
if c_trialLong ≤ v9 then (k8 v10) else ((ag c_trial 40 v9).bind fun x12 =>
(as_ v10 2160 (((40 : Int32) * x1) + v9) x12).bind fun f13 =>
lt_ (v9 + 1) fun x14 =>
rc11 x14 f13)
def fX12_reaches (N : Nat) (c_trial : (Nat → Int32)) (c_trialLong : Int32) (c_weights : (Nat → Int32)) (c_partly : (Nat → Int32)) (c_partlyLongs : (Nat → Int32)) (p1 : Int32) (p2 : Int32) : Option ((Nat → Int32) × (Nat → Int32)) :=
lt_ (((9 : Int32) * p1) + p2) fun x1 =>
jn_ (fun (v2 : Unit) => some (c_partly, c_partlyLongs)) fun k3 =>
if c_trialLong < 0 then (k3 ()) else ((ag c_partlyLongs 54 x1).bind fun x4 =>
(fX12_isLess_partly N c_trial c_trialLong c_weights c_partly ((40 : Int32) * x1) x4).bind fun x5 =>
if x5 = 0 then (k3 ()) else ((as_ c_partlyLongs 54 x1 c_trialLong).bind fun f6 =>
jn_ (fun (v7 : (Nat → Int32)) => some (v7, f6)) fun k8 =>
itr2 (bX12_reaches_49 c_trial c_trialLong x1 k8) N 0 c_partly))
def bX12_copies_partly_3 (p2 : Int32) (p3 : Int32) (c_partly : (Nat → Int32)) (k3 : ((Nat → Int32) → Int32 → Option ((Nat → Int32) × Int32))) (rc7 : Int32 → (Nat → Int32) → Int32 → Option ((Nat → Int32) × Int32)) (v4 : Int32) (v5 : (Nat → Int32)) (v6 : Int32) : Option ((Nat → Int32) × Int32) :=
if p3 ≤ v4 then (k3 v5 v6) else ((ag c_partly 2160 (p2 + v4)).bind fun x8 =>
bd2 (fX12_adds v5 v6 x8) fun o9 o10 =>
lt_ (v4 + 1) fun x11 =>
rc7 x11 o9 o10)
def fX12_copies_partly (N : Nat) (c_trial : (Nat → Int32)) (c_trialLong : Int32) (c_partly : (Nat → Int32)) (p2 : Int32) (p3 : Int32) : Option ((Nat → Int32) × Int32) :=
jn2 (fun (v1 : (Nat → Int32)) (v2 : Int32) => some (v1, v2)) fun k3 =>
itr3 (bX12_copies_partly_3 p2 p3 c_partly k3) N 0 c_trial c_trialLong
def bX12_copies_bests_3 (p2 : Int32) (p3 : Int32) (c_bests : (Nat → Int32)) (k3 : ((Nat → Int32) → Int32 → Option ((Nat → Int32) × Int32))) (rc7 : Int32 → (Nat → Int32) → Int32 → Option ((Nat → Int32) × Int32)) (v4 : Int32) (v5 : (Nat → Int32)) (v6 : Int32) : Option ((Nat → Int32) × Int32) :=
if p3 ≤ v4 then (k3 v5 v6) else ((ag c_bests 25920 (p2 + v4)).bind fun x8 =>
bd2 (fX12_adds v5 v6 x8) fun o9 o10 =>
lt_ (v4 + 1) fun x11 =>
rc7 x11 o9 o10)
def fX12_copies_bests (N : Nat) (c_trial : (Nat → Int32)) (c_trialLong : Int32) (c_bests : (Nat → Int32)) (p2 : Int32) (p3 : Int32) : Option ((Nat → Int32) × Int32) :=
jn2 (fun (v1 : (Nat → Int32)) (v2 : Int32) => some (v1, v2)) fun k3 =>
itr3 (bX12_copies_bests_3 p2 p3 c_bests k3) N 0 c_trial c_trialLong
def bX12_extends1_30 (N : Nat) (p2 : Int32) (p3 : Int32) (c_input : (Nat → Int32)) (c_inputLong : Int32) (c_weights : (Nat → Int32)) (c_bests : (Nat → Int32)) (c_bestLongs : (Nat → Int32)) (x1 : Int32) (x3 : Int32) (k8 : ((Nat → Int32) → Int32 → (Nat → Int32) → (Nat → Int32) → Option ((Nat → Int32) × Int32 × (Nat → Int32) × (Nat → Int32)))) (k13 : ((Nat → Int32) → Int32 → (Nat → Int32) → (Nat → Int32) → Option ((Nat → Int32) × Int32 × (Nat → Int32) × (Nat → Int32)))) (rc19 : Int32 → (Nat → Int32) → Int32 → (Nat → Int32) → (Nat → Int32) → Option ((Nat → Int32) × Int32 × (Nat → Int32) × (Nat → Int32))) (v14 : Int32) (v15 : (Nat → Int32)) (v16 : Int32) (v17 : (Nat → Int32)) (v18 : (Nat → Int32)) : Option ((Nat → Int32) × Int32 × (Nat → Int32) × (Nat → Int32)) :=
if c_inputLong < v14 then (k8 v15 v16 v17 v18) else (jn_ (fun (v20 : Unit) => jn_ (fun (v21 : Int32) => jn4 (fun (v22 : (Nat → Int32)) (v23 : Int32) (v24 : (Nat → Int32)) (v25 : (Nat → Int32)) => lt_ (v14 + 1) fun x26 =>
rc19 x26 v22 v23 v24 v25) fun k27 =>
jn_ (fun (v28 : Unit) => (fX12_tries v16).bind fun o29 =>
(ag v18 54 x1).bind fun x30 =>
bd2 (fX12_copies_partly N v15 o29 v17 ((40 : Int32) * x1) x30) fun o31 o32 =>
jn2 (fun (v33 : (Nat → Int32)) (v34 : Int32) => bd2 (fX12_reaches N v33 v34 c_weights v17 v18 (p2 + (1 : Int32)) v14) fun o35 o36 =>
k27 v33 v34 o35 o36) fun k37 =>
if 10 ≤ x3 then ((ag c_bestLongs 648 v21).bind fun x38 =>
bd2 (fX12_copies_bests N o31 o32 c_bests ((40 : Int32) * v21) x38) fun o39 o40 =>
k37 o39 o40) else (bd2 (fX12_adds o31 o32 x3) fun o41 o42 =>
k37 o41 o42)) fun k43 =>
if x3 < 10 then (k43 ()) else ((ag c_bestLongs 648 v21).bind fun x44 =>
if 0 ≤ x44 then (k43 ()) else (k27 v15 v16 v17 v18))) fun k45 =>
if 10 ≤ x3 then (k45 ((((81 : Int32) * (x3 - (10 : Int32))) + ((9 : Int32) * p3)) + v14)) else (k45 0)) fun k46 =>
if 10 ≤ x3 then (k46 ()) else (if (p3 + (1 : Int32)) < v14 then (k13 v15 v16 v17 v18) else (if v14 = (p3 + (1 : Int32)) then ((ag c_input 40 p3).bind fun x47 =>
if x47 = x3 then (k46 ()) else (k13 v15 v16 v17 v18)) else (k46 ()))))
def fX12_extends1 (N : Nat) (c_rights : (Nat → Int32)) (c_trial : (Nat → Int32)) (c_trialLong : Int32) (c_input : (Nat → Int32)) (c_inputLong : Int32) (c_weights : (Nat → Int32)) (c_bests : (Nat → Int32)) (c_bestLongs : (Nat → Int32)) (c_partly : (Nat → Int32)) (c_partlyLongs : (Nat → Int32)) (p1 : Int32) (p2 : Int32) (p3 : Int32) : Option ((Nat → Int32) × Int32 × (Nat → Int32) × (Nat → Int32)) :=
lt_ (((9 : Int32) * p2) + p3) fun x1 =>
(ag c_partlyLongs 54 x1).bind fun x2 =>
if 0 ≤ x2 then ((fX12_symbol c_rights p1 p2).bind fun x3 =>
jn4 (fun (v4 : (Nat → Int32)) (v5 : Int32) (v6 : (Nat → Int32)) (v7 : (Nat → Int32)) => some (v4, v5, v6, v7)) fun k8 =>
jn4 (fun (v9 : (Nat → Int32)) (v10 : Int32) (v11 : (Nat → Int32)) (v12 : (Nat → Int32)) => some (v9, v10, v11, v12)) fun k13 =>
itr5 (bX12_extends1_30 N p2 p3 c_input c_inputLong c_weights c_bests c_bestLongs x1 x3 k8 k13) N p3 c_trial c_trialLong c_partly c_partlyLongs) else (some (c_trial, c_trialLong, c_partly, c_partlyLongs))
def bX12_weighs_bests_6 (p2 : Int32) (p3 : Int32) (c_weights : (Nat → Int32)) (c_bests : (Nat → Int32)) (k2 : (Int32 → Option (Int32))) (rc5 : Int32 → Int32 → Option (Int32)) (v3 : Int32) (v4 : Int32) : Option (Int32) :=
if p3 ≤ v4 then (k2 v3) else ((ag c_bests 25920 (p2 + v4)).bind fun x6 =>
(ag c_weights 8 x6).bind fun x7 =>
lt_ (v3 + x7) fun x8 =>
lt_ (v4 + 1) fun x9 =>
rc5 x8 x9)
def fX12_weighs_bests (N : Nat) (c_weights : (Nat → Int32)) (c_bests : (Nat → Int32)) (p2 : Int32) (p3 : Int32) : Option (Int32) :=
jn_ (fun (v1 : Int32) => some v1) fun k2 =>
itr2 (bX12_weighs_bests_6 p2 p3 c_weights c_bests k2) N 0 0
def bX12_isLess_bests_77 (p2 : Int32) (p3 : Int32) (c_trial : (Nat → Int32)) (c_bests : (Nat → Int32)) (k16 : (Int32 → Option (Int32))) (rc18 : Int32 → Option (Int32)) (v17 : Int32) : Option (Int32) :=
if p3 ≤ v17 then (k16 v17) else ((ag c_trial 40 v17).bind fun x19 =>
(ag c_bests 25920 (p2 + v17)).bind fun x20 =>
if x19 = x20 then (lt_ (v17 + 1) fun x21 =>
rc18 x21) else (k16 v17))
def fX12_isLess_bests (N : Nat) (c_trial : (Nat → Int32)) (c_trialLong : Int32) (c_weights : (Nat → Int32)) (c_bests : (Nat → Int32)) (p2 : Int32) (p3 : Int32) : Option (Int32) :=
jn_ (fun (v1 : Unit) => jn_ (fun (v2 : Int32) => gz v2 (some v2)) fun k3 =>
jn_ (fun (v4 : Unit) => k3 1) fun k5 =>
if p3 < 0 then (k5 ()) else (if p3 ≤ c_trialLong then (k3 0) else (k5 ()))) fun k6 =>
if p3 < 0 then (k6 ()) else (if c_trialLong = p3 then ((fX12_weighs_trial N c_trial c_weights 0 c_trialLong).bind fun x7 =>
(fX12_weighs_bests N c_weights c_bests p2 p3).bind fun x8 =>
if x7 = x8 then (jn_ (fun (v9 : Int32) => jn_ (fun (v10 : Int32) => gz v10 (some v10)) fun k11 =>
jn_ (fun (v12 : Unit) => k11 0) fun k13 =>
if p3 ≤ v9 then (k13 ()) else ((ag c_trial 40 v9).bind fun x14 =>
(ag c_bests 25920 (p2 + v9)).bind fun x15 =>
if x15 ≤ x14 then (k13 ()) else (k11 1))) fun k16 =>
itr (bX12_isLess_bests_77 p2 p3 c_trial c_bests k16) N 0) else (jn_ (fun (v23 : Int32) => gz v23 (some v23)) fun k24 =>
if x8 ≤ x7 then (k24 0) else (k24 1))) else (k6 ()))
def bX12_mends_196 (x23 : Int32) (o34 : (Nat → Int32)) (o35 : Int32) (k40 : ((Nat → Int32) → Option (Int32 × (Nat → Int32) × Int32 × (Nat → Int32) × (Nat → Int32) × (Nat → Int32) × (Nat → Int32)))) (rc43 : Int32 → (Nat → Int32) → Option (Int32 × (Nat → Int32) × Int32 × (Nat → Int32) × (Nat → Int32) × (Nat → Int32) × (Nat → Int32))) (v41 : Int32) (v42 : (Nat → Int32)) : Option (Int32 × (Nat → Int32) × Int32 × (Nat → Int32) × (Nat → Int32) × (Nat → Int32) × (Nat → Int32)) :=
if o35 ≤ v41 then (k40 v42) else ((ag o34 40 v41).bind fun x44 =>
(as_ v42 25920 (((40 : Int32) * x23) + v41) x44).bind fun f45 =>
lt_ (v41 + 1) fun x46 =>
rc43 x46 f45)
def bX12_mends_77 (N : Nat) (p1 : Int32) (p2 : Int32) (c_lefts : (Nat → Int32)) (c_sizes : (Nat → Int32)) (c_inputLong : Int32) (c_weights : (Nat → Int32)) (v5 : (Nat → Int32)) (v6 : (Nat → Int32)) (k12 : (Int32 → (Nat → Int32) → Int32 → (Nat → Int32) → (Nat → Int32) → Option (Int32 × (Nat → Int32) × Int32 × (Nat → Int32) × (Nat → Int32) × (Nat → Int32) × (Nat → Int32)))) (rc19 : Int32 → Int32 → (Nat → Int32) → Int32 → (Nat → Int32) → (Nat → Int32) → Option (Int32 × (Nat → Int32) × Int32 × (Nat → Int32) × (Nat → Int32) × (Nat → Int32) × (Nat → Int32))) (v13 : Int32) (v14 : Int32) (v15 : (Nat → Int32)) (v16 : Int32) (v17 : (Nat → Int32)) (v18 : (Nat → Int32)) : Option (Int32 × (Nat → Int32) × Int32 × (Nat → Int32) × (Nat → Int32) × (Nat → Int32) × (Nat → Int32)) :=
if c_inputLong < v14 then (k12 v13 v15 v16 v17 v18) else ((ag c_sizes 24 p1).bind fun x20 =>
lt_ (((9 : Int32) * x20) + v14) fun x21 =>
(ag c_lefts 24 p1).bind fun x22 =>
lt_ ((((81 : Int32) * x22) + ((9 : Int32) * p2)) + v14) fun x23 =>
(ag v6 54 x21).bind fun x24 =>
jn5 (fun (v25 : Int32) (v26 : (Nat → Int32)) (v27 : Int32) (v28 : (Nat → Int32)) (v29 : (Nat → Int32)) => lt_ (v14 + 1) fun x30 =>
rc19 v25 x30 v26 v27 v28 v29) fun k31 =>
if 0 ≤ x24 then ((fX12_tries v16).bind fun o32 =>
(ag v6 54 x21).bind fun x33 =>
bd2 (fX12_copies_partly N v15 o32 v5 ((40 : Int32) * x21) x33) fun o34 o35 =>
(ag v18 648 x23).bind fun x36 =>
(fX12_isLess_bests N o34 o35 c_weights v17 ((40 : Int32) * x23) x36).bind fun x37 =>
if x37 = 0 then (k31 v13 o34 o35 v17 v18) else ((as_ v18 648 x23 o35).bind fun f38 =>
jn_ (fun (v39 : (Nat → Int32)) => k31 1 o34 o35 v39 f38) fun k40 =>
itr2 (bX12_mends_196 x23 o34 o35 k40) N 0 v17)) else (k31 v13 v15 v16 v17 v18))
def bX12_mends_43 (N : Nat) (p1 : Int32) (c_rights : (Nat → Int32)) (c_input : (Nat → Int32)) (c_inputLong : Int32) (c_weights : (Nat → Int32)) (c_bests : (Nat → Int32)) (c_bestLongs : (Nat → Int32)) (v54 : Int32) (k66 : ((Nat → Int32) → Int32 → (Nat → Int32) → (Nat → Int32) → Option (Int32 × (Nat → Int32) × Int32 × (Nat → Int32) × (Nat → Int32) × (Nat → Int32) × (Nat → Int32)))) (rc72 : Int32 → (Nat → Int32) → Int32 → (Nat → Int32) → (Nat → Int32) → Option (Int32 × (Nat → Int32) × Int32 × (Nat → Int32) × (Nat → Int32) × (Nat → Int32) × (Nat → Int32))) (v67 : Int32) (v68 : (Nat → Int32)) (v69 : Int32) (v70 : (Nat → Int32)) (v71 : (Nat → Int32)) : Option (Int32 × (Nat → Int32) × Int32 × (Nat → Int32) × (Nat → Int32) × (Nat → Int32) × (Nat → Int32)) :=
if c_inputLong < v67 then (k66 v68 v69 v70 v71) else (bd4 (fX12_extends1 N c_rights v68 v69 c_input c_inputLong c_weights c_bests c_bestLongs v70 v71 p1 v54 v67) fun o73 o74 o75 o76 =>
lt_ (v67 + 1) fun x77 =>
rc72 x77 o73 o74 o75 o76)
def bX12_mends_30 (N : Nat) (p1 : Int32) (p2 : Int32) (c_sizes : (Nat → Int32)) (c_rights : (Nat → Int32)) (c_input : (Nat → Int32)) (c_inputLong : Int32) (c_weights : (Nat → Int32)) (c_bests : (Nat → Int32)) (c_bestLongs : (Nat → Int32)) (k53 : ((Nat → Int32) → Int32 → (Nat → Int32) → (Nat → Int32) → Option (Int32 × (Nat → Int32) × Int32 × (Nat → Int32) × (Nat → Int32) × (Nat → Int32) × (Nat → Int32)))) (rc59 : Int32 → (Nat → Int32) → Int32 → (Nat → Int32) → (Nat → Int32) → Option (Int32 × (Nat → Int32) × Int32 × (Nat → Int32) × (Nat → Int32) × (Nat → Int32) × (Nat → Int32))) (v54 : Int32) (v55 : (Nat → Int32)) (v56 : Int32) (v57 : (Nat → Int32)) (v58 : (Nat → Int32)) : Option (Int32 × (Nat → Int32) × Int32 × (Nat → Int32) × (Nat → Int32) × (Nat → Int32) × (Nat → Int32)) :=
(ag c_sizes 24 p1).bind fun x60 =>
if x60 ≤ v54 then (k53 v55 v56 v57 v58) else (jn4 (fun (v61 : (Nat → Int32)) (v62 : Int32) (v63 : (Nat → Int32)) (v64 : (Nat → Int32)) => lt_ (v54 + 1) fun x65 =>
rc59 x65 v61 v62 v63 v64) fun k66 =>
itr5 (bX12_mends_43 N p1 c_rights c_input c_inputLong c_weights c_bests c_bestLongs v54 k66) N p2 v55 v56 v57 v58)
def bX12_mends_2 (k86 : ((Nat → Int32) → Option (Int32 × (Nat → Int32) × Int32 × (Nat → Int32) × (Nat → Int32) × (Nat → Int32) × (Nat → Int32)))) (rc89 : Int32 → (Nat → Int32) → Option (Int32 × (Nat → Int32) × Int32 × (Nat → Int32) × (Nat → Int32) × (Nat → Int32) × (Nat → Int32))) (v87 : Int32) (v88 : (Nat → Int32)) : Option (Int32 × (Nat → Int32) × Int32 × (Nat → Int32) × (Nat → Int32) × (Nat → Int32) × (Nat → Int32)) :=
if 54 ≤ v87 then (k86 v88) else ((as_ v88 54 v87 (-1)).bind fun f90 =>
lt_ (v87 + 1) fun x91 =>
rc89 x91 f90)
def fX12_mends (N : Nat) (c_lefts : (Nat → Int32)) (c_sizes : (Nat → Int32)) (c_rights : (Nat → Int32)) (c_trial : (Nat → Int32)) (c_trialLong : Int32) (c_input : (Nat → Int32)) (c_inputLong : Int32) (c_weights : (Nat → Int32)) (c_bests : (Nat → Int32)) (c_bestLongs : (Nat → Int32)) (c_partly : (Nat → Int32)) (c_partlyLongs : (Nat → Int32)) (p1 : Int32) (p2 : Int32) : Option (Int32 × (Nat → Int32) × Int32 × (Nat → Int32) × (Nat → Int32) × (Nat → Int32) × (Nat → Int32)) :=
jn_ (fun (v1 : (Nat → Int32)) => (as_ v1 54 p2 0).bind fun f2 =>
jn4 (fun (v3 : (Nat → Int32)) (v4 : Int32) (v5 : (Nat → Int32)) (v6 : (Nat → Int32)) => jn5 (fun (v7 : Int32) (v8 : (Nat → Int32)) (v9 : Int32) (v10 : (Nat → Int32)) (v11 : (Nat → Int32)) => gz v7 (some (v7, v8, v9, v10, v11, v5, v6))) fun k12 =>
itr6 (bX12_mends_77 N p1 p2 c_lefts c_sizes c_inputLong c_weights v5 v6 k12) N 0 p2 v3 v4 c_bests c_bestLongs) fun k53 =>
itr5 (bX12_mends_30 N p1 p2 c_sizes c_rights c_input c_inputLong c_weights c_bests c_bestLongs k53) N 0 c_trial c_trialLong c_partly f2) fun k86 =>
itr2 (bX12_mends_2 k86) N 0 c_partlyLongs
def bX12_repair_126 (c_inputLong : Int32) (v4 : (Nat → Int32)) (x9 : Int32) (k11 : ((Nat → Int32) → Option (Int32 × (Nat → Int32) × Int32 × (Nat → Int32) × (Nat → Int32) × (Nat → Int32) × (Nat → Int32) × (Nat → Int32) × Int32))) (rc14 : Int32 → (Nat → Int32) → Option (Int32 × (Nat → Int32) × Int32 × (Nat → Int32) × (Nat → Int32) × (Nat → Int32) × (Nat → Int32) × (Nat → Int32) × Int32)) (v12 : Int32) (v13 : (Nat → Int32)) : Option (Int32 × (Nat → Int32) × Int32 × (Nat → Int32) × (Nat → Int32) × (Nat → Int32) × (Nat → Int32) × (Nat → Int32) × Int32) :=
if x9 ≤ v12 then (k11 v13) else ((ag v4 25920 (((40 : Int32) * c_inputLong) + v12)).bind fun x15 =>
(as_ v13 40 v12 x15).bind fun f16 =>
lt_ (v12 + 1) fun x17 =>
rc14 x17 f16)
def bX12_repair_54 (N : Nat) (c_lefts : (Nat → Int32)) (c_sizes : (Nat → Int32)) (c_rights : (Nat → Int32)) (c_input : (Nat → Int32)) (c_inputLong : Int32) (c_weights : (Nat → Int32)) (v37 : Int32) (k53 : (Int32 → (Nat → Int32) → Int32 → (Nat → Int32) → (Nat → Int32) → (Nat → Int32) → (Nat → Int32) → Option (Int32 × (Nat → Int32) × Int32 × (Nat → Int32) × (Nat → Int32) × (Nat → Int32) × (Nat → Int32) × (Nat → Int32) × Int32))) (rc62 : Int32 → Int32 → (Nat → Int32) → Int32 → (Nat → Int32) → (Nat → Int32) → (Nat → Int32) → (Nat → Int32) → Option (Int32 × (Nat → Int32) × Int32 × (Nat → Int32) × (Nat → Int32) × (Nat → Int32) × (Nat → Int32) × (Nat → Int32) × Int32)) (v54 : Int32) (v55 : Int32) (v56 : (Nat → Int32)) (v57 : Int32) (v58 : (Nat → Int32)) (v59 : (Nat → Int32)) (v60 : (Nat → Int32)) (v61 : (Nat → Int32)) : Option (Int32 × (Nat → Int32) × Int32 × (Nat → Int32) × (Nat → Int32) × (Nat → Int32) × (Nat → Int32) × (Nat → Int32) × Int32) :=
if c_inputLong < v55 then (k53 v54 v56 v57 v58 v59 v60 v61) else (bd7 (fX12_mends N c_lefts c_sizes c_rights v56 v57 c_input c_inputLong c_weights v58 v59 v60 v61 v37 v55) fun o69 o63 o64 o65 o66 o67 o68 =>
jn_ (fun (v70 : Int32) => lt_ (v55 + 1) fun x71 =>
rc62 v70 x71 o63 o64 o65 o66 o67 o68) fun k72 =>
jn_ (fun (v73 : Unit) => k72 1) fun k74 =>
if o69 = 0 then (if v54 = 0 then (k72 0) else (k74 ())) else (k74 ()))
def bX12_repair_44 (N : Nat) (c_rules : Int32) (c_lefts : (Nat → Int32)) (c_sizes : (Nat → Int32)) (c_rights : (Nat → Int32)) (c_input : (Nat → Int32)) (c_inputLong : Int32) (c_weights : (Nat → Int32)) (k35 : (Int32 → (Nat → Int32) → Int32 → (Nat → Int32) → (Nat → Int32) → (Nat → Int32) → (Nat → Int32) → Option (Int32 × (Nat → Int32) × Int32 × (Nat → Int32) × (Nat → Int32) × (Nat → Int32) × (Nat → Int32) × (Nat → Int32) × Int32))) (rc44 : Int32 → Int32 → (Nat → Int32) → Int32 → (Nat → Int32) → (Nat → Int32) → (Nat → Int32) → (Nat → Int32) → Option (Int32 × (Nat → Int32) × Int32 × (Nat → Int32) × (Nat → Int32) × (Nat → Int32) × (Nat → Int32) × (Nat → Int32) × Int32)) (v36 : Int32) (v37 : Int32) (v38 : (Nat → Int32)) (v39 : Int32) (v40 : (Nat → Int32)) (v41 : (Nat → Int32)) (v42 : (Nat → Int32)) (v43 : (Nat → Int32)) : Option (Int32 × (Nat → Int32) × Int32 × (Nat → Int32) × (Nat → Int32) × (Nat → Int32) × (Nat → Int32) × (Nat → Int32) × Int32) :=
if c_rules ≤ v37 then (k35 v36 v38 v39 v40 v41 v42 v43) else (jn7 (fun (v45 : Int32) (v46 : (Nat → Int32)) (v47 : Int32) (v48 : (Nat → Int32)) (v49 : (Nat → Int32)) (v50 : (Nat → Int32)) (v51 : (Nat → Int32)) => lt_ (v37 + 1) fun x52 =>
rc44 v45 x52 v46 v47 v48 v49 v50 v51) fun k53 =>
itr8 (bX12_repair_54 N c_lefts c_sizes c_rights c_input c_inputLong c_weights v37 k53) N v36 0 v38 v39 v40 v41 v42 v43)
def bX12_repair_36 (N : Nat) (c_rules : Int32) (c_lefts : (Nat → Int32)) (c_sizes : (Nat → Int32)) (c_rights : (Nat → Int32)) (c_input : (Nat → Int32)) (c_inputLong : Int32) (c_weights : (Nat → Int32)) (k19 : ((Nat → Int32) → Int32 → (Nat → Int32) → (Nat → Int32) → (Nat → Int32) → (Nat → Int32) → Option (Int32 × (Nat → Int32) × Int32 × (Nat → Int32) × (Nat → Int32) × (Nat → Int32) × (Nat → Int32) × (Nat → Int32) × Int32))) (rc27 : Int32 → (Nat → Int32) → Int32 → (Nat → Int32) → (Nat → Int32) → (Nat → Int32) → (Nat → Int32) → Option (Int32 × (Nat → Int32) × Int32 × (Nat → Int32) × (Nat → Int32) × (Nat → Int32) × (Nat → Int32) × (Nat → Int32) × Int32)) (v20 : Int32) (v21 : (Nat → Int32)) (v22 : Int32) (v23 : (Nat → Int32)) (v24 : (Nat → Int32)) (v25 : (Nat → Int32)) (v26 : (Nat → Int32)) : Option (Int32 × (Nat → Int32) × Int32 × (Nat → Int32) × (Nat → Int32) × (Nat → Int32) × (Nat → Int32) × (Nat → Int32) × Int32) :=
if v20 = 0 then (k19 v21 v22 v23 v24 v25 v26) else (jn7 (fun (v28 : Int32) (v29 : (Nat → Int32)) (v30 : Int32) (v31 : (Nat → Int32)) (v32 : (Nat → Int32)) (v33 : (Nat → Int32)) (v34 : (Nat → Int32)) => rc27 v28 v29 v30 v31 v32 v33 v34) fun k35 =>
itr8 (bX12_repair_44 N c_rules c_lefts c_sizes c_rights c_input c_inputLong c_weights k35) N 0 0 v21 v22 v23 v24 v25 v26)
def bX12_repair_14 (k95 : ((Nat → Int32) → Option (Int32 × (Nat → Int32) × Int32 × (Nat → Int32) × (Nat → Int32) × (Nat → Int32) × (Nat → Int32) × (Nat → Int32) × Int32))) (rc98 : Int32 → (Nat → Int32) → Option (Int32 × (Nat → Int32) × Int32 × (Nat → Int32) × (Nat → Int32) × (Nat → Int32) × (Nat → Int32) × (Nat → Int32) × Int32)) (v96 : Int32) (v97 : (Nat → Int32)) : Option (Int32 × (Nat → Int32) × Int32 × (Nat → Int32) × (Nat → Int32) × (Nat → Int32) × (Nat → Int32) × (Nat → Int32) × Int32) :=
if 648 ≤ v96 then (k95 v97) else ((as_ v97 648 v96 (-1)).bind fun f99 =>
lt_ (v96 + 1) fun x100 =>
rc98 x100 f99)
def fX12_repair (N : Nat) (c_rules : Int32) (c_lefts : (Nat → Int32)) (c_sizes : (Nat → Int32)) (c_rights : (Nat → Int32)) (c_trial : (Nat → Int32)) (c_trialLong : Int32) (c_input : (Nat → Int32)) (c_inputLong : Int32) (c_weights : (Nat → Int32)) (c_bests : (Nat → Int32)) (c_bestLongs : (Nat → Int32)) (c_partly : (Nat → Int32)) (c_partlyLongs : (Nat → Int32)) (c_repaired : (Nat → Int32)) (c_repairedLong : Int32) : Option (Int32 × (Nat → Int32) × Int32 × (Nat → Int32) × (Nat → Int32) × (Nat → Int32) × (Nat → Int32) × (Nat → Int32) × Int32) :=
if c_inputLong ≤ 8 then (jn_ (fun (v1 : (Nat → Int32)) => jn6 (fun (v2 : (Nat → Int32)) (v3 : Int32) (v4 : (Nat → Int32)) (v5 : (Nat → Int32)) (v6 : (Nat → Int32)) (v7 : (Nat → Int32)) => (ag v5 648 c_inputLong).bind fun x8 =>
if 0 ≤ x8 then ((ag v5 648 c_inputLong).bind fun x9 =>
jn_ (fun (v10 : (Nat → Int32)) => some ((x9 - c_inputLong), v2, v3, v4, v5, v6, v7, v10, x9)) fun k11 =>
itr2 (bX12_repair_126 c_inputLong v4 x9 k11) N 0 c_repaired) else (some ((-2), v2, v3, v4, v5, v6, v7, c_repaired, c_repairedLong))) fun k19 =>
itr7 (bX12_repair_36 N c_rules c_lefts c_sizes c_rights c_input c_inputLong c_weights k19) N 1 c_trial c_trialLong c_bests v1 c_partly c_partlyLongs) fun k95 =>
itr2 (bX12_repair_14 k95) N 0 c_bestLongs) else (some ((-6), c_trial, c_trialLong, c_bests, c_bestLongs, c_partly, c_partlyLongs, c_repaired, c_repairedLong))
def fX12_repairedTerminal (c_repaired : (Nat → Int32)) (c_repairedLong : Int32) (p1 : Int32) : Option (Int32) :=
(fX12_in p1 0 (c_repairedLong - (1 : Int32))).bind fun x1 =>
jn_ (fun (v2 : Int32) => some v2) fun k3 =>
if x1 = 0 then (k3 (-2)) else ((ag c_repaired 40 p1).bind fun x4 =>
k3 x4)
