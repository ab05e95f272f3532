def fX0_forget (c_plainKnown : Int32) (c_exampleKey : Int32) : Option (Int32 × Int32) :=
some (0, (-1))
def fX10_put (n : Nat) (c_costs : (Nat → Int32)) (c_highs : (Nat → Int64)) (c_lows : (Nat → Int64)) (p1 : Int32) (p2 : Int32) (p3 : Int64) (p5 : Int64) : Option ((Nat → Int32) × (Nat → Int64) × (Nat → Int64)) :=
(as_ c_costs n p1 p2).bind fun f1 =>
(asL c_highs n p1 p3).bind fun f2 =>
(asL c_lows n p1 p5).bind fun f3 =>
some (f1, f2, f3)
def fX10_putNone (n : Nat) (c_costs : (Nat → Int32)) (c_highs : (Nat → Int64)) (c_lows : (Nat → Int64)) (p1 : Int32) : Option ((Nat → Int32) × (Nat → Int64) × (Nat → Int64)) :=
(fX10_put n c_costs c_highs c_lows p1 41984 0 0).bind fun o1 =>
some (o1.1, o1.2.1, o1.2.2)
def bX0_forgetKind_2 (p1 : Int32) (k2 : ((Nat → Int32) × (Nat → Int64) × (Nat → Int64) → Option ((Nat → Int32) × (Nat → Int64) × (Nat → Int64)))) (rc4 : Int32 × (Nat → Int32) × (Nat → Int64) × (Nat → Int64) → Option ((Nat → Int32) × (Nat → Int64) × (Nat → Int64))) (v3 : Int32 × (Nat → Int32) × (Nat → Int64) × (Nat → Int64)) : Option ((Nat → Int32) × (Nat → Int64) × (Nat → Int64)) :=
if 18 ≤ v3.1 then (k2 (v3.2.1, v3.2.2.1, v3.2.2.2)) else ((fX10_putNone 362 v3.2.1 v3.2.2.1 v3.2.2.2 (p1 + v3.1)).bind fun o5 =>
lt_ (v3.1 + 1) fun x6 =>
rc4 (x6, o5.1, o5.2.1, o5.2.2))
def fX0_forgetKind (N : Nat) (c_words_costs : (Nat → Int32)) (c_words_highs : (Nat → Int64)) (c_words_lows : (Nat → Int64)) (p1 : Int32) : Option ((Nat → Int32) × (Nat → Int64) × (Nat → Int64)) :=
jn_ (fun (v1 : (Nat → Int32) × (Nat → Int64) × (Nat → Int64)) => some (v1.1, v1.2.1, v1.2.2)) fun k2 =>
itr (bX0_forgetKind_2 p1 k2) N (0, c_words_costs, c_words_highs, c_words_lows)
def fX10_putTerminal (n : Nat) (c_costs : (Nat → Int32)) (c_highs : (Nat → Int64)) (c_lows : (Nat → Int64)) (p1 : Int32) (p2 : Int32) (p3 : Int32) : Option ((Nat → Int32) × (Nat → Int64) × (Nat → Int64)) :=
(fX10_put n c_costs c_highs c_lows p1 ((1024 : Int32) + p3) 0 ((p2 : Int32).toInt64)).bind fun o1 =>
some (o1.1, o1.2.1, o1.2.2)
def fX6_lengthOf (p0 : Int32) : Option (Int32) :=
some ((p0 >>> ((3 : Int32) &&& (31 : Int32))) &&& (7 : Int32))
def fX0_plainTail (p0 : Int32) (p1 : Int32) : Option (Int32) :=
some (((74 : Int32) + (p0 * (6 : Int32))) + p1)
def fX10_putEmpty (n : Nat) (c_costs : (Nat → Int32)) (c_highs : (Nat → Int64)) (c_lows : (Nat → Int64)) (p1 : Int32) : Option ((Nat → Int32) × (Nat → Int64) × (Nat → Int64)) :=
(fX10_put n c_costs c_highs c_lows p1 0 0 0).bind fun o1 =>
some (o1.1, o1.2.1, o1.2.2)
def fX6_symbolOf (p0 : Int32) (p1 : Int32) : Option (Int32) :=
some ((p0 >>> (((6 : Int32) + ((5 : Int32) * p1)) &&& (31 : Int32))) &&& (31 : Int32))
def fX10_putCopy (n : Nat) (c_costs : (Nat → Int32)) (c_highs : (Nat → Int64)) (c_lows : (Nat → Int64)) (p1 : Int32) (p2 : Int32) : Option ((Nat → Int32) × (Nat → Int64) × (Nat → Int64)) :=
(ag c_costs n p2).bind fun x1 =>
(agL c_highs n p2).bind fun x2 =>
(agL c_lows n p2).bind fun x3 =>
(fX10_put n c_costs c_highs c_lows p1 x1 x2 x3).bind fun o4 =>
some (o4.1, o4.2.1, o4.2.2)
def fX10_joinedHigh (n : Nat) (c_costs : (Nat → Int32)) (c_highs : (Nat → Int64)) (c_lows : (Nat → Int64)) (p1 : Int32) (p2 : Int32) : Option (Int64) :=
(ag c_costs n p2).bind fun x1 =>
lt_ ((3 : Int32) * (x1 >>> ((10 : Int32) &&& (31 : Int32)))) fun x2 =>
if x2 < 60 then ((agL c_highs n p1).bind fun x3 =>
(agL c_lows n p1).bind fun x4 =>
(agL c_highs n p2).bind fun x5 =>
some (((x3 <<< ((x2 : Int32).toInt64 &&& (63 : Int64))) ||| (x4 >>> ((((60 : Int32) - x2) : Int32).toInt64 &&& (63 : Int64)))) ||| x5)) else ((agL c_lows n p1).bind fun x6 =>
(agL c_highs n p2).bind fun x7 =>
some ((x6 <<< (((x2 - (60 : Int32)) : Int32).toInt64 &&& (63 : Int64))) ||| x7))
def fX10_joinedLow (n : Nat) (c_costs : (Nat → Int32)) (c_lows : (Nat → Int64)) (p1 : Int32) (p2 : Int32) : Option (Int64) :=
(ag c_costs n p2).bind fun x1 =>
lt_ ((3 : Int32) * (x1 >>> ((10 : Int32) &&& (31 : Int32)))) fun x2 =>
if x2 < 60 then ((agL c_lows n p1).bind fun x3 =>
(agL c_lows n p2).bind fun x4 =>
some (((x3 <<< ((x2 : Int32).toInt64 &&& (63 : Int64))) &&& (1152921504606846975 : Int64)) ||| x4)) else ((agL c_lows n p2).bind fun x5 =>
some x5)
def fX10_append (n : Nat) (c_costs : (Nat → Int32)) (c_highs : (Nat → Int64)) (c_lows : (Nat → Int64)) (p1 : Int32) (p2 : Int32) : Option ((Nat → Int32) × (Nat → Int64) × (Nat → Int64)) :=
(ag c_costs n p1).bind fun x1 =>
(ag c_costs n p2).bind fun x2 =>
lt_ (x1 + x2) fun x3 =>
jn_ (fun (v4 : (Nat → Int32) × (Nat → Int64) × (Nat → Int64)) => some (v4.1, v4.2.1, v4.2.2)) fun k5 =>
if x3 < 41984 then ((fX10_joinedHigh n c_costs c_highs c_lows p1 p2).bind fun x6 =>
(fX10_joinedLow n c_costs c_lows p1 p2).bind fun x7 =>
(fX10_put n c_costs c_highs c_lows p1 x3 x6 x7).bind fun o8 =>
k5 (o8.1, o8.2.1, o8.2.2)) else ((fX10_putNone n c_costs c_highs c_lows p1).bind fun o9 =>
k5 (o9.1, o9.2.1, o9.2.2))
def bX0_putPlainTails_32 (p1 : Int32) (x1 : Int32) (k7 : ((Nat → Int32) × (Nat → Int64) × (Nat → Int64) → Option ((Nat → Int32) × (Nat → Int64) × (Nat → Int64)))) (rc9 : Int32 × (Nat → Int32) × (Nat → Int64) × (Nat → Int64) → Option ((Nat → Int32) × (Nat → Int64) × (Nat → Int64))) (v8 : Int32 × (Nat → Int32) × (Nat → Int64) × (Nat → Int64)) : Option ((Nat → Int32) × (Nat → Int64) × (Nat → Int64)) :=
if v8.1 < 0 then (k7 (v8.2.1, v8.2.2.1, v8.2.2.2)) else ((fX0_plainTail p1 v8.1).bind fun x10 =>
(fX6_symbolOf x1 v8.1).bind fun x11 =>
(fX10_putCopy 362 v8.2.1 v8.2.2.1 v8.2.2.2 x10 ((0 : Int32) + x11)).bind fun o12 =>
(fX0_plainTail p1 v8.1).bind fun x13 =>
(fX0_plainTail p1 (v8.1 + (1 : Int32))).bind fun x14 =>
(fX10_append 362 o12.1 o12.2.1 o12.2.2 x13 x14).bind fun o15 =>
lt_ (v8.1 + (-1)) fun x16 =>
rc9 (x16, o15.1, o15.2.1, o15.2.2))
def fX0_putPlainTails (N : Nat) (c_rules_codes : (Nat → Int32)) (c_words_costs : (Nat → Int32)) (c_words_highs : (Nat → Int64)) (c_words_lows : (Nat → Int64)) (p1 : Int32) : Option ((Nat → Int32) × (Nat → Int64) × (Nat → Int64)) :=
(ag c_rules_codes 24 p1).bind fun x1 =>
(fX6_lengthOf x1).bind fun x2 =>
(fX0_plainTail p1 x2).bind fun x3 =>
(fX10_putEmpty 362 c_words_costs c_words_highs c_words_lows x3).bind fun o4 =>
lt_ (x2 - (1 : Int32)) fun x5 =>
jn_ (fun (v6 : (Nat → Int32) × (Nat → Int64) × (Nat → Int64)) => some (v6.1, v6.2.1, v6.2.2)) fun k7 =>
itr (bX0_putPlainTails_32 p1 x1 k7) N (x5, o4.1, o4.2.1, o4.2.2)
def fX6_leftOf (p0 : Int32) : Option (Int32) :=
some (p0 &&& (7 : Int32))
def fX0_leftSymbol (c_rules_codes : (Nat → Int32)) (p1 : Int32) : Option (Int32) :=
(ag c_rules_codes 24 p1).bind fun x1 =>
(fX6_leftOf x1).bind fun x2 =>
some ((10 : Int32) + x2)
def fX10_isLess (n : Nat) (c_costs : (Nat → Int32)) (c_highs : (Nat → Int64)) (c_lows : (Nat → Int64)) (p1 : Int32) (p2 : Int32) (p3 : Int64) (p5 : Int64) : Option (Int32) :=
(ag c_costs n p1).bind fun x1 =>
if p2 = x1 then ((agL c_highs n p1).bind fun x2 =>
if (lg_cmp p3 x2) = 0 then ((agL c_lows n p1).bind fun x3 =>
jn_ (fun (v4 : Int32) => gz v4 (some v4)) fun k5 =>
if 0 ≤ (lg_cmp p5 x3) then (k5 0) else (k5 1)) else ((agL c_highs n p1).bind fun x6 =>
jn_ (fun (v7 : Int32) => gz v7 (some v7)) fun k8 =>
if 0 ≤ (lg_cmp p3 x6) then (k8 0) else (k8 1))) else ((ag c_costs n p1).bind fun x9 =>
jn_ (fun (v10 : Int32) => gz v10 (some v10)) fun k11 =>
if x9 ≤ p2 then (k11 0) else (k11 1))
def fX10_lower (n : Nat) (c_costs : (Nat → Int32)) (c_highs : (Nat → Int64)) (c_lows : (Nat → Int64)) (p1 : Int32) (p2 : Int32) : Option (Int32 × (Nat → Int32) × (Nat → Int64) × (Nat → Int64)) :=
(ag c_costs n p2).bind fun x1 =>
(agL c_highs n p2).bind fun x2 =>
(agL c_lows n p2).bind fun x3 =>
(fX10_isLess n c_costs c_highs c_lows p1 x1 x2 x3).bind fun x4 =>
if x4 = 0 then (some (0, c_costs, c_highs, c_lows)) else ((fX10_putCopy n c_costs c_highs c_lows p1 p2).bind fun o5 =>
some (1, o5.1, o5.2.1, o5.2.2))
def bX0_findPlain_58 (N : Nat) (c_rules_codes : (Nat → Int32)) (c_rules_count : Int32) (k9 : (Int32 × (Nat → Int32) × (Nat → Int64) × (Nat → Int64) → Option ((Nat → Int32) × (Nat → Int64) × (Nat → Int64) × Int32))) (rc11 : Int32 × Int32 × (Nat → Int32) × (Nat → Int64) × (Nat → Int64) → Option ((Nat → Int32) × (Nat → Int64) × (Nat → Int64) × Int32)) (v10 : Int32 × Int32 × (Nat → Int32) × (Nat → Int64) × (Nat → Int64)) : Option ((Nat → Int32) × (Nat → Int64) × (Nat → Int64) × Int32) :=
if c_rules_count ≤ v10.2.1 then (k9 (v10.1, v10.2.2.1, v10.2.2.2.1, v10.2.2.2.2)) else ((fX0_putPlainTails N c_rules_codes v10.2.2.1 v10.2.2.2.1 v10.2.2.2.2 v10.2.1).bind fun o12 =>
(fX0_leftSymbol c_rules_codes v10.2.1).bind fun x13 =>
(fX0_plainTail v10.2.1 0).bind fun x14 =>
(fX10_lower 362 o12.1 o12.2.1 o12.2.2 ((0 : Int32) + x13) x14).bind fun o15 =>
jn_ (fun (v16 : Int32) => lt_ (v10.2.1 + 1) fun x17 =>
rc11 (v16, x17, o15.2.1, o15.2.2.1, o15.2.2.2)) fun k18 =>
jn_ (fun (v19 : Unit) => k18 1) fun k20 =>
if o15.1 = 0 then (if v10.1 = 0 then (k18 0) else (k20 ())) else (k20 ()))
def bX0_findPlain_43 (N : Nat) (c_rules_codes : (Nat → Int32)) (c_rules_count : Int32) (k4 : ((Nat → Int32) × (Nat → Int64) × (Nat → Int64) → Option ((Nat → Int32) × (Nat → Int64) × (Nat → Int64) × Int32))) (rc6 : Int32 × Int32 × (Nat → Int32) × (Nat → Int64) × (Nat → Int64) → Option ((Nat → Int32) × (Nat → Int64) × (Nat → Int64) × Int32)) (v5 : Int32 × Int32 × (Nat → Int32) × (Nat → Int64) × (Nat → Int64)) : Option ((Nat → Int32) × (Nat → Int64) × (Nat → Int64) × Int32) :=
if 1000 ≤ v5.2.1 then (k4 (v5.2.2.1, v5.2.2.2.1, v5.2.2.2.2)) else (if v5.1 = 0 then (k4 (v5.2.2.1, v5.2.2.2.1, v5.2.2.2.2)) else (jn_ (fun (v7 : Int32 × (Nat → Int32) × (Nat → Int64) × (Nat → Int64)) => lt_ (v5.2.1 + 1) fun x8 =>
rc6 (v7.1, x8, v7.2.1, v7.2.2.1, v7.2.2.2)) fun k9 =>
itr (bX0_findPlain_58 N c_rules_codes c_rules_count k9) N (0, 0, v5.2.2.1, v5.2.2.2.1, v5.2.2.2.2)))
def bX0_findPlain_15 (k23 : ((Nat → Int32) × (Nat → Int64) × (Nat → Int64) → Option ((Nat → Int32) × (Nat → Int64) × (Nat → Int64) × Int32))) (rc25 : Int32 × (Nat → Int32) × (Nat → Int64) × (Nat → Int64) → Option ((Nat → Int32) × (Nat → Int64) × (Nat → Int64) × Int32)) (v24 : Int32 × (Nat → Int32) × (Nat → Int64) × (Nat → Int64)) : Option ((Nat → Int32) × (Nat → Int64) × (Nat → Int64) × Int32) :=
if 8 ≤ v24.1 then (k23 (v24.2.1, v24.2.2.1, v24.2.2.2)) else ((fX10_putTerminal 362 v24.2.1 v24.2.2.1 v24.2.2.2 ((0 : Int32) + v24.1) v24.1 0).bind fun o26 =>
lt_ (v24.1 + 1) fun x27 =>
rc25 (x27, o26.1, o26.2.1, o26.2.2))
def fX0_findPlain (N : Nat) (c_rules_codes : (Nat → Int32)) (c_rules_count : Int32) (c_words_costs : (Nat → Int32)) (c_words_highs : (Nat → Int64)) (c_words_lows : (Nat → Int64)) (c_plainKnown : Int32) : Option ((Nat → Int32) × (Nat → Int64) × (Nat → Int64) × Int32) :=
if c_plainKnown = 0 then ((fX0_forgetKind N c_words_costs c_words_highs c_words_lows 0).bind fun o1 =>
jn_ (fun (v2 : (Nat → Int32) × (Nat → Int64) × (Nat → Int64)) => jn_ (fun (v3 : (Nat → Int32) × (Nat → Int64) × (Nat → Int64)) => some (v3.1, v3.2.1, v3.2.2, 1)) fun k4 =>
itr (bX0_findPlain_43 N c_rules_codes c_rules_count k4) N (1, 0, v2.1, v2.2.1, v2.2.2)) fun k23 =>
itr (bX0_findPlain_15 k23) N (0, o1.1, o1.2.1, o1.2.2)) else (some (c_words_costs, c_words_highs, c_words_lows, c_plainKnown))
def fX0_shortestWord (N : Nat) (c_rules_codes : (Nat → Int32)) (c_rules_count : Int32) (c_words_costs : (Nat → Int32)) (c_words_highs : (Nat → Int64)) (c_words_lows : (Nat → Int64)) (c_plainKnown : Int32) (p1 : Int32) : Option (Int32 × (Nat → Int32) × (Nat → Int64) × (Nat → Int64) × Int32) :=
(fX0_findPlain N c_rules_codes c_rules_count c_words_costs c_words_highs c_words_lows c_plainKnown).bind fun o1 =>
some (((10 : Int32) + p1), o1.1, o1.2.1, o1.2.2.1, o1.2.2.2)
def fX6_has (c_count : Int32) (p1 : Int32) : Option (Int32) :=
jn_ (fun (v1 : Int32) => gz v1 (some v1)) fun k2 =>
jn_ (fun (v3 : Unit) => k2 0) fun k4 =>
if p1 < 0 then (k4 ()) else (if c_count ≤ p1 then (k4 ()) else (k2 1))
def fX0_startingTail (p0 : Int32) (p1 : Int32) : Option (Int32) :=
some (((218 : Int32) + (p0 * (6 : Int32))) + p1)
def fX10_isEmpty (n : Nat) (c_costs : (Nat → Int32)) (p1 : Int32) : Option (Int32) :=
(ag c_costs n p1).bind fun x1 =>
jn_ (fun (v2 : Int32) => gz v2 (some v2)) fun k3 =>
if x1 = 0 then (k3 1) else (k3 0)
def bX0_putStartingTails_32 (p1 : Int32) (x1 : Int32) (k7 : ((Nat → Int32) × (Nat → Int64) × (Nat → Int64) → Option ((Nat → Int32) × (Nat → Int64) × (Nat → Int64)))) (rc9 : Int32 × (Nat → Int32) × (Nat → Int64) × (Nat → Int64) → Option ((Nat → Int32) × (Nat → Int64) × (Nat → Int64))) (v8 : Int32 × (Nat → Int32) × (Nat → Int64) × (Nat → Int64)) : Option ((Nat → Int32) × (Nat → Int64) × (Nat → Int64)) :=
if v8.1 < 0 then (k7 (v8.2.1, v8.2.2.1, v8.2.2.2)) else ((fX6_symbolOf x1 v8.1).bind fun x10 =>
(fX0_startingTail p1 v8.1).bind fun x11 =>
(fX10_putCopy 362 v8.2.1 v8.2.2.1 v8.2.2.2 x11 ((18 : Int32) + x10)).bind fun o12 =>
(fX0_startingTail p1 v8.1).bind fun x13 =>
(fX0_plainTail p1 (v8.1 + (1 : Int32))).bind fun x14 =>
(fX10_append 362 o12.1 o12.2.1 o12.2.2 x13 x14).bind fun o15 =>
(fX10_isEmpty 362 o15.1 ((0 : Int32) + x10)).bind fun x16 =>
jn_ (fun (v17 : (Nat → Int32) × (Nat → Int64) × (Nat → Int64)) => lt_ (v8.1 + (-1)) fun x18 =>
rc9 (x18, v17.1, v17.2.1, v17.2.2)) fun k19 =>
if x16 = 0 then (k19 (o15.1, o15.2.1, o15.2.2)) else ((fX0_startingTail p1 v8.1).bind fun x20 =>
(fX0_startingTail p1 (v8.1 + (1 : Int32))).bind fun x21 =>
(fX10_lower 362 o15.1 o15.2.1 o15.2.2 x20 x21).bind fun o22 =>
k19 (o22.2.1, o22.2.2.1, o22.2.2.2)))
def fX0_putStartingTails (N : Nat) (c_rules_codes : (Nat → Int32)) (c_words_costs : (Nat → Int32)) (c_words_highs : (Nat → Int64)) (c_words_lows : (Nat → Int64)) (p1 : Int32) : Option ((Nat → Int32) × (Nat → Int64) × (Nat → Int64)) :=
(ag c_rules_codes 24 p1).bind fun x1 =>
(fX6_lengthOf x1).bind fun x2 =>
(fX0_startingTail p1 x2).bind fun x3 =>
(fX10_putNone 362 c_words_costs c_words_highs c_words_lows x3).bind fun o4 =>
lt_ (x2 - (1 : Int32)) fun x5 =>
jn_ (fun (v6 : (Nat → Int32) × (Nat → Int64) × (Nat → Int64)) => some (v6.1, v6.2.1, v6.2.2)) fun k7 =>
itr (bX0_putStartingTails_32 p1 x1 k7) N (x5, o4.1, o4.2.1, o4.2.2)
def bX0_findStarting_45 (N : Nat) (c_rules_codes : (Nat → Int32)) (c_rules_count : Int32) (k9 : (Int32 × (Nat → Int32) × (Nat → Int64) × (Nat → Int64) → Option ((Nat → Int32) × (Nat → Int64) × (Nat → Int64)))) (rc11 : Int32 × Int32 × (Nat → Int32) × (Nat → Int64) × (Nat → Int64) → Option ((Nat → Int32) × (Nat → Int64) × (Nat → Int64))) (v10 : Int32 × Int32 × (Nat → Int32) × (Nat → Int64) × (Nat → Int64)) : Option ((Nat → Int32) × (Nat → Int64) × (Nat → Int64)) :=
if c_rules_count ≤ v10.2.1 then (k9 (v10.1, v10.2.2.1, v10.2.2.2.1, v10.2.2.2.2)) else ((fX0_putStartingTails N c_rules_codes v10.2.2.1 v10.2.2.2.1 v10.2.2.2.2 v10.2.1).bind fun o12 =>
(fX0_leftSymbol c_rules_codes v10.2.1).bind fun x13 =>
(fX0_startingTail v10.2.1 0).bind fun x14 =>
(fX10_lower 362 o12.1 o12.2.1 o12.2.2 ((18 : Int32) + x13) x14).bind fun o15 =>
jn_ (fun (v16 : Int32) => lt_ (v10.2.1 + 1) fun x17 =>
rc11 (v16, x17, o15.2.1, o15.2.2.1, o15.2.2.2)) fun k18 =>
jn_ (fun (v19 : Unit) => k18 1) fun k20 =>
if o15.1 = 0 then (if v10.1 = 0 then (k18 0) else (k20 ())) else (k20 ()))
def bX0_findStarting_29 (N : Nat) (c_rules_codes : (Nat → Int32)) (c_rules_count : Int32) (k4 : ((Nat → Int32) × (Nat → Int64) × (Nat → Int64) → Option ((Nat → Int32) × (Nat → Int64) × (Nat → Int64)))) (rc6 : Int32 × Int32 × (Nat → Int32) × (Nat → Int64) × (Nat → Int64) → Option ((Nat → Int32) × (Nat → Int64) × (Nat → Int64))) (v5 : Int32 × Int32 × (Nat → Int32) × (Nat → Int64) × (Nat → Int64)) : Option ((Nat → Int32) × (Nat → Int64) × (Nat → Int64)) :=
if 1000 ≤ v5.2.1 then (k4 (v5.2.2.1, v5.2.2.2.1, v5.2.2.2.2)) else (if v5.1 = 0 then (k4 (v5.2.2.1, v5.2.2.2.1, v5.2.2.2.2)) else (jn_ (fun (v7 : Int32 × (Nat → Int32) × (Nat → Int64) × (Nat → Int64)) => lt_ (v5.2.1 + 1) fun x8 =>
rc6 (v7.1, x8, v7.2.1, v7.2.2.1, v7.2.2.2)) fun k9 =>
itr (bX0_findStarting_45 N c_rules_codes c_rules_count k9) N (0, 0, v5.2.2.1, v5.2.2.2.1, v5.2.2.2.2)))
def fX0_findStarting (N : Nat) (c_rules_codes : (Nat → Int32)) (c_rules_count : Int32) (c_words_costs : (Nat → Int32)) (c_words_highs : (Nat → Int64)) (c_words_lows : (Nat → Int64)) (p1 : Int32) : Option ((Nat → Int32) × (Nat → Int64) × (Nat → Int64)) :=
(fX0_forgetKind N c_words_costs c_words_highs c_words_lows 18).bind fun o1 =>
jn_ (fun (v2 : (Nat → Int32) × (Nat → Int64) × (Nat → Int64)) => jn_ (fun (v3 : (Nat → Int32) × (Nat → Int64) × (Nat → Int64)) => some (v3.1, v3.2.1, v3.2.2)) fun k4 =>
itr (bX0_findStarting_29 N c_rules_codes c_rules_count k4) N (1, 0, v2.1, v2.2.1, v2.2.2)) fun k23 =>
if p1 = 8 then (k23 (o1.1, o1.2.1, o1.2.2)) else ((fX10_putTerminal 362 o1.1 o1.2.1 o1.2.2 ((18 : Int32) + p1) p1 0).bind fun o24 =>
k23 (o24.1, o24.2.1, o24.2.2))
def fX10_exists (n : Nat) (c_costs : (Nat → Int32)) (p1 : Int32) : Option (Int32) :=
(ag c_costs n p1).bind fun x1 =>
jn_ (fun (v2 : Int32) => gz v2 (some v2)) fun k3 =>
if 41984 ≤ x1 then (k3 0) else (k3 1)
def fX0_lowerEnded (c_rules_codes : (Nat → Int32)) (c_words_costs : (Nat → Int32)) (c_words_highs : (Nat → Int64)) (c_words_lows : (Nat → Int64)) (p1 : Int32) (p2 : Int32) : Option (Int32 × (Nat → Int32) × (Nat → Int64) × (Nat → Int64)) :=
(fX10_putCopy 362 c_words_costs c_words_highs c_words_lows 73 72).bind fun o1 =>
(ag c_rules_codes 24 p1).bind fun x2 =>
(fX6_symbolOf x2 p2).bind fun x3 =>
(fX10_append 362 o1.1 o1.2.1 o1.2.2 73 ((36 : Int32) + x3)).bind fun o4 =>
(fX0_plainTail p1 (p2 + (1 : Int32))).bind fun x5 =>
(fX10_isEmpty 362 o4.1 x5).bind fun x6 =>
jn_ (fun (v7 : Int32 × (Nat → Int32) × (Nat → Int64) × (Nat → Int64)) => (fX0_startingTail p1 (p2 + (1 : Int32))).bind fun x8 =>
(fX10_append 362 v7.2.1 v7.2.2.1 v7.2.2.2 73 x8).bind fun o9 =>
(fX0_leftSymbol c_rules_codes p1).bind fun x10 =>
(fX10_lower 362 o9.1 o9.2.1 o9.2.2 ((54 : Int32) + x10) 73).bind fun o11 =>
jn_ (fun (v12 : Int32) => gz v12 (some (v12, o11.2.1, o11.2.2.1, o11.2.2.2))) fun k13 =>
jn_ (fun (v14 : Unit) => k13 1) fun k15 =>
if o11.1 = 0 then (if v7.1 = 0 then (k13 0) else (k15 ())) else (k15 ())) fun k16 =>
if x6 = 0 then (k16 (0, o4.1, o4.2.1, o4.2.2)) else ((fX0_leftSymbol c_rules_codes p1).bind fun x17 =>
(fX10_lower 362 o4.1 o4.2.1 o4.2.2 ((36 : Int32) + x17) 73).bind fun o18 =>
k16 (o18.1, o18.2.1, o18.2.2.1, o18.2.2.2))
def bX0_lowerMarked_24 (p1 : Int32) (c_rules_codes : (Nat → Int32)) (x1 : Int32) (k4 : (Int32 × (Nat → Int32) × (Nat → Int64) × (Nat → Int64) → Option (Int32 × (Nat → Int32) × (Nat → Int64) × (Nat → Int64)))) (rc6 : Int32 × Int32 × (Nat → Int32) × (Nat → Int64) × (Nat → Int64) → Option (Int32 × (Nat → Int32) × (Nat → Int64) × (Nat → Int64))) (v5 : Int32 × Int32 × (Nat → Int32) × (Nat → Int64) × (Nat → Int64)) : Option (Int32 × (Nat → Int32) × (Nat → Int64) × (Nat → Int64)) :=
(fX6_lengthOf x1).bind fun x7 =>
if x7 ≤ v5.2.1 then (k4 (v5.1, v5.2.2.1, v5.2.2.2.1, v5.2.2.2.2)) else ((fX6_symbolOf x1 v5.2.1).bind fun x8 =>
(fX10_exists 362 v5.2.2.1 ((54 : Int32) + x8)).bind fun x9 =>
jn_ (fun (v10 : Int32 × (Nat → Int32) × (Nat → Int64) × (Nat → Int64)) => (fX10_exists 362 v10.2.1 ((36 : Int32) + x8)).bind fun x11 =>
jn_ (fun (v12 : Int32 × (Nat → Int32) × (Nat → Int64) × (Nat → Int64)) => (fX10_append 362 v12.2.1 v12.2.2.1 v12.2.2.2 72 ((0 : Int32) + x8)).bind fun o13 =>
lt_ (v5.2.1 + 1) fun x14 =>
rc6 (v12.1, x14, o13.1, o13.2.1, o13.2.2)) fun k15 =>
if x11 = 0 then (k15 (v10.1, v10.2.1, v10.2.2.1, v10.2.2.2)) else ((fX0_lowerEnded c_rules_codes v10.2.1 v10.2.2.1 v10.2.2.2 p1 v5.2.1).bind fun o16 =>
jn_ (fun (v17 : Int32) => k15 (v17, o16.2.1, o16.2.2.1, o16.2.2.2)) fun k18 =>
jn_ (fun (v19 : Unit) => k18 1) fun k20 =>
if o16.1 = 0 then (if v10.1 = 0 then (k18 0) else (k20 ())) else (k20 ()))) fun k21 =>
if x9 = 0 then (k21 (v5.1, v5.2.2.1, v5.2.2.2.1, v5.2.2.2.2)) else ((fX10_putCopy 362 v5.2.2.1 v5.2.2.2.1 v5.2.2.2.2 73 72).bind fun o22 =>
(fX10_append 362 o22.1 o22.2.1 o22.2.2 73 ((54 : Int32) + x8)).bind fun o23 =>
(fX0_plainTail p1 (v5.2.1 + (1 : Int32))).bind fun x24 =>
(fX10_append 362 o23.1 o23.2.1 o23.2.2 73 x24).bind fun o25 =>
(fX0_leftSymbol c_rules_codes p1).bind fun x26 =>
(fX10_lower 362 o25.1 o25.2.1 o25.2.2 ((54 : Int32) + x26) 73).bind fun o27 =>
jn_ (fun (v28 : Int32) => k21 (v28, o27.2.1, o27.2.2.1, o27.2.2.2)) fun k29 =>
jn_ (fun (v30 : Unit) => k29 1) fun k31 =>
if o27.1 = 0 then (if v5.1 = 0 then (k29 0) else (k31 ())) else (k31 ())))
def fX0_lowerMarked (N : Nat) (c_rules_codes : (Nat → Int32)) (c_words_costs : (Nat → Int32)) (c_words_highs : (Nat → Int64)) (c_words_lows : (Nat → Int64)) (p1 : Int32) : Option (Int32 × (Nat → Int32) × (Nat → Int64) × (Nat → Int64)) :=
(ag c_rules_codes 24 p1).bind fun x1 =>
(fX10_putEmpty 362 c_words_costs c_words_highs c_words_lows 72).bind fun o2 =>
jn_ (fun (v3 : Int32 × (Nat → Int32) × (Nat → Int64) × (Nat → Int64)) => gz v3.1 (some (v3.1, v3.2.1, v3.2.2.1, v3.2.2.2))) fun k4 =>
itr (bX0_lowerMarked_24 p1 c_rules_codes x1 k4) N (0, 0, o2.1, o2.2.1, o2.2.2)
def bX0_findMarked_82 (N : Nat) (c_rules_codes : (Nat → Int32)) (c_rules_count : Int32) (k15 : (Int32 × (Nat → Int32) × (Nat → Int64) × (Nat → Int64) → Option ((Nat → Int32) × (Nat → Int64) × (Nat → Int64)))) (rc17 : Int32 × Int32 × (Nat → Int32) × (Nat → Int64) × (Nat → Int64) → Option ((Nat → Int32) × (Nat → Int64) × (Nat → Int64))) (v16 : Int32 × Int32 × (Nat → Int32) × (Nat → Int64) × (Nat → Int64)) : Option ((Nat → Int32) × (Nat → Int64) × (Nat → Int64)) :=
if c_rules_count ≤ v16.2.1 then (k15 (v16.1, v16.2.2.1, v16.2.2.2.1, v16.2.2.2.2)) else ((fX0_lowerMarked N c_rules_codes v16.2.2.1 v16.2.2.2.1 v16.2.2.2.2 v16.2.1).bind fun o18 =>
jn_ (fun (v19 : Int32) => lt_ (v16.2.1 + 1) fun x20 =>
rc17 (v19, x20, o18.2.1, o18.2.2.1, o18.2.2.2)) fun k21 =>
jn_ (fun (v22 : Unit) => k21 1) fun k23 =>
if o18.1 = 0 then (if v16.1 = 0 then (k21 0) else (k23 ())) else (k23 ()))
def bX0_findMarked_66 (N : Nat) (c_rules_codes : (Nat → Int32)) (c_rules_count : Int32) (k10 : ((Nat → Int32) × (Nat → Int64) × (Nat → Int64) → Option ((Nat → Int32) × (Nat → Int64) × (Nat → Int64)))) (rc12 : Int32 × Int32 × (Nat → Int32) × (Nat → Int64) × (Nat → Int64) → Option ((Nat → Int32) × (Nat → Int64) × (Nat → Int64))) (v11 : Int32 × Int32 × (Nat → Int32) × (Nat → Int64) × (Nat → Int64)) : Option ((Nat → Int32) × (Nat → Int64) × (Nat → Int64)) :=
if 1000 ≤ v11.2.1 then (k10 (v11.2.2.1, v11.2.2.2.1, v11.2.2.2.2)) else (if v11.1 = 0 then (k10 (v11.2.2.1, v11.2.2.2.1, v11.2.2.2.2)) else (jn_ (fun (v13 : Int32 × (Nat → Int32) × (Nat → Int64) × (Nat → Int64)) => lt_ (v11.2.1 + 1) fun x14 =>
rc12 (v13.1, x14, v13.2.1, v13.2.2.1, v13.2.2.2)) fun k15 =>
itr (bX0_findMarked_82 N c_rules_codes c_rules_count k15) N (0, 0, v11.2.2.1, v11.2.2.2.1, v11.2.2.2.2)))
def fX0_findMarked (N : Nat) (c_rules_codes : (Nat → Int32)) (c_rules_count : Int32) (c_words_costs : (Nat → Int32)) (c_words_highs : (Nat → Int64)) (c_words_lows : (Nat → Int64)) (p1 : Int32) : Option ((Nat → Int32) × (Nat → Int64) × (Nat → Int64)) :=
(fX0_forgetKind N c_words_costs c_words_highs c_words_lows 36).bind fun o1 =>
(fX0_forgetKind N o1.1 o1.2.1 o1.2.2 54).bind fun o2 =>
(fX0_plainTail p1 0).bind fun x3 =>
(fX10_isEmpty 362 o2.1 x3).bind fun x4 =>
jn_ (fun (v5 : (Nat → Int32) × (Nat → Int64) × (Nat → Int64)) => (fX0_leftSymbol c_rules_codes p1).bind fun x6 =>
(fX0_startingTail p1 0).bind fun x7 =>
(fX10_putCopy 362 v5.1 v5.2.1 v5.2.2 ((54 : Int32) + x6) x7).bind fun o8 =>
jn_ (fun (v9 : (Nat → Int32) × (Nat → Int64) × (Nat → Int64)) => some (v9.1, v9.2.1, v9.2.2)) fun k10 =>
itr (bX0_findMarked_66 N c_rules_codes c_rules_count k10) N (1, 0, o8.1, o8.2.1, o8.2.2)) fun k26 =>
if x4 = 0 then (k26 (o2.1, o2.2.1, o2.2.2)) else ((fX0_leftSymbol c_rules_codes p1).bind fun x27 =>
(fX10_putEmpty 362 o2.1 o2.2.1 o2.2.2 ((36 : Int32) + x27)).bind fun o28 =>
k26 (o28.1, o28.2.1, o28.2.2))
def fX0_exampleWord (N : Nat) (c_rules_codes : (Nat → Int32)) (c_rules_count : Int32) (c_words_costs : (Nat → Int32)) (c_words_highs : (Nat → Int64)) (c_words_lows : (Nat → Int64)) (c_plainKnown : Int32) (c_exampleKey : Int32) (p1 : Int32) (p2 : Int32) : Option (Int32 × (Nat → Int32) × (Nat → Int64) × (Nat → Int64) × Int32 × Int32) :=
lt_ ((p1 * (9 : Int32)) + p2) fun x1 =>
(fX6_has c_rules_count p1).bind fun x2 =>
jn_ (fun (v3 : (Nat → Int32) × (Nat → Int64) × (Nat → Int64) × Int32 × Int32) => jn_ (fun (v4 : Int32) => some (((v4 + (10 : Int32)) + (0 : Int32)), v3.1, v3.2.1, v3.2.2.1, v3.2.2.2.1, v3.2.2.2.2)) fun k5 =>
if p2 = 8 then (k5 36) else (k5 54)) fun k6 =>
if x2 = 0 then (k6 (c_words_costs, c_words_highs, c_words_lows, c_plainKnown, c_exampleKey)) else (if x1 = c_exampleKey then (k6 (c_words_costs, c_words_highs, c_words_lows, c_plainKnown, c_exampleKey)) else ((fX0_findPlain N c_rules_codes c_rules_count c_words_costs c_words_highs c_words_lows c_plainKnown).bind fun o7 =>
(fX0_findStarting N c_rules_codes c_rules_count o7.1 o7.2.1 o7.2.2.1 p2).bind fun o8 =>
(fX0_findMarked N c_rules_codes c_rules_count o8.1 o8.2.1 o8.2.2 p1).bind fun o9 =>
k6 (o9.1, o9.2.1, o9.2.2, o7.2.2.2, x1)))
def fX1_has (c_levels : Int32) (p1 : Int32) : Option (Int32) :=
jn_ (fun (v1 : Int32) => gz v1 (some v1)) fun k2 =>
jn_ (fun (v3 : Unit) => k2 0) fun k4 =>
if p1 < 0 then (k4 ()) else (if c_levels ≤ p1 then (k4 ()) else (k2 1))
def fX1_because (c_codes : (Nat → Int32)) (c_details : (Nat → Int32)) (c_levels : Int32) (p1 : Int32) (p2 : Int32) : Option ((Nat → Int32) × (Nat → Int32) × Int32) :=
jn_ (fun (v1 : (Nat → Int32) × (Nat → Int32) × Int32) => some (v1.1, v1.2.1, v1.2.2)) fun k2 =>
if 3 ≤ c_levels then (k2 (c_codes, c_details, c_levels)) else ((as_ c_codes 3 c_levels p1).bind fun f3 =>
(as_ c_details 3 c_levels p2).bind fun f4 =>
lt_ (c_levels + (1 : Int32)) fun x5 =>
k2 (f3, f4, x5))
def fX1_begin (c_codes : (Nat → Int32)) (c_details : (Nat → Int32)) (c_levels : Int32) (p1 : Int32) (p2 : Int32) : Option ((Nat → Int32) × (Nat → Int32) × Int32) :=
(fX1_because c_codes c_details 0 p1 p2).bind fun o1 =>
some (o1.1, o1.2.1, o1.2.2)
def bX3_terminalsIn_4 (k2 : (Int32 → Option (Int32))) (k4 : (Unit → Option (Int32))) (rc6 : Int32 × Int32 → Option (Int32)) (v5 : Int32 × Int32) : Option (Int32) :=
if v5.1 ≤ 0 then (k2 v5.2) else (if 10 ≤ v5.2 then (k2 v5.2) else (lt_ (v5.1 - v5.1 / (10 : Int32) * (10 : Int32)) fun x7 =>
if x7 < 1 then (k4 ()) else (if x7 ≤ 8 then (lt_ (v5.1 / (10 : Int32)) fun x8 =>
lt_ (v5.2 + 1) fun x9 =>
rc6 (x8, x9)) else (k4 ()))))
def fX3_terminalsIn (N : Nat) (p0 : Int32) : Option (Int32) :=
jn_ (fun (v1 : Int32) => some v1) fun k2 =>
jn_ (fun (v3 : Unit) => some 0) fun k4 =>
itr (bX3_terminalsIn_4 k2 k4) N (p0, 0)
def bX3_append_12 (c_length : Int32) (k4 : ((Nat → Int32) → Option ((Nat → Int32) × Int32))) (rc6 : Int32 × Int32 × (Nat → Int32) → Option ((Nat → Int32) × Int32)) (v5 : Int32 × Int32 × (Nat → Int32)) : Option ((Nat → Int32) × Int32) :=
if v5.2.1 < c_length then (k4 v5.2.2) else (if 40 ≤ v5.2.1 then (k4 v5.2.2) else ((as_ v5.2.2 40 v5.2.1 ((v5.1 - v5.1 / (10 : Int32) * (10 : Int32)) - (1 : Int32))).bind fun f7 =>
lt_ (v5.1 / (10 : Int32)) fun x8 =>
lt_ (v5.2.1 + (-1)) fun x9 =>
rc6 (x8, x9, f7)))
def fX3_append (N : Nat) (c_terminals : (Nat → Int32)) (c_length : Int32) (p1 : Int32) (p2 : Int32) : Option ((Nat → Int32) × Int32) :=
lt_ ((c_length + p2) - (1 : Int32)) fun x1 =>
jn_ (fun (v2 : (Nat → Int32)) => lt_ (c_length + p2) fun x3 =>
some (v2, x3)) fun k4 =>
itr (bX3_append_12 c_length k4) N (p1, x1, c_terminals)
def fX3_tokenAt (c_terminals : (Nat → Int32)) (c_length : Int32) (p1 : Int32) : Option (Int32) :=
jn_ (fun (v1 : Int32) => some v1) fun k2 =>
jn_ (fun (v3 : Unit) => k2 8) fun k4 =>
if p1 < 0 then (k4 ()) else (if c_length ≤ p1 then (k4 ()) else ((ag c_terminals 40 p1).bind fun x5 =>
k2 x5))
def fX4_push (c_stack : (Nat → Int32)) (c_bringers : (Nat → Int32)) (c_depth : Int32) (p1 : Int32) (p2 : Int32) : Option ((Nat → Int32) × (Nat → Int32) × Int32) :=
jn_ (fun (v1 : (Nat → Int32) × (Nat → Int32) × Int32) => some (v1.1, v1.2.1, v1.2.2)) fun k2 =>
if 65 ≤ c_depth then (k2 (c_stack, c_bringers, c_depth)) else ((as_ c_stack 65 c_depth p1).bind fun f3 =>
(as_ c_bringers 65 c_depth p2).bind fun f4 =>
lt_ (c_depth + (1 : Int32)) fun x5 =>
k2 (f3, f4, x5))
def fX4_begin (c_traceLength : Int32) (c_tree_count : Int32) (c_stack : (Nat → Int32)) (c_bringers : (Nat → Int32)) (c_depth : Int32) (c_index : Int32) (c_steps : Int32) : Option (Int32 × Int32 × (Nat → Int32) × (Nat → Int32) × Int32 × Int32 × Int32) :=
(fX4_push c_stack c_bringers 0 10 (-1)).bind fun o1 =>
some (0, 0, o1.1, o1.2.1, o1.2.2, 0, 0)
def fX4_token (c_input_terminals : (Nat → Int32)) (c_input_length : Int32) (c_index : Int32) : Option (Int32) :=
(fX3_tokenAt c_input_terminals c_input_length c_index).bind fun x1 =>
some x1
def fX4_accepts (c_input_terminals : (Nat → Int32)) (c_input_length : Int32) (c_depth : Int32) (c_index : Int32) : Option (Int32) :=
jn_ (fun (v1 : Int32) => gz v1 (some v1)) fun k2 =>
jn_ (fun (v3 : Unit) => k2 0) fun k4 =>
if c_depth = 0 then ((fX4_token c_input_terminals c_input_length c_index).bind fun x5 =>
if x5 = 8 then (k2 1) else (k4 ())) else (k4 ())
def fX9_has (c_count : Int32) (p1 : Int32) : Option (Int32) :=
jn_ (fun (v1 : Int32) => gz v1 (some v1)) fun k2 =>
jn_ (fun (v3 : Unit) => k2 0) fun k4 =>
if p1 < 0 then (k4 ()) else (if c_count ≤ p1 then (k4 ()) else (k2 1))
def bX9_finish_18 (c_parents : (Nat → Int32)) (x1 : Int32) (k4 : ((Nat → Int32) → Option ((Nat → Int32) × Int32))) (rc6 : Int32 × (Nat → Int32) → Option ((Nat → Int32) × Int32)) (v5 : Int32 × (Nat → Int32)) : Option ((Nat → Int32) × Int32) :=
if v5.1 ≤ 0 then (k4 v5.2) else ((ag c_parents 300 v5.1).bind fun x7 =>
(fX9_has x1 x7).bind fun x8 =>
jn_ (fun (v9 : (Nat → Int32)) => lt_ (v5.1 + (-1)) fun x10 =>
rc6 (x10, v9)) fun k11 =>
if x8 = 0 then (k11 v5.2) else ((ag v5.2 300 x7).bind fun x12 =>
(ag v5.2 300 v5.1).bind fun x13 =>
(as_ v5.2 300 x7 (if x12 < (x13 + (1 : Int32)) then (x13 + (1 : Int32)) else x12)).bind fun f14 =>
k11 f14))
def fX9_finish (N : Nat) (c_parents : (Nat → Int32)) (c_heights : (Nat → Int32)) (c_count : Int32) (p1 : Int32) : Option ((Nat → Int32) × Int32) :=
lt_ (if 300 < p1 then 300 else p1) fun x1 =>
lt_ (x1 - (1 : Int32)) fun x2 =>
jn_ (fun (v3 : (Nat → Int32)) => some (v3, x1)) fun k4 =>
itr (bX9_finish_18 c_parents x1 k4) N (x2, c_heights)
def fX4_top (c_stack : (Nat → Int32)) (c_depth : Int32) : Option (Int32) :=
jn_ (fun (v1 : Int32) => some v1) fun k2 =>
if c_depth ≤ 0 then (k2 (-1)) else ((ag c_stack 65 (c_depth - (1 : Int32))).bind fun x3 =>
k2 x3)
def fX8_entry (c_possible : (Nat → Int32)) (c_lowest : (Nat → Int32)) (p1 : Int32) (p2 : Int32) : Option (Int32) :=
lt_ ((p1 * (9 : Int32)) + p2) fun x1 =>
(ag c_possible 72 x1).bind fun x2 =>
jn_ (fun (v3 : Int32) => some v3) fun k4 =>
if x2 ≤ 0 then (k4 (-2)) else ((ag c_lowest 72 x1).bind fun x5 =>
k4 x5)
def fX4_canMove (c_table_possible : (Nat → Int32)) (c_table_lowest : (Nat → Int32)) (c_input_terminals : (Nat → Int32)) (c_input_length : Int32) (c_stack : (Nat → Int32)) (c_depth : Int32) (c_index : Int32) : Option (Int32) :=
(fX4_top c_stack c_depth).bind fun x1 =>
if x1 < 10 then (jn_ (fun (v2 : Int32) => gz v2 (some v2)) fun k3 =>
jn_ (fun (v4 : Unit) => k3 0) fun k5 =>
if x1 < 0 then (k5 ()) else ((fX4_token c_input_terminals c_input_length c_index).bind fun x6 =>
if x1 = x6 then (k3 1) else (k5 ()))) else ((fX4_token c_input_terminals c_input_length c_index).bind fun x7 =>
(fX8_entry c_table_possible c_table_lowest (x1 - (10 : Int32)) x7).bind fun x8 =>
jn_ (fun (v9 : Int32) => gz v9 (some v9)) fun k10 =>
if x8 < 0 then (k10 0) else (k10 1))
def fX4_bringer (c_bringers : (Nat → Int32)) (c_depth : Int32) : Option (Int32) :=
jn_ (fun (v1 : Int32) => some v1) fun k2 =>
if c_depth ≤ 0 then (k2 (-1)) else ((ag c_bringers 65 (c_depth - (1 : Int32))).bind fun x3 =>
k2 x3)
def fX9_note (c_symbols : (Nat → Int32)) (c_parents : (Nat → Int32)) (c_heights : (Nat → Int32)) (p1 : Int32) (p2 : Int32) (p3 : Int32) : Option ((Nat → Int32) × (Nat → Int32) × (Nat → Int32)) :=
jn_ (fun (v1 : (Nat → Int32) × (Nat → Int32) × (Nat → Int32)) => some (v1.1, v1.2.1, v1.2.2)) fun k2 =>
if p1 < 0 then (k2 (c_symbols, c_parents, c_heights)) else (if 300 ≤ p1 then (k2 (c_symbols, c_parents, c_heights)) else ((as_ c_symbols 300 p1 p2).bind fun f3 =>
(as_ c_parents 300 p1 p3).bind fun f4 =>
(as_ c_heights 300 p1 0).bind fun f5 =>
k2 (f3, f4, f5)))
def bX4_expand_69 (c_steps : Int32) (x7 : Int32) (k11 : ((Nat → Int32) × (Nat → Int32) × Int32 → Option ((Nat → Int32) × Int32 × (Nat → Int32) × (Nat → Int32) × Int32))) (rc13 : Int32 × (Nat → Int32) × (Nat → Int32) × Int32 → Option ((Nat → Int32) × Int32 × (Nat → Int32) × (Nat → Int32) × Int32)) (v12 : Int32 × (Nat → Int32) × (Nat → Int32) × Int32) : Option ((Nat → Int32) × Int32 × (Nat → Int32) × (Nat → Int32) × Int32) :=
if v12.1 < 0 then (k11 (v12.2.1, v12.2.2.1, v12.2.2.2)) else ((fX6_symbolOf x7 v12.1).bind fun x14 =>
(fX4_push v12.2.1 v12.2.2.1 v12.2.2.2 x14 c_steps).bind fun o15 =>
lt_ (v12.1 + (-1)) fun x16 =>
rc13 (x16, o15.1, o15.2.1, o15.2.2))
def fX4_expand (N : Nat) (c_rules_codes : (Nat → Int32)) (c_rules_count : Int32) (c_trace : (Nat → Int32)) (c_traceLength : Int32) (c_stack : (Nat → Int32)) (c_bringers : (Nat → Int32)) (c_depth : Int32) (c_steps : Int32) (p1 : Int32) : Option ((Nat → Int32) × Int32 × (Nat → Int32) × (Nat → Int32) × Int32) :=
(fX6_has c_rules_count p1).bind fun x1 =>
jn_ (fun (v2 : Unit) => some (c_trace, c_traceLength, c_stack, c_bringers, c_depth)) fun k3 =>
if x1 = 0 then (k3 ()) else (if c_traceLength < 300 then ((as_ c_trace 300 c_traceLength p1).bind fun f4 =>
lt_ (c_traceLength + (1 : Int32)) fun x5 =>
lt_ (c_depth - (1 : Int32)) fun x6 =>
(ag c_rules_codes 24 p1).bind fun x7 =>
(fX6_lengthOf x7).bind fun x8 =>
lt_ (x8 - (1 : Int32)) fun x9 =>
jn_ (fun (v10 : (Nat → Int32) × (Nat → Int32) × Int32) => some (f4, x5, v10.1, v10.2.1, v10.2.2)) fun k11 =>
itr (bX4_expand_69 c_steps x7 k11) N (x9, c_stack, c_bringers, x6)) else (k3 ()))
def fX4_move (N : Nat) (c_rules_codes : (Nat → Int32)) (c_rules_count : Int32) (c_table_possible : (Nat → Int32)) (c_table_lowest : (Nat → Int32)) (c_input_terminals : (Nat → Int32)) (c_input_length : Int32) (c_trace : (Nat → Int32)) (c_traceLength : Int32) (c_stack : (Nat → Int32)) (c_bringers : (Nat → Int32)) (c_depth : Int32) (c_index : Int32) (c_steps : Int32) : Option ((Nat → Int32) × Int32 × (Nat → Int32) × (Nat → Int32) × Int32 × Int32 × Int32) :=
(fX4_top c_stack c_depth).bind fun x1 =>
jn_ (fun (v2 : (Nat → Int32) × Int32 × (Nat → Int32) × (Nat → Int32) × Int32 × Int32) => lt_ (c_steps + (1 : Int32)) fun x3 =>
some (v2.1, v2.2.1, v2.2.2.1, v2.2.2.2.1, v2.2.2.2.2.1, v2.2.2.2.2.2, x3)) fun k4 =>
if x1 < 10 then (lt_ (c_depth - (1 : Int32)) fun x5 =>
lt_ (c_index + (1 : Int32)) fun x6 =>
k4 (c_trace, c_traceLength, c_stack, c_bringers, x5, x6)) else ((fX4_token c_input_terminals c_input_length c_index).bind fun x7 =>
(fX8_entry c_table_possible c_table_lowest (x1 - (10 : Int32)) x7).bind fun x8 =>
(fX4_expand N c_rules_codes c_rules_count c_trace c_traceLength c_stack c_bringers c_depth c_steps x8).bind fun o9 =>
k4 (o9.1, o9.2.1, o9.2.2.1, o9.2.2.2.1, o9.2.2.2.2, c_index))
def bX4_parseInput_6 (N : Nat) (c_rules_codes : (Nat → Int32)) (c_rules_count : Int32) (c_table_possible : (Nat → Int32)) (c_table_lowest : (Nat → Int32)) (c_input_terminals : (Nat → Int32)) (c_input_length : Int32) (o1 : Int32 × Int32 × (Nat → Int32) × (Nat → Int32) × Int32 × Int32 × Int32) (k3 : ((Nat → Int32) × Int32 × (Nat → Int32) × (Nat → Int32) × (Nat → Int32) × (Nat → Int32) × (Nat → Int32) × Int32 × Int32 × Int32 → Option (Int32 × (Nat → Int32) × Int32 × (Nat → Int32) × (Nat → Int32) × (Nat → Int32) × Int32 × (Nat → Int32) × (Nat → Int32) × Int32 × Int32 × Int32))) (rc5 : Int32 × (Nat → Int32) × Int32 × (Nat → Int32) × (Nat → Int32) × (Nat → Int32) × (Nat → Int32) × (Nat → Int32) × Int32 × Int32 × Int32 → Option (Int32 × (Nat → Int32) × Int32 × (Nat → Int32) × (Nat → Int32) × (Nat → Int32) × Int32 × (Nat → Int32) × (Nat → Int32) × Int32 × Int32 × Int32)) (v4 : Int32 × (Nat → Int32) × Int32 × (Nat → Int32) × (Nat → Int32) × (Nat → Int32) × (Nat → Int32) × (Nat → Int32) × Int32 × Int32 × Int32) : Option (Int32 × (Nat → Int32) × Int32 × (Nat → Int32) × (Nat → Int32) × (Nat → Int32) × Int32 × (Nat → Int32) × (Nat → Int32) × Int32 × Int32 × Int32) :=
if 300 < v4.1 then (k3 (v4.2.1, v4.2.2.1, v4.2.2.2.1, v4.2.2.2.2.1, v4.2.2.2.2.2.1, v4.2.2.2.2.2.2.1, v4.2.2.2.2.2.2.2.1, v4.2.2.2.2.2.2.2.2.1, v4.2.2.2.2.2.2.2.2.2.1, v4.2.2.2.2.2.2.2.2.2.2)) else ((fX4_accepts c_input_terminals c_input_length v4.2.2.2.2.2.2.2.2.1 v4.2.2.2.2.2.2.2.2.2.1).bind fun x6 =>
if x6 = 0 then ((fX4_canMove c_table_possible c_table_lowest c_input_terminals c_input_length v4.2.2.2.2.2.2.1 v4.2.2.2.2.2.2.2.2.1 v4.2.2.2.2.2.2.2.2.2.1).bind fun x7 =>
if x7 = 0 then (some ((-5), v4.2.1, v4.2.2.1, v4.2.2.2.1, v4.2.2.2.2.1, v4.2.2.2.2.2.1, o1.2.1, v4.2.2.2.2.2.2.1, v4.2.2.2.2.2.2.2.1, v4.2.2.2.2.2.2.2.2.1, v4.2.2.2.2.2.2.2.2.2.1, v4.2.2.2.2.2.2.2.2.2.2)) else (if v4.2.2.2.2.2.2.2.2.2.2 < 300 then ((fX4_top v4.2.2.2.2.2.2.1 v4.2.2.2.2.2.2.2.2.1).bind fun x8 =>
(fX4_bringer v4.2.2.2.2.2.2.2.1 v4.2.2.2.2.2.2.2.2.1).bind fun x9 =>
(fX9_note v4.2.2.2.1 v4.2.2.2.2.1 v4.2.2.2.2.2.1 v4.2.2.2.2.2.2.2.2.2.2 x8 x9).bind fun o10 =>
(fX4_move N c_rules_codes c_rules_count c_table_possible c_table_lowest c_input_terminals c_input_length v4.2.1 v4.2.2.1 v4.2.2.2.2.2.2.1 v4.2.2.2.2.2.2.2.1 v4.2.2.2.2.2.2.2.2.1 v4.2.2.2.2.2.2.2.2.2.1 v4.2.2.2.2.2.2.2.2.2.2).bind fun o11 =>
if o11.2.2.2.2.1 ≤ 60 then (lt_ (v4.1 + 1) fun x12 =>
rc5 (x12, o11.1, o11.2.1, o10.1, o10.2.1, o10.2.2, o11.2.2.1, o11.2.2.2.1, o11.2.2.2.2.1, o11.2.2.2.2.2.1, o11.2.2.2.2.2.2)) else (some ((-6), o11.1, o11.2.1, o10.1, o10.2.1, o10.2.2, o1.2.1, o11.2.2.1, o11.2.2.2.1, o11.2.2.2.2.1, o11.2.2.2.2.2.1, o11.2.2.2.2.2.2))) else (some ((-6), v4.2.1, v4.2.2.1, v4.2.2.2.1, v4.2.2.2.2.1, v4.2.2.2.2.2.1, o1.2.1, v4.2.2.2.2.2.2.1, v4.2.2.2.2.2.2.2.1, v4.2.2.2.2.2.2.2.2.1, v4.2.2.2.2.2.2.2.2.2.1, v4.2.2.2.2.2.2.2.2.2.2)))) else ((fX9_finish N v4.2.2.2.2.1 v4.2.2.2.2.2.1 o1.2.1 v4.2.2.2.2.2.2.2.2.2.2).bind fun o13 =>
some (v4.2.2.2.2.2.2.2.2.2.2, v4.2.1, v4.2.2.1, v4.2.2.2.1, v4.2.2.2.2.1, o13.1, o13.2, v4.2.2.2.2.2.2.1, v4.2.2.2.2.2.2.2.1, v4.2.2.2.2.2.2.2.2.1, v4.2.2.2.2.2.2.2.2.2.1, v4.2.2.2.2.2.2.2.2.2.2)))
def fX4_parseInput (N : Nat) (c_rules_codes : (Nat → Int32)) (c_rules_count : Int32) (c_table_possible : (Nat → Int32)) (c_table_lowest : (Nat → Int32)) (c_input_terminals : (Nat → Int32)) (c_input_length : Int32) (c_trace : (Nat → Int32)) (c_traceLength : Int32) (c_tree_symbols : (Nat → Int32)) (c_tree_parents : (Nat → Int32)) (c_tree_heights : (Nat → Int32)) (c_tree_count : Int32) (c_stack : (Nat → Int32)) (c_bringers : (Nat → Int32)) (c_depth : Int32) (c_index : Int32) (c_steps : Int32) : Option (Int32 × (Nat → Int32) × Int32 × (Nat → Int32) × (Nat → Int32) × (Nat → Int32) × Int32 × (Nat → Int32) × (Nat → Int32) × Int32 × Int32 × Int32) :=
(fX4_begin c_traceLength c_tree_count c_stack c_bringers c_depth c_index c_steps).bind fun o1 =>
jn_ (fun (v2 : (Nat → Int32) × Int32 × (Nat → Int32) × (Nat → Int32) × (Nat → Int32) × (Nat → Int32) × (Nat → Int32) × Int32 × Int32 × Int32) => some ((-6), v2.1, v2.2.1, v2.2.2.1, v2.2.2.2.1, v2.2.2.2.2.1, o1.2.1, v2.2.2.2.2.2.1, v2.2.2.2.2.2.2.1, v2.2.2.2.2.2.2.2.1, v2.2.2.2.2.2.2.2.2.1, v2.2.2.2.2.2.2.2.2.2)) fun k3 =>
itr (bX4_parseInput_6 N c_rules_codes c_rules_count c_table_possible c_table_lowest c_input_terminals c_input_length o1 k3) N (0, c_trace, o1.1, c_tree_symbols, c_tree_parents, c_tree_heights, o1.2.2.1, o1.2.2.2.1, o1.2.2.2.2.1, o1.2.2.2.2.2.1, o1.2.2.2.2.2.2)
def fX4_noteError (c_errorParts : (Nat → Int32)) (c_errorCount : Int32) (c_index : Int32) (p1 : Int32) (p2 : Int32) : Option ((Nat → Int32) × Int32) :=
jn_ (fun (v1 : (Nat → Int32) × Int32) => some (v1.1, v1.2)) fun k2 =>
if 300 ≤ c_errorCount then (k2 (c_errorParts, c_errorCount)) else (lt_ (c_errorCount * (3 : Int32)) fun x3 =>
(as_ c_errorParts 900 x3 c_index).bind fun f4 =>
(as_ f4 900 (x3 + (1 : Int32)) p1).bind fun f5 =>
(as_ f5 900 (x3 + (2 : Int32)) p2).bind fun f6 =>
lt_ (c_errorCount + (1 : Int32)) fun x7 =>
k2 (f6, x7))
def fX11_bit (p0 : Int32) (p1 : Int32) : Option (Int32) :=
some ((p0 >>> (p1 &&& (31 : Int32))) &&& (1 : Int32))
def fX4_mayLeave (c_sets_follow : (Nat → Int32)) (c_input_terminals : (Nat → Int32)) (c_input_length : Int32) (c_synchronizing : (Nat → Int32)) (c_index : Int32) (p1 : Int32) : Option (Int32) :=
(ag c_sets_follow 8 p1).bind fun x1 =>
(ag c_synchronizing 8 p1).bind fun x2 =>
lt_ ((x1 ||| x2) ||| (256 : Int32)) fun x3 =>
(fX4_token c_input_terminals c_input_length c_index).bind fun x4 =>
(fX11_bit x3 x4).bind fun x5 =>
jn_ (fun (v6 : Int32) => gz v6 (some v6)) fun k7 =>
if x5 = 1 then (k7 1) else (k7 0)
def fX4_passError (c_sets_follow : (Nat → Int32)) (c_input_terminals : (Nat → Int32)) (c_input_length : Int32) (c_synchronizing : (Nat → Int32)) (c_errorParts : (Nat → Int32)) (c_errorCount : Int32) (c_stack : (Nat → Int32)) (c_depth : Int32) (c_index : Int32) (c_steps : Int32) : Option ((Nat → Int32) × Int32 × Int32 × Int32 × Int32) :=
(fX4_top c_stack c_depth).bind fun x1 =>
jn_ (fun (v2 : (Nat → Int32) × Int32 × Int32 × Int32) => lt_ (c_steps + (1 : Int32)) fun x3 =>
some (v2.1, v2.2.1, v2.2.2.1, v2.2.2.2, x3)) fun k4 =>
if x1 = (-1) then ((fX4_noteError c_errorParts c_errorCount c_index 3 x1).bind fun o12 =>
k4 (o12.1, o12.2, c_depth, c_input_length)) else (if 10 ≤ x1 then ((fX4_mayLeave c_sets_follow c_input_terminals c_input_length c_synchronizing c_index (x1 - (10 : Int32))).bind fun x5 =>
if x5 = 0 then ((fX4_noteError c_errorParts c_errorCount c_index 2 x1).bind fun o6 =>
lt_ (c_index + (1 : Int32)) fun x7 =>
k4 (o6.1, o6.2, c_depth, x7)) else ((fX4_noteError c_errorParts c_errorCount c_index 1 x1).bind fun o8 =>
lt_ (c_depth - (1 : Int32)) fun x9 =>
k4 (o8.1, o8.2, x9, c_index))) else ((fX4_noteError c_errorParts c_errorCount c_index 0 x1).bind fun o10 =>
lt_ (c_depth - (1 : Int32)) fun x11 =>
k4 (o10.1, o10.2, x11, c_index)))
def bX4_recoverInput_11 (N : Nat) (c_rules_codes : (Nat → Int32)) (c_rules_count : Int32) (c_sets_follow : (Nat → Int32)) (c_table_possible : (Nat → Int32)) (c_table_lowest : (Nat → Int32)) (c_input_terminals : (Nat → Int32)) (c_input_length : Int32) (c_synchronizing : (Nat → Int32)) (o1 : Int32 × Int32 × (Nat → Int32) × (Nat → Int32) × Int32 × Int32 × Int32) (k3 : ((Nat → Int32) × Int32 × (Nat → Int32) × Int32 × (Nat → Int32) × (Nat → Int32) × Int32 × Int32 × Int32 → Option (Int32 × (Nat → Int32) × Int32 × Int32 × (Nat → Int32) × Int32 × (Nat → Int32) × (Nat → Int32) × Int32 × Int32 × Int32))) (rc5 : Int32 × (Nat → Int32) × Int32 × (Nat → Int32) × Int32 × (Nat → Int32) × (Nat → Int32) × Int32 × Int32 × Int32 → Option (Int32 × (Nat → Int32) × Int32 × Int32 × (Nat → Int32) × Int32 × (Nat → Int32) × (Nat → Int32) × Int32 × Int32 × Int32)) (v4 : Int32 × (Nat → Int32) × Int32 × (Nat → Int32) × Int32 × (Nat → Int32) × (Nat → Int32) × Int32 × Int32 × Int32) : Option (Int32 × (Nat → Int32) × Int32 × Int32 × (Nat → Int32) × Int32 × (Nat → Int32) × (Nat → Int32) × Int32 × Int32 × Int32) :=
if 300 < v4.1 then (k3 (v4.2.1, v4.2.2.1, v4.2.2.2.1, v4.2.2.2.2.1, v4.2.2.2.2.2.1, v4.2.2.2.2.2.2.1, v4.2.2.2.2.2.2.2.1, v4.2.2.2.2.2.2.2.2.1, v4.2.2.2.2.2.2.2.2.2)) else ((fX4_accepts c_input_terminals c_input_length v4.2.2.2.2.2.2.2.1 v4.2.2.2.2.2.2.2.2.1).bind fun x6 =>
if x6 = 0 then (if v4.2.2.2.2.2.2.2.2.2 < 300 then ((fX4_canMove c_table_possible c_table_lowest c_input_terminals c_input_length v4.2.2.2.2.2.1 v4.2.2.2.2.2.2.2.1 v4.2.2.2.2.2.2.2.2.1).bind fun x7 =>
jn_ (fun (v8 : (Nat → Int32) × Int32 × (Nat → Int32) × Int32 × (Nat → Int32) × (Nat → Int32) × Int32 × Int32 × Int32) => if v8.2.2.2.2.2.2.1 ≤ 60 then (lt_ (v4.1 + 1) fun x9 =>
rc5 (x9, v8.1, v8.2.1, v8.2.2.1, v8.2.2.2.1, v8.2.2.2.2.1, v8.2.2.2.2.2.1, v8.2.2.2.2.2.2.1, v8.2.2.2.2.2.2.2.1, v8.2.2.2.2.2.2.2.2)) else (some ((-6), v8.1, v8.2.1, o1.2.1, v8.2.2.1, v8.2.2.2.1, v8.2.2.2.2.1, v8.2.2.2.2.2.1, v8.2.2.2.2.2.2.1, v8.2.2.2.2.2.2.2.1, v8.2.2.2.2.2.2.2.2))) fun k10 =>
if x7 = 0 then ((fX4_passError c_sets_follow c_input_terminals c_input_length c_synchronizing v4.2.2.2.1 v4.2.2.2.2.1 v4.2.2.2.2.2.1 v4.2.2.2.2.2.2.2.1 v4.2.2.2.2.2.2.2.2.1 v4.2.2.2.2.2.2.2.2.2).bind fun o11 =>
k10 (v4.2.1, v4.2.2.1, o11.1, o11.2.1, v4.2.2.2.2.2.1, v4.2.2.2.2.2.2.1, o11.2.2.1, o11.2.2.2.1, o11.2.2.2.2)) else ((fX4_move N c_rules_codes c_rules_count c_table_possible c_table_lowest c_input_terminals c_input_length v4.2.1 v4.2.2.1 v4.2.2.2.2.2.1 v4.2.2.2.2.2.2.1 v4.2.2.2.2.2.2.2.1 v4.2.2.2.2.2.2.2.2.1 v4.2.2.2.2.2.2.2.2.2).bind fun o12 =>
k10 (o12.1, o12.2.1, v4.2.2.2.1, v4.2.2.2.2.1, o12.2.2.1, o12.2.2.2.1, o12.2.2.2.2.1, o12.2.2.2.2.2.1, o12.2.2.2.2.2.2))) else (some ((-6), v4.2.1, v4.2.2.1, o1.2.1, v4.2.2.2.1, v4.2.2.2.2.1, v4.2.2.2.2.2.1, v4.2.2.2.2.2.2.1, v4.2.2.2.2.2.2.2.1, v4.2.2.2.2.2.2.2.2.1, v4.2.2.2.2.2.2.2.2.2))) else (some (v4.2.2.2.2.1, v4.2.1, v4.2.2.1, o1.2.1, v4.2.2.2.1, v4.2.2.2.2.1, v4.2.2.2.2.2.1, v4.2.2.2.2.2.2.1, v4.2.2.2.2.2.2.2.1, v4.2.2.2.2.2.2.2.2.1, v4.2.2.2.2.2.2.2.2.2)))
def fX4_recoverInput (N : Nat) (c_rules_codes : (Nat → Int32)) (c_rules_count : Int32) (c_sets_follow : (Nat → Int32)) (c_table_possible : (Nat → Int32)) (c_table_lowest : (Nat → Int32)) (c_input_terminals : (Nat → Int32)) (c_input_length : Int32) (c_synchronizing : (Nat → Int32)) (c_trace : (Nat → Int32)) (c_traceLength : Int32) (c_tree_count : Int32) (c_errorParts : (Nat → Int32)) (c_errorCount : Int32) (c_stack : (Nat → Int32)) (c_bringers : (Nat → Int32)) (c_depth : Int32) (c_index : Int32) (c_steps : Int32) : Option (Int32 × (Nat → Int32) × Int32 × Int32 × (Nat → Int32) × Int32 × (Nat → Int32) × (Nat → Int32) × Int32 × Int32 × Int32) :=
(fX4_begin c_traceLength c_tree_count c_stack c_bringers c_depth c_index c_steps).bind fun o1 =>
jn_ (fun (v2 : (Nat → Int32) × Int32 × (Nat → Int32) × Int32 × (Nat → Int32) × (Nat → Int32) × Int32 × Int32 × Int32) => some ((-6), v2.1, v2.2.1, o1.2.1, v2.2.2.1, v2.2.2.2.1, v2.2.2.2.2.1, v2.2.2.2.2.2.1, v2.2.2.2.2.2.2.1, v2.2.2.2.2.2.2.2.1, v2.2.2.2.2.2.2.2.2)) fun k3 =>
itr (bX4_recoverInput_11 N c_rules_codes c_rules_count c_sets_follow c_table_possible c_table_lowest c_input_terminals c_input_length c_synchronizing o1 k3) N (0, c_trace, o1.1, c_errorParts, 0, o1.2.2.1, o1.2.2.2.1, o1.2.2.2.2.1, o1.2.2.2.2.2.1, o1.2.2.2.2.2.2)
def fX6_isOf (p0 : Int32) (p1 : Int32) : Option (Int32) :=
(fX6_leftOf p0).bind fun x1 =>
jn_ (fun (v2 : Int32) => gz v2 (some v2)) fun k3 =>
if x1 = p1 then (k3 1) else (k3 0)
def bX6_productionsOf_4 (p1 : Int32) (c_codes : (Nat → Int32)) (c_count : Int32) (k2 : (Int32 → Option (Int32))) (rc4 : Int32 × Int32 → Option (Int32)) (v3 : Int32 × Int32) : Option (Int32) :=
if c_count ≤ v3.2 then (k2 v3.1) else ((ag c_codes 24 v3.2).bind fun x5 =>
(fX6_isOf x5 p1).bind fun x6 =>
jn_ (fun (v7 : Int32) => lt_ (v3.2 + 1) fun x8 =>
rc4 (v7, x8)) fun k9 =>
if x6 = 0 then (k9 v3.1) else (lt_ (v3.1 + 1) fun x10 =>
k9 x10))
def fX6_productionsOf (N : Nat) (c_codes : (Nat → Int32)) (c_count : Int32) (p1 : Int32) : Option (Int32) :=
jn_ (fun (v1 : Int32) => some v1) fun k2 =>
itr (bX6_productionsOf_4 p1 c_codes c_count k2) N (0, 0)
def bX8_entriesOf_4 (p1 : Int32) (c_possible : (Nat → Int32)) (k2 : (Int32 → Option (Int32))) (rc4 : Int32 × Int32 → Option (Int32)) (v3 : Int32 × Int32) : Option (Int32) :=
if 9 ≤ v3.2 then (k2 v3.1) else ((ag c_possible 72 ((p1 * (9 : Int32)) + v3.2)).bind fun x5 =>
jn_ (fun (v6 : Int32) => lt_ (v3.2 + 1) fun x7 =>
rc4 (v6, x7)) fun k8 =>
if x5 ≤ 0 then (k8 v3.1) else (lt_ (v3.1 + 1) fun x9 =>
k8 x9))
def fX8_entriesOf (N : Nat) (c_possible : (Nat → Int32)) (p1 : Int32) : Option (Int32) :=
jn_ (fun (v1 : Int32) => some v1) fun k2 =>
itr (bX8_entriesOf_4 p1 c_possible k2) N (0, 0)
def fX4_explainNoEntry (N : Nat) (c_rules_codes : (Nat → Int32)) (c_rules_count : Int32) (c_table_possible : (Nat → Int32)) (c_p1_codes : (Nat → Int32)) (c_p1_details : (Nat → Int32)) (c_p1_levels : Int32) (p2 : Int32) : Option ((Nat → Int32) × (Nat → Int32) × Int32) :=
(fX1_because c_p1_codes c_p1_details c_p1_levels 3 p2).bind fun o1 =>
(fX6_productionsOf N c_rules_codes c_rules_count p2).bind fun x2 =>
jn_ (fun (v3 : (Nat → Int32) × (Nat → Int32) × Int32) => some (v3.1, v3.2.1, v3.2.2)) fun k4 =>
if x2 = 0 then ((fX1_because o1.1 o1.2.1 o1.2.2 5 p2).bind fun o7 =>
k4 (o7.1, o7.2.1, o7.2.2)) else ((fX8_entriesOf N c_table_possible p2).bind fun x5 =>
(fX1_because o1.1 o1.2.1 o1.2.2 6 x5).bind fun o6 =>
k4 (o6.1, o6.2.1, o6.2.2))
def fX4_explain (N : Nat) (c_rules_codes : (Nat → Int32)) (c_rules_count : Int32) (c_table_possible : (Nat → Int32)) (c_input_length : Int32) (c_stack : (Nat → Int32)) (c_depth : Int32) (c_index : Int32) (c_steps : Int32) (c_p1_codes : (Nat → Int32)) (c_p1_details : (Nat → Int32)) (c_p1_levels : Int32) (p2 : Int32) : Option ((Nat → Int32) × (Nat → Int32) × Int32) :=
(fX1_begin c_p1_codes c_p1_details c_p1_levels 1 c_index).bind fun o1 =>
jn_ (fun (v2 : (Nat → Int32) × (Nat → Int32) × Int32) => some (v2.1, v2.2.1, v2.2.2)) fun k3 =>
if p2 = (-6) then ((fX1_because o1.1 o1.2.1 o1.2.2 7 c_steps).bind fun o10 =>
k3 (o10.1, o10.2.1, o10.2.2)) else (if c_depth = 0 then ((fX1_because o1.1 o1.2.1 o1.2.2 4 (c_input_length - c_index)).bind fun o9 =>
k3 (o9.1, o9.2.1, o9.2.2)) else ((fX4_top c_stack c_depth).bind fun x4 =>
if 10 ≤ x4 then ((fX4_top c_stack c_depth).bind fun x5 =>
(fX4_explainNoEntry N c_rules_codes c_rules_count c_table_possible o1.1 o1.2.1 o1.2.2 (x5 - (10 : Int32))).bind fun o6 =>
k3 (o6.1, o6.2.1, o6.2.2)) else ((fX4_top c_stack c_depth).bind fun x7 =>
(fX1_because o1.1 o1.2.1 o1.2.2 2 x7).bind fun o8 =>
k3 (o8.1, o8.2.1, o8.2.2))))
def fX4_errorPart (c_errorParts : (Nat → Int32)) (c_errorCount : Int32) (p1 : Int32) (p2 : Int32) : Option (Int32) :=
jn_ (fun (v1 : Int32) => some v1) fun k2 =>
jn_ (fun (v3 : Unit) => k2 (-2)) fun k4 =>
if p1 < 0 then (k4 ()) else (if c_errorCount ≤ p1 then (k4 ()) else ((ag c_errorParts 900 ((p1 * (3 : Int32)) + p2)).bind fun x5 =>
k2 x5))
def fX5_wordOf (p0 : Int32) (p1 : Int32) (p2 : Int32) : Option (Int32) :=
some ((((p0 * (9 : Int32)) + p1) * (18 : Int32)) + p2)
def bX5_putTerminals_2 (p1 : Int32) (p2 : Int32) (c_input_terminals : (Nat → Int32)) (c_input_length : Int32) (c_weights : (Nat → Int32)) (k2 : ((Nat → Int32) × (Nat → Int64) × (Nat → Int64) → Option ((Nat → Int32) × (Nat → Int64) × (Nat → Int64)))) (rc4 : Int32 × (Nat → Int32) × (Nat → Int64) × (Nat → Int64) → Option ((Nat → Int32) × (Nat → Int64) × (Nat → Int64))) (v3 : Int32 × (Nat → Int32) × (Nat → Int64) × (Nat → Int64)) : Option ((Nat → Int32) × (Nat → Int64) × (Nat → Int64)) :=
if 8 ≤ v3.1 then (k2 (v3.2.1, v3.2.2.1, v3.2.2.2)) else ((fX5_wordOf p1 p2 v3.1).bind fun x5 =>
jn_ (fun (v6 : (Nat → Int32) × (Nat → Int64) × (Nat → Int64)) => lt_ (v3.1 + 1) fun x7 =>
rc4 (x7, v6.1, v6.2.1, v6.2.2)) fun k8 =>
jn_ (fun (v9 : Unit) => (ag c_weights 8 v3.1).bind fun x10 =>
(fX10_putTerminal 1469 v3.2.1 v3.2.2.1 v3.2.2.2 x5 v3.1 x10).bind fun o11 =>
k8 (o11.1, o11.2.1, o11.2.2)) fun k12 =>
if p2 = p1 then (k12 ()) else (jn_ (fun (v13 : Unit) => (fX10_putNone 1469 v3.2.1 v3.2.2.1 v3.2.2.2 x5).bind fun o14 =>
k8 (o14.1, o14.2.1, o14.2.2)) fun k15 =>
if p2 = (p1 + (1 : Int32)) then ((fX3_tokenAt c_input_terminals c_input_length p1).bind fun x16 =>
if x16 = v3.1 then (k12 ()) else (k15 ())) else (k15 ())))
def fX5_putTerminals (N : Nat) (c_input_terminals : (Nat → Int32)) (c_input_length : Int32) (c_weights : (Nat → Int32)) (c_words_costs : (Nat → Int32)) (c_words_highs : (Nat → Int64)) (c_words_lows : (Nat → Int64)) (p1 : Int32) (p2 : Int32) : Option ((Nat → Int32) × (Nat → Int64) × (Nat → Int64)) :=
jn_ (fun (v1 : (Nat → Int32) × (Nat → Int64) × (Nat → Int64)) => some (v1.1, v1.2.1, v1.2.2)) fun k2 =>
itr (bX5_putTerminals_2 p1 p2 c_input_terminals c_input_length c_weights k2) N (0, c_words_costs, c_words_highs, c_words_lows)
def fX10_lowerToJoined (n : Nat) (c_costs : (Nat → Int32)) (c_highs : (Nat → Int64)) (c_lows : (Nat → Int64)) (p1 : Int32) (p2 : Int32) (p3 : Int32) : Option ((Nat → Int32) × (Nat → Int64) × (Nat → Int64)) :=
(ag c_costs n p2).bind fun x1 =>
(ag c_costs n p3).bind fun x2 =>
lt_ (x1 + x2) fun x3 =>
jn_ (fun (v4 : Unit) => some (c_costs, c_highs, c_lows)) fun k5 =>
if 41984 ≤ x3 then (k5 ()) else ((ag c_costs n p1).bind fun x6 =>
if x3 ≤ x6 then ((fX10_joinedHigh n c_costs c_highs c_lows p2 p3).bind fun x7 =>
(fX10_joinedLow n c_costs c_lows p2 p3).bind fun x8 =>
(fX10_isLess n c_costs c_highs c_lows p1 x3 x7 x8).bind fun x9 =>
jn_ (fun (v10 : (Nat → Int32) × (Nat → Int64) × (Nat → Int64)) => some (v10.1, v10.2.1, v10.2.2)) fun k11 =>
if x9 = 0 then (k11 (c_costs, c_highs, c_lows)) else ((fX10_put n c_costs c_highs c_lows p1 x3 x7 x8).bind fun o12 =>
k11 (o12.1, o12.2.1, o12.2.2))) else (k5 ()))
def bX5_extendCover_24 (p1 : Int32) (p3 : Int32) (v3 : Int32 × (Nat → Int32) × (Nat → Int64) × (Nat → Int64)) (k9 : ((Nat → Int32) × (Nat → Int64) × (Nat → Int64) → Option ((Nat → Int32) × (Nat → Int64) × (Nat → Int64)))) (rc11 : Int32 × (Nat → Int32) × (Nat → Int64) × (Nat → Int64) → Option ((Nat → Int32) × (Nat → Int64) × (Nat → Int64))) (v10 : Int32 × (Nat → Int32) × (Nat → Int64) × (Nat → Int64)) : Option ((Nat → Int32) × (Nat → Int64) × (Nat → Int64)) :=
if v3.1 < v10.1 then (k9 (v10.2.1, v10.2.2.1, v10.2.2.2)) else (if p3 < v10.1 then (k9 (v10.2.1, v10.2.2.1, v10.2.2.2)) else ((fX5_wordOf v10.1 v3.1 p1).bind fun x12 =>
(fX10_lowerToJoined 1469 v10.2.1 v10.2.2.1 v10.2.2.2 1467 ((1458 : Int32) + v10.1) x12).bind fun o13 =>
lt_ (v10.1 + 1) fun x14 =>
rc11 (x14, o13.1, o13.2.1, o13.2.2)))
def bX5_extendCover_4 (N : Nat) (p1 : Int32) (p2 : Int32) (p3 : Int32) (p4 : Int32) (k2 : ((Nat → Int32) × (Nat → Int64) × (Nat → Int64) → Option ((Nat → Int32) × (Nat → Int64) × (Nat → Int64)))) (rc4 : Int32 × (Nat → Int32) × (Nat → Int64) × (Nat → Int64) → Option ((Nat → Int32) × (Nat → Int64) × (Nat → Int64))) (v3 : Int32 × (Nat → Int32) × (Nat → Int64) × (Nat → Int64)) : Option ((Nat → Int32) × (Nat → Int64) × (Nat → Int64)) :=
if v3.1 < p4 then (k2 (v3.2.1, v3.2.2.1, v3.2.2.2)) else ((fX10_putNone 1469 v3.2.1 v3.2.2.1 v3.2.2.2 1467).bind fun o5 =>
jn_ (fun (v6 : (Nat → Int32) × (Nat → Int64) × (Nat → Int64)) => (fX10_putCopy 1469 v6.1 v6.2.1 v6.2.2 ((1458 : Int32) + v3.1) 1467).bind fun o7 =>
lt_ (v3.1 + (-1)) fun x8 =>
rc4 (x8, o7.1, o7.2.1, o7.2.2)) fun k9 =>
itr (bX5_extendCover_24 p1 p3 v3 k9) N (p2, o5.1, o5.2.1, o5.2.2))
def fX5_extendCover (N : Nat) (c_words_costs : (Nat → Int32)) (c_words_highs : (Nat → Int64)) (c_words_lows : (Nat → Int64)) (p1 : Int32) (p2 : Int32) (p3 : Int32) (p4 : Int32) (p5 : Int32) : Option ((Nat → Int32) × (Nat → Int64) × (Nat → Int64)) :=
jn_ (fun (v1 : (Nat → Int32) × (Nat → Int64) × (Nat → Int64)) => some (v1.1, v1.2.1, v1.2.2)) fun k2 =>
itr (bX5_extendCover_4 N p1 p2 p3 p4 k2) N (p5, c_words_costs, c_words_highs, c_words_lows)
def bX5_lowerBy_51 (N : Nat) (p1 : Int32) (p2 : Int32) (p3 : Int32) (x4 : Int32) (k9 : ((Nat → Int32) × (Nat → Int64) × (Nat → Int64) → Option (Int32 × (Nat → Int32) × (Nat → Int64) × (Nat → Int64)))) (rc11 : Int32 × (Nat → Int32) × (Nat → Int64) × (Nat → Int64) → Option (Int32 × (Nat → Int32) × (Nat → Int64) × (Nat → Int64))) (v10 : Int32 × (Nat → Int32) × (Nat → Int64) × (Nat → Int64)) : Option (Int32 × (Nat → Int32) × (Nat → Int64) × (Nat → Int64)) :=
if x4 < v10.1 then (k9 (v10.2.1, v10.2.2.1, v10.2.2.2)) else ((fX6_symbolOf p1 v10.1).bind fun x12 =>
jn_ (fun (v13 : Int32) => jn_ (fun (v14 : Int32) => (fX5_extendCover N v10.2.1 v10.2.2.1 v10.2.2.2 x12 p2 v13 v14 p3).bind fun o15 =>
lt_ (v10.1 + 1) fun x16 =>
rc11 (x16, o15.1, o15.2.1, o15.2.2)) fun k17 =>
if v10.1 = x4 then (k17 p3) else (k17 p2)) fun k18 =>
if v10.1 = 0 then (k18 p2) else (k18 p3))
def bX5_lowerBy_3 (p3 : Int32) (k20 : ((Nat → Int32) × (Nat → Int64) × (Nat → Int64) → Option (Int32 × (Nat → Int32) × (Nat → Int64) × (Nat → Int64)))) (rc22 : Int32 × (Nat → Int32) × (Nat → Int64) × (Nat → Int64) → Option (Int32 × (Nat → Int32) × (Nat → Int64) × (Nat → Int64))) (v21 : Int32 × (Nat → Int32) × (Nat → Int64) × (Nat → Int64)) : Option (Int32 × (Nat → Int32) × (Nat → Int64) × (Nat → Int64)) :=
if p3 < v21.1 then (k20 (v21.2.1, v21.2.2.1, v21.2.2.2)) else ((fX10_putNone 1469 v21.2.1 v21.2.2.1 v21.2.2.2 ((1458 : Int32) + v21.1)).bind fun o23 =>
lt_ (v21.1 + 1) fun x24 =>
rc22 (x24, o23.1, o23.2.1, o23.2.2))
def fX5_lowerBy (N : Nat) (c_words_costs : (Nat → Int32)) (c_words_highs : (Nat → Int64)) (c_words_lows : (Nat → Int64)) (p1 : Int32) (p2 : Int32) (p3 : Int32) : Option (Int32 × (Nat → Int32) × (Nat → Int64) × (Nat → Int64)) :=
jn_ (fun (v1 : (Nat → Int32) × (Nat → Int64) × (Nat → Int64)) => (fX10_putEmpty 1469 v1.1 v1.2.1 v1.2.2 ((1458 : Int32) + p2)).bind fun o2 =>
(fX6_lengthOf p1).bind fun x3 =>
lt_ (x3 - (1 : Int32)) fun x4 =>
jn_ (fun (v5 : (Nat → Int32) × (Nat → Int64) × (Nat → Int64)) => (fX6_leftOf p1).bind fun x6 =>
(fX5_wordOf p2 p3 ((10 : Int32) + x6)).bind fun x7 =>
(fX10_lower 1469 v5.1 v5.2.1 v5.2.2 x7 ((1458 : Int32) + p3)).bind fun o8 =>
gz o8.1 (some (o8.1, o8.2.1, o8.2.2.1, o8.2.2.2))) fun k9 =>
itr (bX5_lowerBy_51 N p1 p2 p3 x4 k9) N (0, o2.1, o2.2.1, o2.2.2)) fun k20 =>
itr (bX5_lowerBy_3 p3 k20) N (p2, c_words_costs, c_words_highs, c_words_lows)
def bX5_findWords_58 (N : Nat) (p1 : Int32) (p2 : Int32) (c_rules_codes : (Nat → Int32)) (c_rules_count : Int32) (k9 : (Int32 × (Nat → Int32) × (Nat → Int64) × (Nat → Int64) → Option ((Nat → Int32) × (Nat → Int64) × (Nat → Int64)))) (rc11 : Int32 × Int32 × (Nat → Int32) × (Nat → Int64) × (Nat → Int64) → Option ((Nat → Int32) × (Nat → Int64) × (Nat → Int64))) (v10 : Int32 × Int32 × (Nat → Int32) × (Nat → Int64) × (Nat → Int64)) : Option ((Nat → Int32) × (Nat → Int64) × (Nat → Int64)) :=
if c_rules_count ≤ v10.2.1 then (k9 (v10.1, v10.2.2.1, v10.2.2.2.1, v10.2.2.2.2)) else ((ag c_rules_codes 24 v10.2.1).bind fun x12 =>
(fX5_lowerBy N v10.2.2.1 v10.2.2.2.1 v10.2.2.2.2 x12 p1 p2).bind fun o13 =>
jn_ (fun (v14 : Int32) => lt_ (v10.2.1 + 1) fun x15 =>
rc11 (v14, x15, o13.2.1, o13.2.2.1, o13.2.2.2)) fun k16 =>
jn_ (fun (v17 : Unit) => k16 1) fun k18 =>
if o13.1 = 0 then (if v10.1 = 0 then (k16 0) else (k18 ())) else (k18 ()))
def bX5_findWords_41 (N : Nat) (p1 : Int32) (p2 : Int32) (c_rules_codes : (Nat → Int32)) (c_rules_count : Int32) (k4 : ((Nat → Int32) × (Nat → Int64) × (Nat → Int64) → Option ((Nat → Int32) × (Nat → Int64) × (Nat → Int64)))) (rc6 : Int32 × Int32 × (Nat → Int32) × (Nat → Int64) × (Nat → Int64) → Option ((Nat → Int32) × (Nat → Int64) × (Nat → Int64))) (v5 : Int32 × Int32 × (Nat → Int32) × (Nat → Int64) × (Nat → Int64)) : Option ((Nat → Int32) × (Nat → Int64) × (Nat → Int64)) :=
if 1000 ≤ v5.2.1 then (k4 (v5.2.2.1, v5.2.2.2.1, v5.2.2.2.2)) else (if v5.1 = 0 then (k4 (v5.2.2.1, v5.2.2.2.1, v5.2.2.2.2)) else (jn_ (fun (v7 : Int32 × (Nat → Int32) × (Nat → Int64) × (Nat → Int64)) => lt_ (v5.2.1 + 1) fun x8 =>
rc6 (v7.1, x8, v7.2.1, v7.2.2.1, v7.2.2.2)) fun k9 =>
itr (bX5_findWords_58 N p1 p2 c_rules_codes c_rules_count k9) N (0, 0, v5.2.2.1, v5.2.2.2.1, v5.2.2.2.2)))
def bX5_findWords_8 (p1 : Int32) (p2 : Int32) (k21 : ((Nat → Int32) × (Nat → Int64) × (Nat → Int64) → Option ((Nat → Int32) × (Nat → Int64) × (Nat → Int64)))) (rc23 : Int32 × (Nat → Int32) × (Nat → Int64) × (Nat → Int64) → Option ((Nat → Int32) × (Nat → Int64) × (Nat → Int64))) (v22 : Int32 × (Nat → Int32) × (Nat → Int64) × (Nat → Int64)) : Option ((Nat → Int32) × (Nat → Int64) × (Nat → Int64)) :=
if 8 ≤ v22.1 then (k21 (v22.2.1, v22.2.2.1, v22.2.2.2)) else ((fX5_wordOf p1 p2 ((10 : Int32) + v22.1)).bind fun x24 =>
(fX10_putNone 1469 v22.2.1 v22.2.2.1 v22.2.2.2 x24).bind fun o25 =>
lt_ (v22.1 + 1) fun x26 =>
rc23 (x26, o25.1, o25.2.1, o25.2.2))
def fX5_findWords (N : Nat) (c_rules_codes : (Nat → Int32)) (c_rules_count : Int32) (c_input_terminals : (Nat → Int32)) (c_input_length : Int32) (c_weights : (Nat → Int32)) (c_words_costs : (Nat → Int32)) (c_words_highs : (Nat → Int64)) (c_words_lows : (Nat → Int64)) (p1 : Int32) (p2 : Int32) : Option ((Nat → Int32) × (Nat → Int64) × (Nat → Int64)) :=
(fX5_putTerminals N c_input_terminals c_input_length c_weights c_words_costs c_words_highs c_words_lows p1 p2).bind fun o1 =>
jn_ (fun (v2 : (Nat → Int32) × (Nat → Int64) × (Nat → Int64)) => jn_ (fun (v3 : (Nat → Int32) × (Nat → Int64) × (Nat → Int64)) => some (v3.1, v3.2.1, v3.2.2)) fun k4 =>
itr (bX5_findWords_41 N p1 p2 c_rules_codes c_rules_count k4) N (1, 0, v2.1, v2.2.1, v2.2.2)) fun k21 =>
itr (bX5_findWords_8 p1 p2 k21) N (0, o1.1, o1.2.1, o1.2.2)
def fX10_lengthOf (n : Nat) (c_costs : (Nat → Int32)) (p1 : Int32) : Option (Int32) :=
(fX10_exists n c_costs p1).bind fun x1 =>
jn_ (fun (v2 : Int32) => some v2) fun k3 =>
if x1 = 0 then (k3 (-2)) else ((ag c_costs n p1).bind fun x4 =>
k3 (x4 >>> ((10 : Int32) &&& (31 : Int32))))
def bX5_findLeastInsertions_21 (N : Nat) (c_rules_codes : (Nat → Int32)) (c_rules_count : Int32) (c_input_terminals : (Nat → Int32)) (c_input_length : Int32) (c_weights : (Nat → Int32)) (x1 : Int32) (v8 : Int32 × (Nat → Int32) × (Nat → Int64) × (Nat → Int64)) (k12 : ((Nat → Int32) × (Nat → Int64) × (Nat → Int64) → Option (Int32 × (Nat → Int32) × (Nat → Int64) × (Nat → Int64)))) (rc14 : Int32 × (Nat → Int32) × (Nat → Int64) × (Nat → Int64) → Option (Int32 × (Nat → Int32) × (Nat → Int64) × (Nat → Int64))) (v13 : Int32 × (Nat → Int32) × (Nat → Int64) × (Nat → Int64)) : Option (Int32 × (Nat → Int32) × (Nat → Int64) × (Nat → Int64)) :=
if x1 < v13.1 then (k12 (v13.2.1, v13.2.2.1, v13.2.2.2)) else ((fX5_findWords N c_rules_codes c_rules_count c_input_terminals c_input_length c_weights v13.2.1 v13.2.2.1 v13.2.2.2 v8.1 v13.1).bind fun o15 =>
lt_ (v13.1 + 1) fun x16 =>
rc14 (x16, o15.1, o15.2.1, o15.2.2))
def bX5_findLeastInsertions_15 (N : Nat) (c_rules_codes : (Nat → Int32)) (c_rules_count : Int32) (c_input_terminals : (Nat → Int32)) (c_input_length : Int32) (c_weights : (Nat → Int32)) (x1 : Int32) (k7 : ((Nat → Int32) × (Nat → Int64) × (Nat → Int64) → Option (Int32 × (Nat → Int32) × (Nat → Int64) × (Nat → Int64)))) (rc9 : Int32 × (Nat → Int32) × (Nat → Int64) × (Nat → Int64) → Option (Int32 × (Nat → Int32) × (Nat → Int64) × (Nat → Int64))) (v8 : Int32 × (Nat → Int32) × (Nat → Int64) × (Nat → Int64)) : Option (Int32 × (Nat → Int32) × (Nat → Int64) × (Nat → Int64)) :=
if v8.1 < 0 then (k7 (v8.2.1, v8.2.2.1, v8.2.2.2)) else (jn_ (fun (v10 : (Nat → Int32) × (Nat → Int64) × (Nat → Int64)) => lt_ (v8.1 + (-1)) fun x11 =>
rc9 (x11, v10.1, v10.2.1, v10.2.2)) fun k12 =>
itr (bX5_findLeastInsertions_21 N c_rules_codes c_rules_count c_input_terminals c_input_length c_weights x1 v8 k12) N (v8.1, v8.2.1, v8.2.2.1, v8.2.2.2))
def fX5_findLeastInsertions (N : Nat) (c_rules_codes : (Nat → Int32)) (c_rules_count : Int32) (c_input_terminals : (Nat → Int32)) (c_input_length : Int32) (c_weights : (Nat → Int32)) (c_words_costs : (Nat → Int32)) (c_words_highs : (Nat → Int64)) (c_words_lows : (Nat → Int64)) : Option (Int32 × (Nat → Int32) × (Nat → Int64) × (Nat → Int64)) :=
lt_ (if 8 < c_input_length then 8 else c_input_length) fun x1 =>
jn_ (fun (v2 : (Nat → Int32) × (Nat → Int64) × (Nat → Int64)) => (fX5_wordOf 0 x1 10).bind fun x3 =>
(fX10_exists 1469 v2.1 x3).bind fun x4 =>
if x4 = 0 then (some ((-2), v2.1, v2.2.1, v2.2.2)) else ((fX10_putCopy 1469 v2.1 v2.2.1 v2.2.2 1468 x3).bind fun o5 =>
(fX10_lengthOf 1469 o5.1 1468).bind fun x6 =>
some ((x6 - x1), o5.1, o5.2.1, o5.2.2))) fun k7 =>
itr (bX5_findLeastInsertions_15 N c_rules_codes c_rules_count c_input_terminals c_input_length c_weights x1 k7) N (x1, c_words_costs, c_words_highs, c_words_lows)
def fX6_emptyOf (p0 : Int32) : Option (Int32) :=
some p0
def fX6_isRecursive (p0 : Int32) : Option (Int32) :=
(fX6_lengthOf p0).bind fun x1 =>
jn_ (fun (v2 : Int32) => gz v2 (some v2)) fun k3 =>
jn_ (fun (v4 : Unit) => k3 0) fun k5 =>
if x1 ≤ 0 then (k5 ()) else ((fX6_symbolOf p0 0).bind fun x6 =>
(fX6_leftOf p0).bind fun x7 =>
if x6 = ((10 : Int32) + x7) then (k3 1) else (k5 ()))
def fX6_extended (p0 : Int32) (p1 : Int32) : Option (Int32) :=
(fX6_lengthOf p0).bind fun x1 =>
some ((p0 + (8 : Int32)) + (p1 <<< (((6 : Int32) + ((5 : Int32) * x1)) &&& (31 : Int32))))
def fX6_extendedByArgument (p0 : Int32) (p1 : Int32) (p2 : Int32) : Option (Int32) :=
jn_ (fun (v1 : Unit) => some p0) fun k2 =>
if p0 < 0 then (k2 ()) else (if p2 = (-1) then (k2 ()) else (jn_ (fun (v3 : Int32) => jn_ (fun (v4 : Int32) => (fX6_lengthOf p0).bind fun x5 =>
jn_ (fun (v6 : Unit) => some (-1)) fun k7 =>
if x5 = p1 then (jn_ (fun (v8 : Unit) => (fX6_extended p0 p2).bind fun x9 =>
some x9) fun k10 =>
if v3 = 0 then (if v4 = 0 then (k7 ()) else (k10 ())) else (k10 ())) else (k7 ())) fun k11 =>
jn_ (fun (v12 : Unit) => k11 0) fun k13 =>
if p2 < 10 then (k13 ()) else (if 18 ≤ p2 then (k13 ()) else (k11 1))) fun k14 =>
jn_ (fun (v15 : Unit) => k14 0) fun k16 =>
if p2 < 0 then (k16 ()) else (if 8 ≤ p2 then (k16 ()) else (k14 1))))
def bX6_nonterminalsIn_4 (p0 : Int32) (k2 : (Int32 → Option (Int32))) (rc4 : Int32 × Int32 → Option (Int32)) (v3 : Int32 × Int32) : Option (Int32) :=
(fX6_lengthOf p0).bind fun x5 =>
if x5 ≤ v3.2 then (k2 v3.1) else ((fX6_symbolOf p0 v3.2).bind fun x6 =>
jn_ (fun (v7 : Int32) => lt_ (v3.2 + 1) fun x8 =>
rc4 (v7, x8)) fun k9 =>
if x6 < 10 then (k9 v3.1) else (lt_ (v3.1 ||| ((1 : Int32) <<< ((x6 - (10 : Int32)) &&& (31 : Int32)))) fun x10 =>
k9 x10))
def fX6_nonterminalsIn (N : Nat) (p0 : Int32) : Option (Int32) :=
jn_ (fun (v1 : Int32) => some v1) fun k2 =>
itr (bX6_nonterminalsIn_4 p0 k2) N (0, 0)
def bX6_prefixOf_10 (p0 : Int32) (p1 : Int32) (k4 : (Int32 → Option (Int32))) (rc6 : Int32 × Int32 → Option (Int32)) (v5 : Int32 × Int32) : Option (Int32) :=
if p1 ≤ v5.2 then (k4 v5.1) else ((fX6_symbolOf p0 v5.2).bind fun x7 =>
(fX6_extended v5.1 x7).bind fun x8 =>
lt_ (v5.2 + 1) fun x9 =>
rc6 (x8, x9))
def fX6_prefixOf (N : Nat) (p0 : Int32) (p1 : Int32) : Option (Int32) :=
(fX6_leftOf p0).bind fun x1 =>
(fX6_emptyOf x1).bind fun x2 =>
jn_ (fun (v3 : Int32) => some v3) fun k4 =>
itr (bX6_prefixOf_10 p0 p1 k4) N (x2, 0)
def bX6_suffixOf_8 (p0 : Int32) (k3 : (Int32 → Option (Int32))) (rc5 : Int32 × Int32 → Option (Int32)) (v4 : Int32 × Int32) : Option (Int32) :=
(fX6_lengthOf p0).bind fun x6 =>
if x6 ≤ v4.2 then (k3 v4.1) else ((fX6_symbolOf p0 v4.2).bind fun x7 =>
(fX6_extended v4.1 x7).bind fun x8 =>
lt_ (v4.2 + 1) fun x9 =>
rc5 (x8, x9))
def fX6_suffixOf (N : Nat) (p0 : Int32) (p1 : Int32) (p2 : Int32) : Option (Int32) :=
(fX6_emptyOf p2).bind fun x1 =>
jn_ (fun (v2 : Int32) => some v2) fun k3 =>
itr (bX6_suffixOf_8 p0 k3) N (x1, p1)
def bX6_commonPrefix_14 (p0 : Int32) (p1 : Int32) (x3 : Int32) (k5 : (Unit → Option (Int32))) (rc7 : Int32 → Option (Int32)) (v6 : Int32) : Option (Int32) :=
if x3 ≤ v6 then (k5 ()) else ((fX6_symbolOf p0 v6).bind fun x8 =>
(fX6_symbolOf p1 v6).bind fun x9 =>
if x8 = x9 then (lt_ (v6 + 1) fun x10 =>
rc7 x10) else (some v6))
def fX6_commonPrefix (N : Nat) (p0 : Int32) (p1 : Int32) : Option (Int32) :=
(fX6_lengthOf p0).bind fun x1 =>
(fX6_lengthOf p1).bind fun x2 =>
lt_ (if x2 < x1 then x2 else x1) fun x3 =>
jn_ (fun (v4 : Unit) => some x3) fun k5 =>
itr (bX6_commonPrefix_14 p0 p1 x3 k5) N 0
def bX6_find_2 (p1 : Int32) (c_codes : (Nat → Int32)) (c_count : Int32) (k2 : (Unit → Option (Int32))) (rc4 : Int32 → Option (Int32)) (v3 : Int32) : Option (Int32) :=
if c_count ≤ v3 then (k2 ()) else ((ag c_codes 24 v3).bind fun x5 =>
if x5 = p1 then (some v3) else (lt_ (v3 + 1) fun x6 =>
rc4 x6))
def fX6_find (N : Nat) (c_codes : (Nat → Int32)) (c_count : Int32) (p1 : Int32) : Option (Int32) :=
jn_ (fun (v1 : Unit) => some (-1)) fun k2 =>
itr (bX6_find_2 p1 c_codes c_count k2) N 0
def fX6_add (c_codes : (Nat → Int32)) (c_count : Int32) (p1 : Int32) : Option ((Nat → Int32) × Int32) :=
jn_ (fun (v1 : (Nat → Int32) × Int32) => some (v1.1, v1.2)) fun k2 =>
if 24 ≤ c_count then (k2 (c_codes, c_count)) else ((as_ c_codes 24 c_count p1).bind fun f3 =>
lt_ (c_count + (1 : Int32)) fun x4 =>
k2 (f3, x4))
def bX6_removeAt_4 (c_count : Int32) (k4 : ((Nat → Int32) → Option ((Nat → Int32) × Int32))) (rc6 : Int32 × (Nat → Int32) → Option ((Nat → Int32) × Int32)) (v5 : Int32 × (Nat → Int32)) : Option ((Nat → Int32) × Int32) :=
if c_count ≤ v5.1 then (k4 v5.2) else ((ag v5.2 24 v5.1).bind fun x7 =>
(as_ v5.2 24 (v5.1 - (1 : Int32)) x7).bind fun f8 =>
lt_ (v5.1 + 1) fun x9 =>
rc6 (x9, f8))
def fX6_removeAt (N : Nat) (c_codes : (Nat → Int32)) (c_count : Int32) (p1 : Int32) : Option ((Nat → Int32) × Int32) :=
lt_ (p1 + (1 : Int32)) fun x1 =>
jn_ (fun (v2 : (Nat → Int32)) => lt_ (c_count - (1 : Int32)) fun x3 =>
some (v2, x3)) fun k4 =>
itr (bX6_removeAt_4 c_count k4) N (x1, c_codes)
def fX6_removeAll (c_count : Int32) : Option (Int32) :=
some 0
def fX6_become (c_codes : (Nat → Int32)) (c_count : Int32) (c_p1_codes : (Nat → Int32)) (c_p1_count : Int32) : Option ((Nat → Int32) × Int32) :=
(acp c_p1_codes c_codes 24 24 0 0 c_p1_count).bind fun f1 =>
some (f1, c_p1_count)
def bX6_recursiveOf_4 (p1 : Int32) (c_codes : (Nat → Int32)) (c_count : Int32) (k2 : (Int32 → Option (Int32))) (rc4 : Int32 × Int32 → Option (Int32)) (v3 : Int32 × Int32) : Option (Int32) :=
if c_count ≤ v3.2 then (k2 v3.1) else ((ag c_codes 24 v3.2).bind fun x5 =>
(fX6_isOf x5 p1).bind fun x6 =>
jn_ (fun (v7 : Int32) => lt_ (v3.2 + 1) fun x8 =>
rc4 (v7, x8)) fun k9 =>
if x6 = 0 then (k9 v3.1) else ((ag c_codes 24 v3.2).bind fun x10 =>
(fX6_isRecursive x10).bind fun x11 =>
if x11 = 0 then (k9 v3.1) else (lt_ (v3.1 + 1) fun x12 =>
k9 x12)))
def fX6_recursiveOf (N : Nat) (c_codes : (Nat → Int32)) (c_count : Int32) (p1 : Int32) : Option (Int32) :=
jn_ (fun (v1 : Int32) => some v1) fun k2 =>
itr (bX6_recursiveOf_4 p1 c_codes c_count k2) N (0, 0)
def bX6_lowestFilledOther_2 (p1 : Int32) (c_codes : (Nat → Int32)) (c_count : Int32) (k2 : (Unit → Option (Int32))) (rc4 : Int32 → Option (Int32)) (v3 : Int32) : Option (Int32) :=
if c_count ≤ v3 then (k2 ()) else ((ag c_codes 24 v3).bind fun x5 =>
(fX6_isOf x5 p1).bind fun x6 =>
jn_ (fun (v7 : Unit) => lt_ (v3 + 1) fun x8 =>
rc4 x8) fun k9 =>
if x6 = 0 then (k9 ()) else ((fX6_isRecursive x5).bind fun x10 =>
if x10 = 0 then ((fX6_lengthOf x5).bind fun x11 =>
if x11 = 5 then (some v3) else (k9 ())) else (k9 ())))
def fX6_lowestFilledOther (N : Nat) (c_codes : (Nat → Int32)) (c_count : Int32) (p1 : Int32) : Option (Int32) :=
jn_ (fun (v1 : Unit) => some (-1)) fun k2 =>
itr (bX6_lowestFilledOther_2 p1 c_codes c_count k2) N 0
def bX6_unusedNonterminal_48 (v2 : Int32) (k4 : (Unit → Option (Int32))) (rc6 : Int32 → Option (Int32)) (v5 : Int32) : Option (Int32) :=
if 8 ≤ v5 then (k4 ()) else ((fX11_bit v2 v5).bind fun x7 =>
if x7 = 0 then (some v5) else (lt_ (v5 + 1) fun x8 =>
rc6 x8))
def bX6_unusedNonterminal_8 (N : Nat) (c_codes : (Nat → Int32)) (c_count : Int32) (k10 : (Int32 → Option (Int32))) (rc12 : Int32 × Int32 → Option (Int32)) (v11 : Int32 × Int32) : Option (Int32) :=
if c_count ≤ v11.2 then (k10 v11.1) else ((ag c_codes 24 v11.2).bind fun x13 =>
(fX6_leftOf x13).bind fun x14 =>
(fX6_nonterminalsIn N x13).bind fun x15 =>
lt_ (v11.1 ||| (((1 : Int32) <<< (x14 &&& (31 : Int32))) ||| x15)) fun x16 =>
lt_ (v11.2 + 1) fun x17 =>
rc12 (x16, x17))
def fX6_unusedNonterminal (N : Nat) (c_codes : (Nat → Int32)) (c_count : Int32) (p1 : Int32) : Option (Int32) :=
lt_ ((1 : Int32) ||| ((1 : Int32) <<< (p1 &&& (31 : Int32)))) fun x1 =>
jn_ (fun (v2 : Int32) => jn_ (fun (v3 : Unit) => some (-1)) fun k4 =>
itr (bX6_unusedNonterminal_48 v2 k4) N 0) fun k10 =>
itr (bX6_unusedNonterminal_8 N c_codes c_count k10) N (x1, 0)
def bX6_prefixSharedAfter_7 (N : Nat) (p1 : Int32) (p2 : Int32) (c_codes : (Nat → Int32)) (c_count : Int32) (k3 : (Int32 → Option (Int32))) (rc5 : Int32 × Int32 → Option (Int32)) (v4 : Int32 × Int32) : Option (Int32) :=
if c_count ≤ v4.2 then (k3 v4.1) else ((ag c_codes 24 p1).bind fun x6 =>
(fX6_isOf x6 p2).bind fun x7 =>
if x7 = 0 then (k3 v4.1) else ((ag c_codes 24 v4.2).bind fun x8 =>
(fX6_isOf x8 p2).bind fun x9 =>
jn_ (fun (v10 : Int32) => lt_ (v4.2 + 1) fun x11 =>
rc5 (v10, x11)) fun k12 =>
if x9 = 0 then (k12 v4.1) else ((ag c_codes 24 p1).bind fun x13 =>
(ag c_codes 24 v4.2).bind fun x14 =>
(fX6_commonPrefix N x13 x14).bind fun x15 =>
lt_ (if v4.1 < x15 then x15 else v4.1) fun x16 =>
k12 x16)))
def fX6_prefixSharedAfter (N : Nat) (c_codes : (Nat → Int32)) (c_count : Int32) (p1 : Int32) (p2 : Int32) : Option (Int32) :=
lt_ (p1 + (1 : Int32)) fun x1 =>
jn_ (fun (v2 : Int32) => some v2) fun k3 =>
itr (bX6_prefixSharedAfter_7 N p1 p2 c_codes c_count k3) N (0, x1)
def bX6_longestCommonPrefix_4 (N : Nat) (p1 : Int32) (c_codes : (Nat → Int32)) (c_count : Int32) (k2 : (Int32 → Option (Int32))) (rc4 : Int32 × Int32 → Option (Int32)) (v3 : Int32 × Int32) : Option (Int32) :=
if c_count ≤ v3.2 then (k2 v3.1) else ((fX6_prefixSharedAfter N c_codes c_count v3.2 p1).bind fun x5 =>
lt_ (if v3.1 < x5 then x5 else v3.1) fun x6 =>
lt_ (v3.2 + 1) fun x7 =>
rc4 (x6, x7))
def fX6_longestCommonPrefix (N : Nat) (c_codes : (Nat → Int32)) (c_count : Int32) (p1 : Int32) : Option (Int32) :=
jn_ (fun (v1 : Int32) => some v1) fun k2 =>
itr (bX6_longestCommonPrefix_4 N p1 c_codes c_count k2) N (0, 0)
def bX6_leadWithPrefix_2 (N : Nat) (p1 : Int32) (p2 : Int32) (c_codes : (Nat → Int32)) (c_count : Int32) (k2 : (Unit → Option (Int32))) (rc4 : Int32 → Option (Int32)) (v3 : Int32) : Option (Int32) :=
if c_count ≤ v3 then (k2 ()) else ((fX6_prefixSharedAfter N c_codes c_count v3 p1).bind fun x5 =>
if x5 = p2 then ((ag c_codes 24 v3).bind fun x7 =>
some x7) else (lt_ (v3 + 1) fun x6 =>
rc4 x6))
def fX6_leadWithPrefix (N : Nat) (c_codes : (Nat → Int32)) (c_count : Int32) (p1 : Int32) (p2 : Int32) : Option (Int32) :=
jn_ (fun (v1 : Unit) => some (-1)) fun k2 =>
itr (bX6_leadWithPrefix_2 N p1 p2 c_codes c_count k2) N 0
def bX6_factor_102 (N : Nat) (p2 : Int32) (p3 : Int32) (p4 : Int32) (c_p1_codes : (Nat → Int32)) (c_p1_count : Int32) (x1 : Int32) (k5 : ((Nat → Int32) × Int32 → Option ((Nat → Int32) × Int32))) (rc7 : Int32 × (Nat → Int32) × Int32 → Option ((Nat → Int32) × Int32)) (v6 : Int32 × (Nat → Int32) × Int32) : Option ((Nat → Int32) × Int32) :=
if c_p1_count ≤ v6.1 then (k5 (v6.2.1, v6.2.2)) else ((ag c_p1_codes 24 v6.1).bind fun x8 =>
(fX6_isOf x8 p2).bind fun x9 =>
jn_ (fun (v10 : (Nat → Int32) × Int32) => lt_ (v6.1 + 1) fun x11 =>
rc7 (x11, v10.1, v10.2)) fun k12 =>
if x9 = 0 then (k12 (v6.2.1, v6.2.2)) else ((fX6_commonPrefix N x8 x1).bind fun x13 =>
if x13 < p3 then (k12 (v6.2.1, v6.2.2)) else ((fX6_suffixOf N x8 p3 p4).bind fun x14 =>
(fX6_add v6.2.1 v6.2.2 x14).bind fun o15 =>
k12 (o15.1, o15.2))))
def bX6_factor_21 (N : Nat) (p2 : Int32) (p3 : Int32) (p4 : Int32) (c_p1_codes : (Nat → Int32)) (c_p1_count : Int32) (x1 : Int32) (k17 : ((Nat → Int32) × Int32 → Option ((Nat → Int32) × Int32))) (rc19 : Int32 × (Nat → Int32) × Int32 → Option ((Nat → Int32) × Int32)) (v18 : Int32 × (Nat → Int32) × Int32) : Option ((Nat → Int32) × Int32) :=
if c_p1_count ≤ v18.1 then (k17 (v18.2.1, v18.2.2)) else ((ag c_p1_codes 24 v18.1).bind fun x20 =>
jn_ (fun (v21 : (Nat → Int32) × Int32) => lt_ (v18.1 + 1) fun x22 =>
rc19 (x22, v21.1, v21.2)) fun k23 =>
if x20 = x1 then ((fX6_prefixOf N x20 p3).bind fun x29 =>
(fX6_extended x29 ((10 : Int32) + p4)).bind fun x30 =>
(fX6_add v18.2.1 v18.2.2 x30).bind fun o31 =>
k23 (o31.1, o31.2)) else ((fX6_isOf x20 p2).bind fun x24 =>
jn_ (fun (v25 : Unit) => (fX6_add v18.2.1 v18.2.2 x20).bind fun o26 =>
k23 (o26.1, o26.2)) fun k27 =>
if x24 = 0 then (k27 ()) else ((fX6_commonPrefix N x20 x1).bind fun x28 =>
if p3 ≤ x28 then (k23 (v18.2.1, v18.2.2)) else (k27 ()))))
def fX6_factor (N : Nat) (c_codes : (Nat → Int32)) (c_count : Int32) (c_p1_codes : (Nat → Int32)) (c_p1_count : Int32) (p2 : Int32) (p3 : Int32) (p4 : Int32) : Option ((Nat → Int32) × Int32) :=
(fX6_leadWithPrefix N c_p1_codes c_p1_count p2 p3).bind fun x1 =>
if 0 ≤ x1 then ((fX6_removeAll c_count).bind fun o2 =>
jn_ (fun (v3 : (Nat → Int32) × Int32) => jn_ (fun (v4 : (Nat → Int32) × Int32) => some (v4.1, v4.2)) fun k5 =>
itr (bX6_factor_102 N p2 p3 p4 c_p1_codes c_p1_count x1 k5) N (0, v3.1, v3.2)) fun k17 =>
itr (bX6_factor_21 N p2 p3 p4 c_p1_codes c_p1_count x1 k17) N (0, c_codes, o2)) else (some (c_codes, c_count))
def bX6_turnRecursion_77 (N : Nat) (p2 : Int32) (p3 : Int32) (c_p1_codes : (Nat → Int32)) (c_p1_count : Int32) (x1 : Int32) (k7 : ((Nat → Int32) × Int32 → Option ((Nat → Int32) × Int32))) (rc9 : Int32 × (Nat → Int32) × Int32 → Option ((Nat → Int32) × Int32)) (v8 : Int32 × (Nat → Int32) × Int32) : Option ((Nat → Int32) × Int32) :=
if c_p1_count ≤ v8.1 then (k7 (v8.2.1, v8.2.2)) else ((ag c_p1_codes 24 v8.1).bind fun x10 =>
(fX6_isOf x10 p2).bind fun x11 =>
jn_ (fun (v12 : (Nat → Int32) × Int32) => lt_ (v8.1 + 1) fun x13 =>
rc9 (x13, v12.1, v12.2)) fun k14 =>
if x11 = 0 then (k14 (v8.2.1, v8.2.2)) else ((fX6_isRecursive x10).bind fun x15 =>
if x15 = 0 then (k14 (v8.2.1, v8.2.2)) else ((fX6_suffixOf N x10 1 p3).bind fun x16 =>
(fX6_extended x16 x1).bind fun x17 =>
(fX6_add v8.2.1 v8.2.2 x17).bind fun o18 =>
k14 (o18.1, o18.2))))
def bX6_turnRecursion_13 (p2 : Int32) (c_p1_codes : (Nat → Int32)) (c_p1_count : Int32) (x1 : Int32) (k20 : ((Nat → Int32) × Int32 → Option ((Nat → Int32) × Int32))) (rc22 : Int32 × (Nat → Int32) × Int32 → Option ((Nat → Int32) × Int32)) (v21 : Int32 × (Nat → Int32) × Int32) : Option ((Nat → Int32) × Int32) :=
if c_p1_count ≤ v21.1 then (k20 (v21.2.1, v21.2.2)) else ((ag c_p1_codes 24 v21.1).bind fun x23 =>
(fX6_isOf x23 p2).bind fun x24 =>
jn_ (fun (v25 : (Nat → Int32) × Int32) => lt_ (v21.1 + 1) fun x26 =>
rc22 (x26, v25.1, v25.2)) fun k27 =>
if x24 = 0 then ((fX6_add v21.2.1 v21.2.2 x23).bind fun o31 =>
k27 (o31.1, o31.2)) else ((fX6_isRecursive x23).bind fun x28 =>
if x28 = 0 then ((fX6_extended x23 x1).bind fun x29 =>
(fX6_add v21.2.1 v21.2.2 x29).bind fun o30 =>
k27 (o30.1, o30.2)) else (k27 (v21.2.1, v21.2.2))))
def fX6_turnRecursion (N : Nat) (c_codes : (Nat → Int32)) (c_count : Int32) (c_p1_codes : (Nat → Int32)) (c_p1_count : Int32) (p2 : Int32) (p3 : Int32) : Option ((Nat → Int32) × Int32) :=
lt_ ((10 : Int32) + p3) fun x1 =>
(fX6_removeAll c_count).bind fun o2 =>
jn_ (fun (v3 : (Nat → Int32) × Int32) => jn_ (fun (v4 : (Nat → Int32) × Int32) => (fX6_emptyOf p3).bind fun x5 =>
(fX6_add v4.1 v4.2 x5).bind fun o6 =>
some (o6.1, o6.2)) fun k7 =>
itr (bX6_turnRecursion_77 N p2 p3 c_p1_codes c_p1_count x1 k7) N (0, v3.1, v3.2)) fun k20 =>
itr (bX6_turnRecursion_13 p2 c_p1_codes c_p1_count x1 k20) N (0, c_codes, o2)
def fX7_become (c_nullable : Int32) (c_first : (Nat → Int32)) (c_follow : (Nat → Int32)) (c_p1_nullable : Int32) (c_p1_first : (Nat → Int32)) (c_p1_follow : (Nat → Int32)) : Option (Int32 × (Nat → Int32) × (Nat → Int32)) :=
(acp c_p1_first c_first 8 8 0 0 8).bind fun f1 =>
(acp c_p1_follow c_follow 8 8 0 0 8).bind fun f2 =>
some (c_p1_nullable, f1, f2)
def bX7_differences_4 (c_nullable : Int32) (c_first : (Nat → Int32)) (c_follow : (Nat → Int32)) (c_p1_nullable : Int32) (c_p1_first : (Nat → Int32)) (c_p1_follow : (Nat → Int32)) (k2 : (Int32 → Option (Int32))) (rc4 : Int32 × Int32 → Option (Int32)) (v3 : Int32 × Int32) : Option (Int32) :=
if 8 ≤ v3.2 then (k2 v3.1) else ((fX11_bit c_nullable v3.2).bind fun x5 =>
(fX11_bit c_p1_nullable v3.2).bind fun x6 =>
jn_ (fun (v7 : Int32) => jn_ (fun (v8 : Int32) => lt_ (v3.2 + 1) fun x9 =>
rc4 (v8, x9)) fun k10 =>
if v7 = 0 then (lt_ (v3.1 + 1) fun x11 =>
k10 x11) else (k10 v3.1)) fun k12 =>
jn_ (fun (v13 : Unit) => k12 0) fun k14 =>
if x5 = x6 then ((ag c_first 8 v3.2).bind fun x15 =>
(ag c_p1_first 8 v3.2).bind fun x16 =>
if x15 = x16 then ((ag c_follow 8 v3.2).bind fun x17 =>
(ag c_p1_follow 8 v3.2).bind fun x18 =>
if x17 = x18 then (k12 1) else (k14 ())) else (k14 ())) else (k14 ()))
def fX7_differences (N : Nat) (c_nullable : Int32) (c_first : (Nat → Int32)) (c_follow : (Nat → Int32)) (c_p1_nullable : Int32) (c_p1_first : (Nat → Int32)) (c_p1_follow : (Nat → Int32)) : Option (Int32) :=
jn_ (fun (v1 : Int32) => some v1) fun k2 =>
itr (bX7_differences_4 c_nullable c_first c_follow c_p1_nullable c_p1_first c_p1_follow k2) N (0, 0)
def fX7_isNullable (c_nullable : Int32) (p1 : Int32) : Option (Int32) :=
jn_ (fun (v1 : Int32) => gz v1 (some v1)) fun k2 =>
jn_ (fun (v3 : Unit) => k2 0) fun k4 =>
if p1 < 10 then (k4 ()) else ((fX11_bit c_nullable (p1 - (10 : Int32))).bind fun x5 =>
if x5 = 1 then (k2 1) else (k4 ()))
def bX7_vanishes_2 (p1 : Int32) (c_nullable : Int32) (k2 : (Unit → Option (Int32))) (rc4 : Int32 → Option (Int32)) (v3 : Int32) : Option (Int32) :=
(fX6_lengthOf p1).bind fun x5 =>
if x5 ≤ v3 then (k2 ()) else ((fX6_symbolOf p1 v3).bind fun x6 =>
(fX7_isNullable c_nullable x6).bind fun x7 =>
if x7 = 0 then (some 0) else (lt_ (v3 + 1) fun x8 =>
rc4 x8))
def fX7_vanishes (N : Nat) (c_nullable : Int32) (p1 : Int32) (p2 : Int32) : Option (Int32) :=
jn_ (fun (v1 : Unit) => some 1) fun k2 =>
itr (bX7_vanishes_2 p1 c_nullable k2) N p2
def bX7_computeNullable_24 (N : Nat) (c_p1_codes : (Nat → Int32)) (c_p1_count : Int32) (k9 : (Int32 → Option (Int32))) (rc11 : Int32 × Int32 → Option (Int32)) (v10 : Int32 × Int32) : Option (Int32) :=
if c_p1_count ≤ v10.1 then (k9 v10.2) else ((ag c_p1_codes 24 v10.1).bind fun x12 =>
(fX7_vanishes N v10.2 x12 0).bind fun x13 =>
jn_ (fun (v14 : Int32) => lt_ (v10.1 + 1) fun x15 =>
rc11 (x15, v14)) fun k16 =>
if x13 = 0 then (k16 v10.2) else ((ag c_p1_codes 24 v10.1).bind fun x17 =>
(fX6_leftOf x17).bind fun x18 =>
lt_ (v10.2 ||| ((1 : Int32) <<< (x18 &&& (31 : Int32)))) fun x19 =>
k16 x19))
def bX7_computeNullable_4 (N : Nat) (c_p1_codes : (Nat → Int32)) (c_p1_count : Int32) (k2 : (Int32 → Option (Int32))) (rc4 : Int32 × Int32 × Int32 → Option (Int32)) (v3 : Int32 × Int32 × Int32) : Option (Int32) :=
if 1000 ≤ v3.2.1 then (k2 v3.2.2) else (if v3.1 = 0 then (k2 v3.2.2) else (jn_ (fun (v5 : Int32) => jn_ (fun (v6 : Int32) => lt_ (v3.2.1 + 1) fun x7 =>
rc4 (v6, x7, v5)) fun k8 =>
if v5 = v3.2.2 then (k8 0) else (k8 1)) fun k9 =>
itr (bX7_computeNullable_24 N c_p1_codes c_p1_count k9) N (0, v3.2.2)))
def fX7_computeNullable (N : Nat) (c_nullable : Int32) (c_p1_codes : (Nat → Int32)) (c_p1_count : Int32) : Option (Int32) :=
jn_ (fun (v1 : Int32) => some v1) fun k2 =>
itr (bX7_computeNullable_4 N c_p1_codes c_p1_count k2) N (1, 0, c_nullable)
def fX7_firstOf (c_first : (Nat → Int32)) (p1 : Int32) : Option (Int32) :=
jn_ (fun (v1 : Int32) => some v1) fun k2 =>
if p1 < 10 then (k2 ((1 : Int32) <<< (p1 &&& (31 : Int32)))) else ((ag c_first 8 (p1 - (10 : Int32))).bind fun x3 =>
k2 x3)
def bX7_firstFrom_5 (p1 : Int32) (c_nullable : Int32) (c_first : (Nat → Int32)) (k2 : (Int32 → Option (Int32))) (rc4 : Int32 × Int32 → Option (Int32)) (v3 : Int32 × Int32) : Option (Int32) :=
(fX6_lengthOf p1).bind fun x5 =>
if x5 ≤ v3.2 then (k2 v3.1) else ((fX6_symbolOf p1 v3.2).bind fun x6 =>
(fX7_firstOf c_first x6).bind fun x7 =>
lt_ (v3.1 ||| x7) fun x8 =>
(fX6_symbolOf p1 v3.2).bind fun x9 =>
(fX7_isNullable c_nullable x9).bind fun x10 =>
if x10 = 0 then (some x8) else (lt_ (v3.2 + 1) fun x11 =>
rc4 (x8, x11)))
def fX7_firstFrom (N : Nat) (c_nullable : Int32) (c_first : (Nat → Int32)) (p1 : Int32) (p2 : Int32) : Option (Int32) :=
jn_ (fun (v1 : Int32) => some v1) fun k2 =>
itr (bX7_firstFrom_5 p1 c_nullable c_first k2) N (0, p2)
def bX7_computeFirst_20 (N : Nat) (c_nullable : Int32) (c_p1_codes : (Nat → Int32)) (c_p1_count : Int32) (k7 : (Int32 × (Nat → Int32) → Option ((Nat → Int32)))) (rc9 : Int32 × Int32 × (Nat → Int32) → Option ((Nat → Int32))) (v8 : Int32 × Int32 × (Nat → Int32)) : Option ((Nat → Int32)) :=
if c_p1_count ≤ v8.2.1 then (k7 (v8.1, v8.2.2)) else ((ag c_p1_codes 24 v8.2.1).bind fun x10 =>
(fX6_leftOf x10).bind fun x11 =>
(ag v8.2.2 8 x11).bind fun x12 =>
(ag v8.2.2 8 x11).bind fun x13 =>
(ag c_p1_codes 24 v8.2.1).bind fun x14 =>
(fX7_firstFrom N c_nullable v8.2.2 x14 0).bind fun x15 =>
(as_ v8.2.2 8 x11 (x13 ||| x15)).bind fun f16 =>
jn_ (fun (v17 : Int32) => lt_ (v8.2.1 + 1) fun x18 =>
rc9 (v17, x18, f16)) fun k19 =>
jn_ (fun (v20 : Unit) => k19 1) fun k21 =>
if v8.1 = 0 then ((ag f16 8 x11).bind fun x22 =>
if x22 = x12 then (k19 0) else (k21 ())) else (k21 ()))
def bX7_computeFirst_4 (N : Nat) (c_nullable : Int32) (c_p1_codes : (Nat → Int32)) (c_p1_count : Int32) (k2 : ((Nat → Int32) → Option ((Nat → Int32)))) (rc4 : Int32 × Int32 × (Nat → Int32) → Option ((Nat → Int32))) (v3 : Int32 × Int32 × (Nat → Int32)) : Option ((Nat → Int32)) :=
if 1000 ≤ v3.2.1 then (k2 v3.2.2) else (if v3.1 = 0 then (k2 v3.2.2) else (jn_ (fun (v5 : Int32 × (Nat → Int32)) => lt_ (v3.2.1 + 1) fun x6 =>
rc4 (v5.1, x6, v5.2)) fun k7 =>
itr (bX7_computeFirst_20 N c_nullable c_p1_codes c_p1_count k7) N (0, 0, v3.2.2)))
def fX7_computeFirst (N : Nat) (c_nullable : Int32) (c_first : (Nat → Int32)) (c_p1_codes : (Nat → Int32)) (c_p1_count : Int32) : Option ((Nat → Int32)) :=
jn_ (fun (v1 : (Nat → Int32)) => some v1) fun k2 =>
itr (bX7_computeFirst_4 N c_nullable c_p1_codes c_p1_count k2) N (1, 0, c_first)
def bX7_spreadFollow_20 (p1 : Int32) (c_nullable : Int32) (c_first : (Nat → Int32)) (k6 : (Int32 × (Nat → Int32) → Option (Int32 × (Nat → Int32)))) (rc8 : Int32 × Int32 × Int32 × (Nat → Int32) → Option (Int32 × (Nat → Int32))) (v7 : Int32 × Int32 × Int32 × (Nat → Int32)) : Option (Int32 × (Nat → Int32)) :=
if v7.2.2.1 < 0 then (k6 (v7.1, v7.2.2.2)) else ((fX6_symbolOf p1 v7.2.2.1).bind fun x9 =>
jn_ (fun (v10 : Int32 × (Nat → Int32)) => (fX7_isNullable c_nullable x9).bind fun x11 =>
jn_ (fun (v12 : Int32) => lt_ (v7.2.2.1 + (-1)) fun x13 =>
rc8 (v10.1, v12, x13, v10.2)) fun k14 =>
if x11 = 0 then ((fX7_firstOf c_first x9).bind fun x15 =>
k14 x15) else ((fX7_firstOf c_first x9).bind fun x16 =>
k14 (v7.2.1 ||| x16))) fun k17 =>
if x9 < 10 then (k17 (v7.1, v7.2.2.2)) else (lt_ (x9 - (10 : Int32)) fun x18 =>
jn_ (fun (v19 : Int32) => (ag v7.2.2.2 8 x18).bind fun x20 =>
(as_ v7.2.2.2 8 x18 (x20 ||| v7.2.1)).bind fun f21 =>
k17 (v19, f21)) fun k22 =>
jn_ (fun (v23 : Unit) => k22 1) fun k24 =>
if v7.1 = 0 then ((ag v7.2.2.2 8 x18).bind fun x25 =>
if (v7.2.1 &&& (x25 ^^^ ((-1) : Int32))) = 0 then (k22 0) else (k24 ())) else (k24 ())))
def fX7_spreadFollow (N : Nat) (c_nullable : Int32) (c_first : (Nat → Int32)) (c_follow : (Nat → Int32)) (p1 : Int32) : Option (Int32 × (Nat → Int32)) :=
(fX6_leftOf p1).bind fun x1 =>
(ag c_follow 8 x1).bind fun x2 =>
(fX6_lengthOf p1).bind fun x3 =>
lt_ (x3 - (1 : Int32)) fun x4 =>
jn_ (fun (v5 : Int32 × (Nat → Int32)) => gz v5.1 (some (v5.1, v5.2))) fun k6 =>
itr (bX7_spreadFollow_20 p1 c_nullable c_first k6) N (0, x2, x4, c_follow)
def bX7_computeFollow_20 (N : Nat) (c_nullable : Int32) (c_first : (Nat → Int32)) (c_p1_codes : (Nat → Int32)) (c_p1_count : Int32) (k7 : (Int32 × (Nat → Int32) → Option ((Nat → Int32)))) (rc9 : Int32 × Int32 × (Nat → Int32) → Option ((Nat → Int32))) (v8 : Int32 × Int32 × (Nat → Int32)) : Option ((Nat → Int32)) :=
if c_p1_count ≤ v8.2.1 then (k7 (v8.1, v8.2.2)) else ((ag c_p1_codes 24 v8.2.1).bind fun x10 =>
(fX7_spreadFollow N c_nullable c_first v8.2.2 x10).bind fun o11 =>
jn_ (fun (v12 : Int32) => lt_ (v8.2.1 + 1) fun x13 =>
rc9 (v12, x13, o11.2)) fun k14 =>
jn_ (fun (v15 : Unit) => k14 1) fun k16 =>
if o11.1 = 0 then (if v8.1 = 0 then (k14 0) else (k16 ())) else (k16 ()))
def bX7_computeFollow_4 (N : Nat) (c_nullable : Int32) (c_first : (Nat → Int32)) (c_p1_codes : (Nat → Int32)) (c_p1_count : Int32) (k2 : ((Nat → Int32) → Option ((Nat → Int32)))) (rc4 : Int32 × Int32 × (Nat → Int32) → Option ((Nat → Int32))) (v3 : Int32 × Int32 × (Nat → Int32)) : Option ((Nat → Int32)) :=
if 1000 ≤ v3.2.1 then (k2 v3.2.2) else (if v3.1 = 0 then (k2 v3.2.2) else (jn_ (fun (v5 : Int32 × (Nat → Int32)) => lt_ (v3.2.1 + 1) fun x6 =>
rc4 (v5.1, x6, v5.2)) fun k7 =>
itr (bX7_computeFollow_20 N c_nullable c_first c_p1_codes c_p1_count k7) N (0, 0, v3.2.2)))
def fX7_computeFollow (N : Nat) (c_nullable : Int32) (c_first : (Nat → Int32)) (c_follow : (Nat → Int32)) (c_p1_codes : (Nat → Int32)) (c_p1_count : Int32) : Option ((Nat → Int32)) :=
jn_ (fun (v1 : (Nat → Int32)) => some v1) fun k2 =>
itr (bX7_computeFollow_4 N c_nullable c_first c_p1_codes c_p1_count k2) N (1, 0, c_follow)
def bX7_compute_7 (k6 : ((Nat → Int32) × (Nat → Int32) → Option (Int32 × (Nat → Int32) × (Nat → Int32)))) (rc8 : Int32 × (Nat → Int32) × (Nat → Int32) → Option (Int32 × (Nat → Int32) × (Nat → Int32))) (v7 : Int32 × (Nat → Int32) × (Nat → Int32)) : Option (Int32 × (Nat → Int32) × (Nat → Int32)) :=
if 8 ≤ v7.1 then (k6 (v7.2.1, v7.2.2)) else ((as_ v7.2.1 8 v7.1 0).bind fun f9 =>
(as_ v7.2.2 8 v7.1 0).bind fun f10 =>
lt_ (v7.1 + 1) fun x11 =>
rc8 (x11, f9, f10))
def fX7_compute (N : Nat) (c_nullable : Int32) (c_first : (Nat → Int32)) (c_follow : (Nat → Int32)) (c_p1_codes : (Nat → Int32)) (c_p1_count : Int32) : Option (Int32 × (Nat → Int32) × (Nat → Int32)) :=
jn_ (fun (v1 : (Nat → Int32) × (Nat → Int32)) => (as_ v1.2 8 0 256).bind fun f2 =>
(fX7_computeNullable N 0 c_p1_codes c_p1_count).bind fun o3 =>
(fX7_computeFirst N o3 v1.1 c_p1_codes c_p1_count).bind fun o4 =>
(fX7_computeFollow N o3 o4 f2 c_p1_codes c_p1_count).bind fun o5 =>
some (o3, o4, o5)) fun k6 =>
itr (bX7_compute_7 k6) N (0, c_first, c_follow)
def bX7_productiveOnes_25 (N : Nat) (c_p1_codes : (Nat → Int32)) (c_p1_count : Int32) (k9 : (Int32 → Option (Int32))) (rc11 : Int32 × Int32 → Option (Int32)) (v10 : Int32 × Int32) : Option (Int32) :=
if c_p1_count ≤ v10.2 then (k9 v10.1) else ((ag c_p1_codes 24 v10.2).bind fun x12 =>
(fX6_nonterminalsIn N x12).bind fun x13 =>
jn_ (fun (v14 : Int32) => lt_ (v10.2 + 1) fun x15 =>
rc11 (v14, x15)) fun k16 =>
if (x13 &&& (v10.1 ^^^ ((-1) : Int32))) = 0 then ((fX6_leftOf x12).bind fun x17 =>
lt_ (v10.1 ||| ((1 : Int32) <<< (x17 &&& (31 : Int32)))) fun x18 =>
k16 x18) else (k16 v10.1))
def bX7_productiveOnes_7 (N : Nat) (c_p1_codes : (Nat → Int32)) (c_p1_count : Int32) (k2 : (Int32 → Option (Int32))) (rc4 : Int32 × Int32 × Int32 → Option (Int32)) (v3 : Int32 × Int32 × Int32) : Option (Int32) :=
if 1000 ≤ v3.2.2 then (k2 v3.1) else (if v3.2.1 = 0 then (k2 v3.1) else (jn_ (fun (v5 : Int32) => jn_ (fun (v6 : Int32) => lt_ (v3.2.2 + 1) fun x7 =>
rc4 (v5, v6, x7)) fun k8 =>
if v5 = v3.1 then (k8 0) else (k8 1)) fun k9 =>
itr (bX7_productiveOnes_25 N c_p1_codes c_p1_count k9) N (v3.1, 0)))
def fX7_productiveOnes (N : Nat) (c_p1_codes : (Nat → Int32)) (c_p1_count : Int32) : Option (Int32) :=
jn_ (fun (v1 : Int32) => some v1) fun k2 =>
itr (bX7_productiveOnes_7 N c_p1_codes c_p1_count k2) N (0, 1, 0)
def bX7_reachableOnes_25 (N : Nat) (c_p1_codes : (Nat → Int32)) (c_p1_count : Int32) (k9 : (Int32 → Option (Int32))) (rc11 : Int32 × Int32 → Option (Int32)) (v10 : Int32 × Int32) : Option (Int32) :=
if c_p1_count ≤ v10.2 then (k9 v10.1) else ((ag c_p1_codes 24 v10.2).bind fun x12 =>
(fX6_leftOf x12).bind fun x13 =>
(fX11_bit v10.1 x13).bind fun x14 =>
jn_ (fun (v15 : Int32) => lt_ (v10.2 + 1) fun x16 =>
rc11 (v15, x16)) fun k17 =>
if x14 = 1 then ((fX6_nonterminalsIn N x12).bind fun x18 =>
lt_ (v10.1 ||| x18) fun x19 =>
k17 x19) else (k17 v10.1))
def bX7_reachableOnes_7 (N : Nat) (c_p1_codes : (Nat → Int32)) (c_p1_count : Int32) (k2 : (Int32 → Option (Int32))) (rc4 : Int32 × Int32 × Int32 → Option (Int32)) (v3 : Int32 × Int32 × Int32) : Option (Int32) :=
if 1000 ≤ v3.2.2 then (k2 v3.1) else (if v3.2.1 = 0 then (k2 v3.1) else (jn_ (fun (v5 : Int32) => jn_ (fun (v6 : Int32) => lt_ (v3.2.2 + 1) fun x7 =>
rc4 (v5, v6, x7)) fun k8 =>
if v5 = v3.1 then (k8 0) else (k8 1)) fun k9 =>
itr (bX7_reachableOnes_25 N c_p1_codes c_p1_count k9) N (v3.1, 0)))
def fX7_reachableOnes (N : Nat) (c_p1_codes : (Nat → Int32)) (c_p1_count : Int32) : Option (Int32) :=
jn_ (fun (v1 : Int32) => some v1) fun k2 =>
itr (bX7_reachableOnes_7 N c_p1_codes c_p1_count k2) N (1, 1, 0)
def bX7_nonterminalsThatBegin_4 (p1 : Int32) (c_nullable : Int32) (k2 : (Int32 → Option (Int32))) (rc4 : Int32 × Int32 → Option (Int32)) (v3 : Int32 × Int32) : Option (Int32) :=
(fX6_lengthOf p1).bind fun x5 =>
if x5 ≤ v3.2 then (k2 v3.1) else ((fX6_symbolOf p1 v3.2).bind fun x6 =>
jn_ (fun (v7 : Int32) => (fX7_isNullable c_nullable x6).bind fun x8 =>
if x8 = 0 then (some v7) else (lt_ (v3.2 + 1) fun x9 =>
rc4 (v7, x9))) fun k10 =>
if x6 < 10 then (k10 v3.1) else (lt_ (v3.1 ||| ((1 : Int32) <<< ((x6 - (10 : Int32)) &&& (31 : Int32)))) fun x11 =>
k10 x11))
def fX7_nonterminalsThatBegin (N : Nat) (c_nullable : Int32) (p1 : Int32) : Option (Int32) :=
jn_ (fun (v1 : Int32) => some v1) fun k2 =>
itr (bX7_nonterminalsThatBegin_4 p1 c_nullable k2) N (0, 0)
def bX7_closeBegins_10 (v3 : Int32 × (Nat → Int32)) (k7 : ((Nat → Int32) → Option ((Nat → Int32)))) (rc9 : Int32 × (Nat → Int32) → Option ((Nat → Int32))) (v8 : Int32 × (Nat → Int32)) : Option ((Nat → Int32)) :=
if 8 ≤ v8.1 then (k7 v8.2) else ((ag v8.2 8 v8.1).bind fun x10 =>
(fX11_bit x10 v3.1).bind fun x11 =>
jn_ (fun (v12 : (Nat → Int32)) => lt_ (v8.1 + 1) fun x13 =>
rc9 (x13, v12)) fun k14 =>
if x11 = 1 then ((ag v8.2 8 v8.1).bind fun x15 =>
(ag v8.2 8 v3.1).bind fun x16 =>
(as_ v8.2 8 v8.1 (x15 ||| x16)).bind fun f17 =>
k14 f17) else (k14 v8.2))
def bX7_closeBegins_2 (N : Nat) (k2 : ((Nat → Int32) → Option ((Nat → Int32)))) (rc4 : Int32 × (Nat → Int32) → Option ((Nat → Int32))) (v3 : Int32 × (Nat → Int32)) : Option ((Nat → Int32)) :=
if 8 ≤ v3.1 then (k2 v3.2) else (jn_ (fun (v5 : (Nat → Int32)) => lt_ (v3.1 + 1) fun x6 =>
rc4 (x6, v5)) fun k7 =>
itr (bX7_closeBegins_10 v3 k7) N (0, v3.2))
def fX7_closeBegins (N : Nat) (c_begins : (Nat → Int32)) : Option ((Nat → Int32)) :=
jn_ (fun (v1 : (Nat → Int32)) => some v1) fun k2 =>
itr (bX7_closeBegins_2 N k2) N (0, c_begins)
def bX7_leftRecursiveOnes_72 (o3 : (Nat → Int32)) (k5 : (Int32 → Option (Int32 × (Nat → Int32)))) (rc7 : Int32 × Int32 → Option (Int32 × (Nat → Int32))) (v6 : Int32 × Int32) : Option (Int32 × (Nat → Int32)) :=
if 8 ≤ v6.2 then (k5 v6.1) else ((ag o3 8 v6.2).bind fun x8 =>
lt_ (v6.1 ||| (x8 &&& ((1 : Int32) <<< (v6.2 &&& (31 : Int32))))) fun x9 =>
lt_ (v6.2 + 1) fun x10 =>
rc7 (x9, x10))
def bX7_leftRecursiveOnes_23 (N : Nat) (c_nullable : Int32) (c_p1_codes : (Nat → Int32)) (c_p1_count : Int32) (k12 : ((Nat → Int32) → Option (Int32 × (Nat → Int32)))) (rc14 : Int32 × (Nat → Int32) → Option (Int32 × (Nat → Int32))) (v13 : Int32 × (Nat → Int32)) : Option (Int32 × (Nat → Int32)) :=
if c_p1_count ≤ v13.1 then (k12 v13.2) else ((ag c_p1_codes 24 v13.1).bind fun x15 =>
(fX6_leftOf x15).bind fun x16 =>
(ag v13.2 8 x16).bind fun x17 =>
(ag c_p1_codes 24 v13.1).bind fun x18 =>
(fX7_nonterminalsThatBegin N c_nullable x18).bind fun x19 =>
(as_ v13.2 8 x16 (x17 ||| x19)).bind fun f20 =>
lt_ (v13.1 + 1) fun x21 =>
rc14 (x21, f20))
def bX7_leftRecursiveOnes_2 (k23 : ((Nat → Int32) → Option (Int32 × (Nat → Int32)))) (rc25 : Int32 × (Nat → Int32) → Option (Int32 × (Nat → Int32))) (v24 : Int32 × (Nat → Int32)) : Option (Int32 × (Nat → Int32)) :=
if 8 ≤ v24.1 then (k23 v24.2) else ((as_ v24.2 8 v24.1 0).bind fun f26 =>
lt_ (v24.1 + 1) fun x27 =>
rc25 (x27, f26))
def fX7_leftRecursiveOnes (N : Nat) (c_nullable : Int32) (c_begins : (Nat → Int32)) (c_p1_codes : (Nat → Int32)) (c_p1_count : Int32) : Option (Int32 × (Nat → Int32)) :=
jn_ (fun (v1 : (Nat → Int32)) => jn_ (fun (v2 : (Nat → Int32)) => (fX7_closeBegins N v2).bind fun o3 =>
jn_ (fun (v4 : Int32) => some (v4, o3)) fun k5 =>
itr (bX7_leftRecursiveOnes_72 o3 k5) N (0, 0)) fun k12 =>
itr (bX7_leftRecursiveOnes_23 N c_nullable c_p1_codes c_p1_count k12) N (0, v1)) fun k23 =>
itr (bX7_leftRecursiveOnes_2 k23) N (0, c_begins)
def fX8_selectOf (N : Nat) (c_sets_nullable : Int32) (c_sets_first : (Nat → Int32)) (c_sets_follow : (Nat → Int32)) (p1 : Int32) : Option (Int32) :=
(fX7_firstFrom N c_sets_nullable c_sets_first p1 0).bind fun x1 =>
(fX7_vanishes N c_sets_nullable p1 0).bind fun x2 =>
jn_ (fun (v3 : Int32) => some v3) fun k4 =>
if x2 = 0 then (k4 x1) else ((fX6_leftOf p1).bind fun x5 =>
(ag c_sets_follow 8 x5).bind fun x6 =>
k4 (x1 ||| x6))
def bX8_enter_18 (p1 : Int32) (c_select : (Nat → Int32)) (x3 : Int32) (k5 : ((Nat → Int32) × (Nat → Int32) → Option ((Nat → Int32) × (Nat → Int32)))) (rc7 : Int32 × (Nat → Int32) × (Nat → Int32) → Option ((Nat → Int32) × (Nat → Int32))) (v6 : Int32 × (Nat → Int32) × (Nat → Int32)) : Option ((Nat → Int32) × (Nat → Int32)) :=
if 9 ≤ v6.1 then (k5 (v6.2.1, v6.2.2)) else ((ag c_select 24 p1).bind fun x8 =>
(fX11_bit x8 v6.1).bind fun x9 =>
jn_ (fun (v10 : (Nat → Int32) × (Nat → Int32)) => lt_ (v6.1 + 1) fun x11 =>
rc7 (x11, v10.1, v10.2)) fun k12 =>
if x9 = 1 then ((ag v6.2.1 72 (x3 + v6.1)).bind fun x13 =>
(as_ v6.2.1 72 (x3 + v6.1) (x13 + (1 : Int32))).bind fun f14 =>
(as_ v6.2.2 72 (x3 + v6.1) p1).bind fun f15 =>
k12 (f14, f15)) else (k12 (v6.2.1, v6.2.2)))
def fX8_enter (N : Nat) (c_rules_codes : (Nat → Int32)) (c_select : (Nat → Int32)) (c_possible : (Nat → Int32)) (c_lowest : (Nat → Int32)) (p1 : Int32) : Option ((Nat → Int32) × (Nat → Int32)) :=
(ag c_rules_codes 24 p1).bind fun x1 =>
(fX6_leftOf x1).bind fun x2 =>
lt_ (x2 * (9 : Int32)) fun x3 =>
jn_ (fun (v4 : (Nat → Int32) × (Nat → Int32)) => some (v4.1, v4.2)) fun k5 =>
itr (bX8_enter_18 p1 c_select x3 k5) N (0, c_possible, c_lowest)
def fX8_pairsIn (c_possible : (Nat → Int32)) (p1 : Int32) : Option (Int32) :=
(ag c_possible 72 p1).bind fun x1 =>
(ag c_possible 72 p1).bind fun x2 =>
some ((x1 * (x2 - (1 : Int32))) / (2 : Int32))
def bX8_compute_72 (v3 : (Nat → Int32) × (Nat → Int32) × (Nat → Int32)) (k5 : (Int32 → Option ((Nat → Int32) × (Nat → Int32) × (Nat → Int32) × Int32))) (rc7 : Int32 × Int32 → Option ((Nat → Int32) × (Nat → Int32) × (Nat → Int32) × Int32)) (v6 : Int32 × Int32) : Option ((Nat → Int32) × (Nat → Int32) × (Nat → Int32) × Int32) :=
if 72 ≤ v6.1 then (k5 v6.2) else ((fX8_pairsIn v3.2.1 v6.1).bind fun x8 =>
lt_ (v6.2 + x8) fun x9 =>
lt_ (v6.1 + 1) fun x10 =>
rc7 (x10, x9))
def bX8_compute_31 (N : Nat) (c_rules_codes : (Nat → Int32)) (c_sets_nullable : Int32) (c_sets_first : (Nat → Int32)) (c_sets_follow : (Nat → Int32)) (k12 : ((Nat → Int32) × (Nat → Int32) × (Nat → Int32) → Option ((Nat → Int32) × (Nat → Int32) × (Nat → Int32) × Int32))) (rc14 : Int32 × (Nat → Int32) × (Nat → Int32) × (Nat → Int32) → Option ((Nat → Int32) × (Nat → Int32) × (Nat → Int32) × Int32)) (v13 : Int32 × (Nat → Int32) × (Nat → Int32) × (Nat → Int32)) : Option ((Nat → Int32) × (Nat → Int32) × (Nat → Int32) × Int32) :=
if v13.1 < 0 then (k12 (v13.2.1, v13.2.2.1, v13.2.2.2)) else ((ag c_rules_codes 24 v13.1).bind fun x15 =>
(fX8_selectOf N c_sets_nullable c_sets_first c_sets_follow x15).bind fun x16 =>
(as_ v13.2.1 24 v13.1 x16).bind fun f17 =>
(fX8_enter N c_rules_codes f17 v13.2.2.1 v13.2.2.2 v13.1).bind fun o18 =>
lt_ (v13.1 + (-1)) fun x19 =>
rc14 (x19, f17, o18.1, o18.2))
def bX8_compute_2 (k21 : ((Nat → Int32) → Option ((Nat → Int32) × (Nat → Int32) × (Nat → Int32) × Int32))) (rc23 : Int32 × (Nat → Int32) → Option ((Nat → Int32) × (Nat → Int32) × (Nat → Int32) × Int32)) (v22 : Int32 × (Nat → Int32)) : Option ((Nat → Int32) × (Nat → Int32) × (Nat → Int32) × Int32) :=
if 72 ≤ v22.1 then (k21 v22.2) else ((as_ v22.2 72 v22.1 0).bind fun f24 =>
lt_ (v22.1 + 1) fun x25 =>
rc23 (x25, f24))
def fX8_compute (N : Nat) (c_rules_codes : (Nat → Int32)) (c_rules_count : Int32) (c_sets_nullable : Int32) (c_sets_first : (Nat → Int32)) (c_sets_follow : (Nat → Int32)) (c_select : (Nat → Int32)) (c_possible : (Nat → Int32)) (c_lowest : (Nat → Int32)) (c_conflicts : Int32) : Option ((Nat → Int32) × (Nat → Int32) × (Nat → Int32) × Int32) :=
jn_ (fun (v1 : (Nat → Int32)) => lt_ (c_rules_count - (1 : Int32)) fun x2 =>
jn_ (fun (v3 : (Nat → Int32) × (Nat → Int32) × (Nat → Int32)) => jn_ (fun (v4 : Int32) => some (v3.1, v3.2.1, v3.2.2, v4)) fun k5 =>
itr (bX8_compute_72 v3 k5) N (0, 0)) fun k12 =>
itr (bX8_compute_31 N c_rules_codes c_sets_nullable c_sets_first c_sets_follow k12) N (x2, c_select, v1, c_lowest)) fun k21 =>
itr (bX8_compute_2 k21) N (0, c_possible)
def fX8_partOf (p0 : Int32) (p1 : Int32) : Option (Int32) :=
some ((p0 >>> (((5 : Int32) * ((3 : Int32) - p1)) &&& (31 : Int32))) &&& (31 : Int32))
def fX8_conflictOf (p0 : Int32) (p1 : Int32) (p2 : Int32) : Option (Int32) :=
lt_ (((p0 / (9 : Int32)) <<< ((5 : Int32) &&& (31 : Int32))) ||| (p0 - p0 / (9 : Int32) * (9 : Int32))) fun x1 =>
some ((((x1 <<< ((5 : Int32) &&& (31 : Int32))) ||| p1) <<< ((5 : Int32) &&& (31 : Int32))) ||| p2)
def fX8_isPossible (c_rules_codes : (Nat → Int32)) (c_select : (Nat → Int32)) (p1 : Int32) (p2 : Int32) : Option (Int32) :=
(ag c_rules_codes 24 p1).bind fun x1 =>
(fX6_isOf x1 (p2 / (9 : Int32))).bind fun x2 =>
jn_ (fun (v3 : Int32) => gz v3 (some v3)) fun k4 =>
jn_ (fun (v5 : Unit) => k4 0) fun k6 =>
if x2 = 0 then (k6 ()) else ((ag c_select 24 p1).bind fun x7 =>
(fX11_bit x7 (p2 - p2 / (9 : Int32) * (9 : Int32))).bind fun x8 =>
if x8 = 1 then (k4 1) else (k6 ()))
def bX8_conflictIn_23 (p1 : Int32) (c_rules_codes : (Nat → Int32)) (c_rules_count : Int32) (c_select : (Nat → Int32)) (v3 : Int32 × Int32) (k8 : (Int32 → Option (Int32))) (rc10 : Int32 × Int32 → Option (Int32)) (v9 : Int32 × Int32) : Option (Int32) :=
if c_rules_count ≤ v9.2 then (k8 v9.1) else ((fX8_isPossible c_rules_codes c_select v3.2 p1).bind fun x11 =>
if x11 = 0 then (k8 v9.1) else ((fX8_isPossible c_rules_codes c_select v9.2 p1).bind fun x12 =>
jn_ (fun (v13 : Int32) => lt_ (v9.2 + 1) fun x14 =>
rc10 (v13, x14)) fun k15 =>
if x12 = 0 then (k15 v9.1) else (if v9.1 = 0 then ((fX8_conflictOf p1 v3.2 v9.2).bind fun x17 =>
some x17) else (lt_ (v9.1 + (-1)) fun x16 =>
k15 x16))))
def bX8_conflictIn_5 (N : Nat) (p1 : Int32) (c_rules_codes : (Nat → Int32)) (c_rules_count : Int32) (c_select : (Nat → Int32)) (k2 : (Unit → Option (Int32))) (rc4 : Int32 × Int32 → Option (Int32)) (v3 : Int32 × Int32) : Option (Int32) :=
if c_rules_count ≤ v3.2 then (k2 ()) else (lt_ (v3.2 + (1 : Int32)) fun x5 =>
jn_ (fun (v6 : Int32) => lt_ (v3.2 + 1) fun x7 =>
rc4 (v6, x7)) fun k8 =>
itr (bX8_conflictIn_23 p1 c_rules_codes c_rules_count c_select v3 k8) N (v3.1, x5))
def fX8_conflictIn (N : Nat) (c_rules_codes : (Nat → Int32)) (c_rules_count : Int32) (c_select : (Nat → Int32)) (p1 : Int32) (p2 : Int32) : Option (Int32) :=
jn_ (fun (v1 : Unit) => some (-1)) fun k2 =>
itr (bX8_conflictIn_5 N p1 c_rules_codes c_rules_count c_select k2) N (p2, 0)
def bX8_conflictAt_4 (N : Nat) (c_rules_codes : (Nat → Int32)) (c_rules_count : Int32) (c_select : (Nat → Int32)) (c_possible : (Nat → Int32)) (k2 : (Unit → Option (Int32))) (rc4 : Int32 × Int32 → Option (Int32)) (v3 : Int32 × Int32) : Option (Int32) :=
if 72 ≤ v3.2 then (k2 ()) else ((fX8_pairsIn c_possible v3.2).bind fun x5 =>
if x5 ≤ v3.1 then (lt_ (v3.1 - x5) fun x6 =>
lt_ (v3.2 + 1) fun x7 =>
rc4 (x6, x7)) else ((fX8_conflictIn N c_rules_codes c_rules_count c_select v3.2 v3.1).bind fun x8 =>
some x8))
def fX8_conflictAt (N : Nat) (c_rules_codes : (Nat → Int32)) (c_rules_count : Int32) (c_select : (Nat → Int32)) (c_possible : (Nat → Int32)) (p1 : Int32) : Option (Int32) :=
jn_ (fun (v1 : Unit) => some (-1)) fun k2 =>
itr (bX8_conflictAt_4 N c_rules_codes c_rules_count c_select c_possible k2) N (p1, 0)
def bX8_kindOf_11 (N : Nat) (p1 : Int32) (c_rules_codes : (Nat → Int32)) (c_rules_count : Int32) (c_sets_nullable : Int32) (c_sets_first : (Nat → Int32)) (x1 : Int32) (k3 : (Int32 → Option (Int32))) (rc5 : Int32 × Int32 → Option (Int32)) (v4 : Int32 × Int32) : Option (Int32) :=
if 2 ≤ v4.2 then (k3 v4.1) else ((fX8_partOf p1 ((2 : Int32) + v4.2)).bind fun x6 =>
(fX6_has c_rules_count x6).bind fun x7 =>
jn_ (fun (v8 : Int32) => lt_ (v4.1 - v8) fun x9 =>
lt_ (v4.2 + 1) fun x10 =>
rc5 (x9, x10)) fun k11 =>
if x7 = 0 then (k11 0) else ((ag c_rules_codes 24 x6).bind fun x12 =>
(fX7_firstFrom N c_sets_nullable c_sets_first x12 0).bind fun x13 =>
(fX11_bit x13 x1).bind fun x14 =>
k11 x14))
def fX8_kindOf (N : Nat) (c_rules_codes : (Nat → Int32)) (c_rules_count : Int32) (c_sets_nullable : Int32) (c_sets_first : (Nat → Int32)) (p1 : Int32) : Option (Int32) :=
(fX8_partOf p1 1).bind fun x1 =>
jn_ (fun (v2 : Int32) => some v2) fun k3 =>
itr (bX8_kindOf_11 N p1 c_rules_codes c_rules_count c_sets_nullable c_sets_first x1 k3) N (2, 0)
def fX10_terminalOf (n : Nat) (c_costs : (Nat → Int32)) (c_highs : (Nat → Int64)) (c_lows : (Nat → Int64)) (p1 : Int32) (p2 : Int32) : Option (Int32) :=
jn_ (fun (v1 : Unit) => some (-2)) fun k2 =>
if p2 < 0 then (k2 ()) else ((fX10_lengthOf n c_costs p1).bind fun x3 =>
if p2 < x3 then ((fX10_lengthOf n c_costs p1).bind fun x4 =>
lt_ ((x4 - (1 : Int32)) - p2) fun x5 =>
jn_ (fun (v6 : Int64) => jn_ (fun (v7 : Int32) => some (((v6 >>> ((((3 : Int32) * v7) : Int32).toInt64 &&& (63 : Int64))) : Int64).toInt32 &&& (7 : Int32))) fun k8 =>
if 20 ≤ x5 then (k8 (x5 - (20 : Int32))) else (k8 x5)) fun k9 =>
if 20 ≤ x5 then ((agL c_highs n p1).bind fun x10 =>
k9 x10) else ((agL c_lows n p1).bind fun x11 =>
k9 x11)) else (k2 ()))
def fX11_productionCount (c_rules_count : Int32) : Option (Int32) :=
some c_rules_count
def fX11_leftSide (c_rules_codes : (Nat → Int32)) (c_rules_count : Int32) (p1 : Int32) : Option (Int32) :=
(fX6_has c_rules_count p1).bind fun x1 =>
jn_ (fun (v2 : Int32) => some v2) fun k3 =>
if x1 = 0 then (k3 (-1)) else ((ag c_rules_codes 24 p1).bind fun x4 =>
(fX6_leftOf x4).bind fun x5 =>
k3 x5)
def fX11_rightLength (c_rules_codes : (Nat → Int32)) (c_rules_count : Int32) (p1 : Int32) : Option (Int32) :=
(fX6_has c_rules_count p1).bind fun x1 =>
jn_ (fun (v2 : Int32) => some v2) fun k3 =>
if x1 = 0 then (k3 (-1)) else ((ag c_rules_codes 24 p1).bind fun x4 =>
(fX6_lengthOf x4).bind fun x5 =>
k3 x5)
def fX11_rightSymbol (c_rules_codes : (Nat → Int32)) (c_rules_count : Int32) (p1 : Int32) (p2 : Int32) : Option (Int32) :=
(fX6_has c_rules_count p1).bind fun x1 =>
jn_ (fun (v2 : Unit) => some (-1)) fun k3 =>
if x1 = 0 then (k3 ()) else (if p2 < 0 then (k3 ()) else ((ag c_rules_codes 24 p1).bind fun x4 =>
(fX6_lengthOf x4).bind fun x5 =>
if p2 < x5 then ((ag c_rules_codes 24 p1).bind fun x6 =>
(fX6_symbolOf x6 p2).bind fun x7 =>
some x7) else (k3 ())))
def fX11_isNonterminal (p0 : Int32) : Option (Int32) :=
jn_ (fun (v1 : Int32) => gz v1 (some v1)) fun k2 =>
jn_ (fun (v3 : Unit) => k2 0) fun k4 =>
if p0 < 0 then (k4 ()) else (if 8 ≤ p0 then (k4 ()) else (k2 1))
def fX11_nullable (c_sets_nullable : Int32) (p1 : Int32) : Option (Int32) :=
(fX11_isNonterminal p1).bind fun x1 =>
jn_ (fun (v2 : Int32) => some v2) fun k3 =>
if x1 = 0 then (k3 (-1)) else ((fX11_bit c_sets_nullable p1).bind fun x4 =>
k3 x4)
def fX11_firstSet (c_sets_first : (Nat → Int32)) (p1 : Int32) : Option (Int32) :=
(fX11_isNonterminal p1).bind fun x1 =>
jn_ (fun (v2 : Int32) => some v2) fun k3 =>
if x1 = 0 then (k3 (-1)) else ((ag c_sets_first 8 p1).bind fun x4 =>
k3 x4)
def fX11_followSet (c_sets_follow : (Nat → Int32)) (p1 : Int32) : Option (Int32) :=
(fX11_isNonterminal p1).bind fun x1 =>
jn_ (fun (v2 : Int32) => some v2) fun k3 =>
if x1 = 0 then (k3 (-1)) else ((ag c_sets_follow 8 p1).bind fun x4 =>
k3 x4)
def fX11_selectSet (c_rules_count : Int32) (c_table_select : (Nat → Int32)) (p1 : Int32) : Option (Int32) :=
(fX6_has c_rules_count p1).bind fun x1 =>
jn_ (fun (v2 : Int32) => some v2) fun k3 =>
if x1 = 0 then (k3 (-1)) else ((ag c_table_select 24 p1).bind fun x4 =>
k3 x4)
def fX11_changedNonterminals (N : Nat) (c_sets_nullable : Int32) (c_sets_first : (Nat → Int32)) (c_sets_follow : (Nat → Int32)) (c_setsBefore_nullable : Int32) (c_setsBefore_first : (Nat → Int32)) (c_setsBefore_follow : (Nat → Int32)) : Option (Int32) :=
(fX7_differences N c_sets_nullable c_sets_first c_sets_follow c_setsBefore_nullable c_setsBefore_first c_setsBefore_follow).bind fun x1 =>
some x1
def fX11_productive (N : Nat) (c_rules_codes : (Nat → Int32)) (c_rules_count : Int32) (p1 : Int32) : Option (Int32) :=
(fX11_isNonterminal p1).bind fun x1 =>
jn_ (fun (v2 : Int32) => some v2) fun k3 =>
if x1 = 0 then (k3 (-1)) else ((fX7_productiveOnes N c_rules_codes c_rules_count).bind fun x4 =>
(fX11_bit x4 p1).bind fun x5 =>
k3 x5)
def fX11_reachable (N : Nat) (c_rules_codes : (Nat → Int32)) (c_rules_count : Int32) (p1 : Int32) : Option (Int32) :=
(fX11_isNonterminal p1).bind fun x1 =>
jn_ (fun (v2 : Int32) => some v2) fun k3 =>
if x1 = 0 then (k3 (-1)) else ((fX7_reachableOnes N c_rules_codes c_rules_count).bind fun x4 =>
(fX11_bit x4 p1).bind fun x5 =>
k3 x5)
def fX11_leftRecursive (N : Nat) (c_rules_codes : (Nat → Int32)) (c_rules_count : Int32) (c_sets_nullable : Int32) (c_sets_begins : (Nat → Int32)) (p1 : Int32) : Option (Int32 × (Nat → Int32)) :=
(fX11_isNonterminal p1).bind fun x1 =>
jn_ (fun (v2 : Int32 × (Nat → Int32)) => some (v2.1, v2.2)) fun k3 =>
if x1 = 0 then (k3 ((-1), c_sets_begins)) else ((fX7_leftRecursiveOnes N c_sets_nullable c_sets_begins c_rules_codes c_rules_count).bind fun o4 =>
(fX11_bit o4.1 p1).bind fun x5 =>
k3 (x5, o4.2))
def fX11_shortestLength (N : Nat) (c_rules_codes : (Nat → Int32)) (c_rules_count : Int32) (c_examples_words_costs : (Nat → Int32)) (c_examples_words_highs : (Nat → Int64)) (c_examples_words_lows : (Nat → Int64)) (c_examples_plainKnown : Int32) (p1 : Int32) : Option (Int32 × (Nat → Int32) × (Nat → Int64) × (Nat → Int64) × Int32) :=
(fX11_isNonterminal p1).bind fun x1 =>
jn_ (fun (v2 : Int32 × (Nat → Int32) × (Nat → Int64) × (Nat → Int64) × Int32) => some (v2.1, v2.2.1, v2.2.2.1, v2.2.2.2.1, v2.2.2.2.2)) fun k3 =>
if x1 = 0 then (k3 ((-1), c_examples_words_costs, c_examples_words_highs, c_examples_words_lows, c_examples_plainKnown)) else ((fX0_shortestWord N c_rules_codes c_rules_count c_examples_words_costs c_examples_words_highs c_examples_words_lows c_examples_plainKnown p1).bind fun o4 =>
(fX10_lengthOf 362 o4.2.1 o4.1).bind fun x5 =>
k3 (x5, o4.2.1, o4.2.2.1, o4.2.2.2.1, o4.2.2.2.2))
def fX11_shortestTerminal (N : Nat) (c_rules_codes : (Nat → Int32)) (c_rules_count : Int32) (c_examples_words_costs : (Nat → Int32)) (c_examples_words_highs : (Nat → Int64)) (c_examples_words_lows : (Nat → Int64)) (c_examples_plainKnown : Int32) (p1 : Int32) (p2 : Int32) : Option (Int32 × (Nat → Int32) × (Nat → Int64) × (Nat → Int64) × Int32) :=
(fX11_isNonterminal p1).bind fun x1 =>
jn_ (fun (v2 : Int32 × (Nat → Int32) × (Nat → Int64) × (Nat → Int64) × Int32) => some (v2.1, v2.2.1, v2.2.2.1, v2.2.2.2.1, v2.2.2.2.2)) fun k3 =>
if x1 = 0 then (k3 ((-1), c_examples_words_costs, c_examples_words_highs, c_examples_words_lows, c_examples_plainKnown)) else ((fX0_shortestWord N c_rules_codes c_rules_count c_examples_words_costs c_examples_words_highs c_examples_words_lows c_examples_plainKnown p1).bind fun o4 =>
(fX10_terminalOf 362 o4.2.1 o4.2.2.1 o4.2.2.2.1 o4.1 p2).bind fun x5 =>
k3 (x5, o4.2.1, o4.2.2.1, o4.2.2.2.1, o4.2.2.2.2))
def fX11_tableEntry (c_table_possible : (Nat → Int32)) (c_table_lowest : (Nat → Int32)) (p1 : Int32) (p2 : Int32) : Option (Int32) :=
(fX11_isNonterminal p1).bind fun x1 =>
jn_ (fun (v2 : Unit) => some (-1)) fun k3 =>
if x1 = 0 then (k3 ()) else (if p2 < 0 then (k3 ()) else (if p2 ≤ 8 then ((fX8_entry c_table_possible c_table_lowest p1 p2).bind fun x4 =>
some x4) else (k3 ())))
def fX11_conflictCount (c_table_conflicts : Int32) : Option (Int32) :=
some c_table_conflicts
def fX11_isConflict (c_table_conflicts : Int32) (p1 : Int32) : Option (Int32) :=
jn_ (fun (v1 : Int32) => gz v1 (some v1)) fun k2 =>
jn_ (fun (v3 : Unit) => k2 0) fun k4 =>
if p1 < 0 then (k4 ()) else (if c_table_conflicts ≤ p1 then (k4 ()) else (k2 1))
def fX11_conflict (N : Nat) (c_rules_codes : (Nat → Int32)) (c_rules_count : Int32) (c_table_select : (Nat → Int32)) (c_table_possible : (Nat → Int32)) (c_table_conflicts : Int32) (p1 : Int32) (p2 : Int32) : Option (Int32) :=
(fX11_isConflict c_table_conflicts p1).bind fun x1 =>
jn_ (fun (v2 : Unit) => some (-1)) fun k3 =>
if x1 = 0 then (k3 ()) else (if p2 < 0 then (k3 ()) else (if p2 ≤ 3 then ((fX8_conflictAt N c_rules_codes c_rules_count c_table_select c_table_possible p1).bind fun x4 =>
(fX8_partOf x4 p2).bind fun x5 =>
some x5) else (k3 ())))
def fX11_conflictKind (N : Nat) (c_rules_codes : (Nat → Int32)) (c_rules_count : Int32) (c_sets_nullable : Int32) (c_sets_first : (Nat → Int32)) (c_table_select : (Nat → Int32)) (c_table_possible : (Nat → Int32)) (c_table_conflicts : Int32) (p1 : Int32) : Option (Int32) :=
(fX11_isConflict c_table_conflicts p1).bind fun x1 =>
jn_ (fun (v2 : Int32) => some v2) fun k3 =>
if x1 = 0 then (k3 (-1)) else ((fX8_conflictAt N c_rules_codes c_rules_count c_table_select c_table_possible p1).bind fun x4 =>
(fX8_kindOf N c_rules_codes c_rules_count c_sets_nullable c_sets_first x4).bind fun x5 =>
k3 x5)
def fX11_exampleWord (N : Nat) (c_rules_codes : (Nat → Int32)) (c_rules_count : Int32) (c_table_select : (Nat → Int32)) (c_table_possible : (Nat → Int32)) (c_examples_words_costs : (Nat → Int32)) (c_examples_words_highs : (Nat → Int64)) (c_examples_words_lows : (Nat → Int64)) (c_examples_plainKnown : Int32) (c_examples_exampleKey : Int32) (p1 : Int32) (p2 : Int32) : Option (Int32 × (Nat → Int32) × (Nat → Int64) × (Nat → Int64) × Int32 × Int32) :=
(fX8_conflictAt N c_rules_codes c_rules_count c_table_select c_table_possible p1).bind fun x1 =>
(fX8_partOf x1 ((2 : Int32) + p2)).bind fun x2 =>
(fX8_partOf x1 1).bind fun x3 =>
(fX0_exampleWord N c_rules_codes c_rules_count c_examples_words_costs c_examples_words_highs c_examples_words_lows c_examples_plainKnown c_examples_exampleKey x2 x3).bind fun o4 =>
some (o4.1, o4.2.1, o4.2.2.1, o4.2.2.2.1, o4.2.2.2.2.1, o4.2.2.2.2.2)
def fX11_exampleLength (N : Nat) (c_rules_codes : (Nat → Int32)) (c_rules_count : Int32) (c_table_select : (Nat → Int32)) (c_table_possible : (Nat → Int32)) (c_table_conflicts : Int32) (c_examples_words_costs : (Nat → Int32)) (c_examples_words_highs : (Nat → Int64)) (c_examples_words_lows : (Nat → Int64)) (c_examples_plainKnown : Int32) (c_examples_exampleKey : Int32) (p1 : Int32) (p2 : Int32) : Option (Int32 × (Nat → Int32) × (Nat → Int64) × (Nat → Int64) × Int32 × Int32) :=
(fX11_isConflict c_table_conflicts p1).bind fun x1 =>
jn_ (fun (v2 : Unit) => some ((-1), c_examples_words_costs, c_examples_words_highs, c_examples_words_lows, c_examples_plainKnown, c_examples_exampleKey)) fun k3 =>
if x1 = 0 then (k3 ()) else (if p2 < 0 then (k3 ()) else (if p2 ≤ 1 then ((fX11_exampleWord N c_rules_codes c_rules_count c_table_select c_table_possible c_examples_words_costs c_examples_words_highs c_examples_words_lows c_examples_plainKnown c_examples_exampleKey p1 p2).bind fun o4 =>
(fX10_lengthOf 362 o4.2.1 o4.1).bind fun x5 =>
some (x5, o4.2.1, o4.2.2.1, o4.2.2.2.1, o4.2.2.2.2.1, o4.2.2.2.2.2)) else (k3 ())))
def fX11_exampleTerminal (N : Nat) (c_rules_codes : (Nat → Int32)) (c_rules_count : Int32) (c_table_select : (Nat → Int32)) (c_table_possible : (Nat → Int32)) (c_table_conflicts : Int32) (c_examples_words_costs : (Nat → Int32)) (c_examples_words_highs : (Nat → Int64)) (c_examples_words_lows : (Nat → Int64)) (c_examples_plainKnown : Int32) (c_examples_exampleKey : Int32) (p1 : Int32) (p2 : Int32) (p3 : Int32) : Option (Int32 × (Nat → Int32) × (Nat → Int64) × (Nat → Int64) × Int32 × Int32) :=
(fX11_isConflict c_table_conflicts p1).bind fun x1 =>
jn_ (fun (v2 : Unit) => some ((-1), c_examples_words_costs, c_examples_words_highs, c_examples_words_lows, c_examples_plainKnown, c_examples_exampleKey)) fun k3 =>
if x1 = 0 then (k3 ()) else (if p2 < 0 then (k3 ()) else (if p2 ≤ 1 then ((fX11_exampleWord N c_rules_codes c_rules_count c_table_select c_table_possible c_examples_words_costs c_examples_words_highs c_examples_words_lows c_examples_plainKnown c_examples_exampleKey p1 p2).bind fun o4 =>
(fX10_terminalOf 362 o4.2.1 o4.2.2.1 o4.2.2.2.1 o4.1 p3).bind fun x5 =>
some (x5, o4.2.1, o4.2.2.1, o4.2.2.2.1, o4.2.2.2.2.1, o4.2.2.2.2.2)) else (k3 ())))
def fX11_check (N : Nat) (c_rules_codes : (Nat → Int32)) (c_rules_count : Int32) (c_sets_nullable : Int32) (c_sets_first : (Nat → Int32)) (c_table_select : (Nat → Int32)) (c_table_possible : (Nat → Int32)) (c_table_conflicts : Int32) (c_failure_codes : (Nat → Int32)) (c_failure_details : (Nat → Int32)) (c_failure_levels : Int32) : Option (Int32 × (Nat → Int32) × (Nat → Int32) × Int32) :=
if c_table_conflicts = 0 then (some (0, c_failure_codes, c_failure_details, c_failure_levels)) else ((fX8_conflictAt N c_rules_codes c_rules_count c_table_select c_table_possible 0).bind fun x1 =>
(fX1_begin c_failure_codes c_failure_details c_failure_levels 8 c_table_conflicts).bind fun o2 =>
(fX8_partOf x1 0).bind fun x3 =>
(fX1_because o2.1 o2.2.1 o2.2.2 9 x3).bind fun o4 =>
(fX8_kindOf N c_rules_codes c_rules_count c_sets_nullable c_sets_first x1).bind fun x5 =>
(fX8_partOf x1 1).bind fun x6 =>
(fX1_because o4.1 o4.2.1 o4.2.2 ((10 : Int32) + x5) x6).bind fun o7 =>
some ((-5), o7.1, o7.2.1, o7.2.2))
def fX11_setSynchronizing (c_parser_synchronizing : (Nat → Int32)) (p1 : Int32) (p2 : Int32) : Option (Int32 × (Nat → Int32)) :=
(fX11_isNonterminal p1).bind fun x1 =>
jn_ (fun (v2 : Unit) => some ((-1), c_parser_synchronizing)) fun k3 =>
if x1 = 0 then (k3 ()) else (if p2 < 0 then (k3 ()) else (if p2 ≤ 511 then ((ag c_parser_synchronizing 8 p1).bind fun x4 =>
(as_ c_parser_synchronizing 8 p1 p2).bind fun f5 =>
some (x4, f5)) else (k3 ())))
def fX11_appendInput (N : Nat) (c_input_terminals : (Nat → Int32)) (c_input_length : Int32) (p1 : Int32) : Option (Int32 × (Nat → Int32) × Int32) :=
(fX3_terminalsIn N p1).bind fun x1 =>
if x1 = 0 then (some ((-1), c_input_terminals, c_input_length)) else (if (c_input_length + x1) ≤ 40 then ((fX3_append N c_input_terminals c_input_length p1 x1).bind fun o2 =>
some (o2.2, o2.1, o2.2)) else (some ((-3), c_input_terminals, c_input_length)))
def fX11_clearInput (c_input_length : Int32) : Option (Int32 × Int32) :=
some (c_input_length, 0)
def fX11_inputTerminal (c_input_terminals : (Nat → Int32)) (c_input_length : Int32) (p1 : Int32) : Option (Int32) :=
jn_ (fun (v1 : Int32) => some v1) fun k2 =>
jn_ (fun (v3 : Unit) => k2 (-2)) fun k4 =>
if p1 < 0 then (k4 ()) else (if c_input_length ≤ p1 then (k4 ()) else ((ag c_input_terminals 40 p1).bind fun x5 =>
k2 x5))
def fX11_parse (N : Nat) (c_rules_codes : (Nat → Int32)) (c_rules_count : Int32) (c_table_possible : (Nat → Int32)) (c_table_lowest : (Nat → Int32)) (c_failure_codes : (Nat → Int32)) (c_failure_details : (Nat → Int32)) (c_failure_levels : Int32) (c_input_terminals : (Nat → Int32)) (c_input_length : Int32) (c_parser_trace : (Nat → Int32)) (c_parser_traceLength : Int32) (c_parser_tree_symbols : (Nat → Int32)) (c_parser_tree_parents : (Nat → Int32)) (c_parser_tree_heights : (Nat → Int32)) (c_parser_tree_count : Int32) (c_parser_stack : (Nat → Int32)) (c_parser_bringers : (Nat → Int32)) (c_parser_depth : Int32) (c_parser_index : Int32) (c_parser_steps : Int32) : Option (Int32 × (Nat → Int32) × (Nat → Int32) × Int32 × (Nat → Int32) × Int32 × (Nat → Int32) × (Nat → Int32) × (Nat → Int32) × Int32 × (Nat → Int32) × (Nat → Int32) × Int32 × Int32 × Int32) :=
(fX4_parseInput N c_rules_codes c_rules_count c_table_possible c_table_lowest c_input_terminals c_input_length c_parser_trace c_parser_traceLength c_parser_tree_symbols c_parser_tree_parents c_parser_tree_heights c_parser_tree_count c_parser_stack c_parser_bringers c_parser_depth c_parser_index c_parser_steps).bind fun o1 =>
jn_ (fun (v2 : (Nat → Int32) × (Nat → Int32) × Int32) => some (o1.1, v2.1, v2.2.1, v2.2.2, o1.2.1, o1.2.2.1, o1.2.2.2.1, o1.2.2.2.2.1, o1.2.2.2.2.2.1, o1.2.2.2.2.2.2.1, o1.2.2.2.2.2.2.2.1, o1.2.2.2.2.2.2.2.2.1, o1.2.2.2.2.2.2.2.2.2.1, o1.2.2.2.2.2.2.2.2.2.2.1, o1.2.2.2.2.2.2.2.2.2.2.2)) fun k3 =>
if 0 ≤ o1.1 then (k3 (c_failure_codes, c_failure_details, c_failure_levels)) else ((fX4_explain N c_rules_codes c_rules_count c_table_possible c_input_length o1.2.2.2.2.2.2.2.1 o1.2.2.2.2.2.2.2.2.2.1 o1.2.2.2.2.2.2.2.2.2.2.1 o1.2.2.2.2.2.2.2.2.2.2.2 c_failure_codes c_failure_details c_failure_levels o1.1).bind fun o4 =>
k3 (o4.1, o4.2.1, o4.2.2))
def fX11_recover (N : Nat) (c_rules_codes : (Nat → Int32)) (c_rules_count : Int32) (c_sets_follow : (Nat → Int32)) (c_table_possible : (Nat → Int32)) (c_table_lowest : (Nat → Int32)) (c_input_terminals : (Nat → Int32)) (c_input_length : Int32) (c_parser_synchronizing : (Nat → Int32)) (c_parser_trace : (Nat → Int32)) (c_parser_traceLength : Int32) (c_parser_tree_count : Int32) (c_parser_errorParts : (Nat → Int32)) (c_parser_errorCount : Int32) (c_parser_stack : (Nat → Int32)) (c_parser_bringers : (Nat → Int32)) (c_parser_depth : Int32) (c_parser_index : Int32) (c_parser_steps : Int32) : Option (Int32 × (Nat → Int32) × Int32 × Int32 × (Nat → Int32) × Int32 × (Nat → Int32) × (Nat → Int32) × Int32 × Int32 × Int32) :=
(fX4_recoverInput N c_rules_codes c_rules_count c_sets_follow c_table_possible c_table_lowest c_input_terminals c_input_length c_parser_synchronizing c_parser_trace c_parser_traceLength c_parser_tree_count c_parser_errorParts c_parser_errorCount c_parser_stack c_parser_bringers c_parser_depth c_parser_index c_parser_steps).bind fun o1 =>
some (o1.1, o1.2.1, o1.2.2.1, o1.2.2.2.1, o1.2.2.2.2.1, o1.2.2.2.2.2.1, o1.2.2.2.2.2.2.1, o1.2.2.2.2.2.2.2.1, o1.2.2.2.2.2.2.2.2.1, o1.2.2.2.2.2.2.2.2.2.1, o1.2.2.2.2.2.2.2.2.2.2)
def fX11_error (c_parser_errorParts : (Nat → Int32)) (c_parser_errorCount : Int32) (p1 : Int32) (p2 : Int32) : Option (Int32) :=
jn_ (fun (v1 : Unit) => some (-1)) fun k2 =>
if p2 < 0 then (k2 ()) else (if p2 ≤ 2 then ((fX4_errorPart c_parser_errorParts c_parser_errorCount p1 p2).bind fun x3 =>
some x3) else (k2 ()))
def fX11_traceLength (c_parser_traceLength : Int32) : Option (Int32) :=
some c_parser_traceLength
def fX11_trace (c_parser_trace : (Nat → Int32)) (c_parser_traceLength : Int32) (p1 : Int32) : Option (Int32) :=
jn_ (fun (v1 : Int32) => some v1) fun k2 =>
jn_ (fun (v3 : Unit) => k2 (-2)) fun k4 =>
if p1 < 0 then (k4 ()) else (if c_parser_traceLength ≤ p1 then (k4 ()) else ((ag c_parser_trace 300 p1).bind fun x5 =>
k2 x5))
def fX11_nodeCount (c_parser_tree_count : Int32) : Option (Int32) :=
some c_parser_tree_count
def fX11_nodeSymbol (c_parser_tree_symbols : (Nat → Int32)) (c_parser_tree_count : Int32) (p1 : Int32) : Option (Int32) :=
(fX9_has c_parser_tree_count p1).bind fun x1 =>
jn_ (fun (v2 : Int32) => some v2) fun k3 =>
if x1 = 0 then (k3 (-2)) else ((ag c_parser_tree_symbols 300 p1).bind fun x4 =>
k3 x4)
def fX11_nodeParent (c_parser_tree_parents : (Nat → Int32)) (c_parser_tree_count : Int32) (p1 : Int32) : Option (Int32) :=
(fX9_has c_parser_tree_count p1).bind fun x1 =>
jn_ (fun (v2 : Int32) => some v2) fun k3 =>
if x1 = 0 then (k3 (-2)) else ((ag c_parser_tree_parents 300 p1).bind fun x4 =>
k3 x4)
def fX11_nodeHeight (c_parser_tree_heights : (Nat → Int32)) (c_parser_tree_count : Int32) (p1 : Int32) : Option (Int32) :=
(fX9_has c_parser_tree_count p1).bind fun x1 =>
jn_ (fun (v2 : Int32) => some v2) fun k3 =>
if x1 = 0 then (k3 (-2)) else ((ag c_parser_tree_heights 300 p1).bind fun x4 =>
k3 x4)
def fX11_setWeight (c_repairer_weights : (Nat → Int32)) (p1 : Int32) (p2 : Int32) : Option (Int32 × (Nat → Int32)) :=
jn_ (fun (v1 : Unit) => some ((-1), c_repairer_weights)) fun k2 =>
if p1 < 0 then (k2 ()) else (if 8 ≤ p1 then (k2 ()) else (if p2 < 1 then (k2 ()) else (if p2 ≤ 9 then ((ag c_repairer_weights 8 p1).bind fun x3 =>
(as_ c_repairer_weights 8 p1 p2).bind fun f4 =>
some (x3, f4)) else (k2 ()))))
def fX11_repair (N : Nat) (c_rules_codes : (Nat → Int32)) (c_rules_count : Int32) (c_input_terminals : (Nat → Int32)) (c_input_length : Int32) (c_repairer_weights : (Nat → Int32)) (c_repairer_words_costs : (Nat → Int32)) (c_repairer_words_highs : (Nat → Int64)) (c_repairer_words_lows : (Nat → Int64)) : Option (Int32 × (Nat → Int32) × (Nat → Int64) × (Nat → Int64)) :=
if c_input_length ≤ 8 then ((fX5_findLeastInsertions N c_rules_codes c_rules_count c_input_terminals c_input_length c_repairer_weights c_repairer_words_costs c_repairer_words_highs c_repairer_words_lows).bind fun o1 =>
some (o1.1, o1.2.1, o1.2.2.1, o1.2.2.2)) else (some ((-6), c_repairer_words_costs, c_repairer_words_highs, c_repairer_words_lows))
def fX11_repairedTerminal (c_repairer_words_costs : (Nat → Int32)) (c_repairer_words_highs : (Nat → Int64)) (c_repairer_words_lows : (Nat → Int64)) (p1 : Int32) : Option (Int32) :=
(fX10_terminalOf 1469 c_repairer_words_costs c_repairer_words_highs c_repairer_words_lows 1468 p1).bind fun x1 =>
some x1
def fX11_failureLevels (c_failure_levels : Int32) : Option (Int32) :=
some c_failure_levels
def fX11_failureCode (c_failure_codes : (Nat → Int32)) (c_failure_levels : Int32) (p1 : Int32) : Option (Int32) :=
(fX1_has c_failure_levels p1).bind fun x1 =>
jn_ (fun (v2 : Int32) => some v2) fun k3 =>
if x1 = 0 then (k3 (-2)) else ((ag c_failure_codes 3 p1).bind fun x4 =>
k3 x4)
def fX11_failureDetail (c_failure_details : (Nat → Int32)) (c_failure_levels : Int32) (p1 : Int32) : Option (Int32) :=
(fX1_has c_failure_levels p1).bind fun x1 =>
jn_ (fun (v2 : Int32) => some v2) fun k3 =>
if x1 = 0 then (k3 (-2)) else ((ag c_failure_details 3 p1).bind fun x4 =>
k3 x4)
def fX11_endChange (N : Nat) (c_rules_codes : (Nat → Int32)) (c_rules_count : Int32) (c_sets_nullable : Int32) (c_sets_first : (Nat → Int32)) (c_sets_follow : (Nat → Int32)) (c_table_select : (Nat → Int32)) (c_table_possible : (Nat → Int32)) (c_table_lowest : (Nat → Int32)) (c_table_conflicts : Int32) (c_examples_plainKnown : Int32) (c_examples_exampleKey : Int32) : Option (Int32 × (Nat → Int32) × (Nat → Int32) × (Nat → Int32) × (Nat → Int32) × (Nat → Int32) × Int32 × Int32 × Int32) :=
(fX7_compute N c_sets_nullable c_sets_first c_sets_follow c_rules_codes c_rules_count).bind fun o1 =>
(fX8_compute N c_rules_codes c_rules_count o1.1 o1.2.1 o1.2.2 c_table_select c_table_possible c_table_lowest c_table_conflicts).bind fun o2 =>
(fX0_forget c_examples_plainKnown c_examples_exampleKey).bind fun o3 =>
some (o1.1, o1.2.1, o1.2.2, o2.1, o2.2.1, o2.2.2.1, o2.2.2.2, o3.1, o3.2)
def fX11_reportRewriting (c_failure_codes : (Nat → Int32)) (c_failure_details : (Nat → Int32)) (c_failure_levels : Int32) (p1 : Int32) (p2 : Int32) (p3 : Int32) : Option ((Nat → Int32) × (Nat → Int32) × Int32) :=
(fX1_begin c_failure_codes c_failure_details c_failure_levels 15 p1).bind fun o1 =>
(fX1_because o1.1 o1.2.1 o1.2.2 p2 p3).bind fun o2 =>
some (o2.1, o2.2.1, o2.2.2)
def fX11_leavesNoRoom (c_rules_count : Int32) (c_failure_codes : (Nat → Int32)) (c_failure_details : (Nat → Int32)) (c_failure_levels : Int32) (p1 : Int32) (p2 : Int32) : Option (Int32 × (Nat → Int32) × (Nat → Int32) × Int32) :=
if 0 ≤ p2 then (if c_rules_count < 24 then (some (0, c_failure_codes, c_failure_details, c_failure_levels)) else ((fX11_reportRewriting c_failure_codes c_failure_details c_failure_levels p1 17 (c_rules_count + (1 : Int32))).bind fun o1 =>
some (1, o1.1, o1.2.1, o1.2.2))) else ((fX11_reportRewriting c_failure_codes c_failure_details c_failure_levels p1 16 0).bind fun o2 =>
some (1, o2.1, o2.2.1, o2.2.2))
def fX11_hindersRemoval (N : Nat) (c_rules_codes : (Nat → Int32)) (c_rules_count : Int32) (c_failure_codes : (Nat → Int32)) (c_failure_details : (Nat → Int32)) (c_failure_levels : Int32) (p1 : Int32) : Option (Int32 × (Nat → Int32) × (Nat → Int32) × Int32) :=
(fX6_emptyOf p1).bind fun x1 =>
(fX6_extended x1 ((10 : Int32) + p1)).bind fun x2 =>
(fX6_find N c_rules_codes c_rules_count x2).bind fun x3 =>
if x3 < 0 then ((fX6_productionsOf N c_rules_codes c_rules_count p1).bind fun x4 =>
(fX6_recursiveOf N c_rules_codes c_rules_count p1).bind fun x5 =>
if x5 = x4 then ((fX11_reportRewriting c_failure_codes c_failure_details c_failure_levels p1 19 x4).bind fun o8 =>
some (1, o8.1, o8.2.1, o8.2.2)) else ((fX6_lowestFilledOther N c_rules_codes c_rules_count p1).bind fun x6 =>
if x6 < 0 then (some (0, c_failure_codes, c_failure_details, c_failure_levels)) else ((fX11_reportRewriting c_failure_codes c_failure_details c_failure_levels p1 20 x6).bind fun o7 =>
some (1, o7.1, o7.2.1, o7.2.2)))) else ((fX11_reportRewriting c_failure_codes c_failure_details c_failure_levels p1 18 x3).bind fun o9 =>
some (1, o9.1, o9.2.1, o9.2.2))
def fX12_in (p0 : Int32) (p1 : Int32) (p2 : Int32) : Option (Int32) :=
jn_ (fun (v1 : Int32) => gz v1 (some v1)) fun k2 =>
jn_ (fun (v3 : Unit) => k2 0) fun k4 =>
if p0 < p1 then (k4 ()) else (if p2 < p0 then (k4 ()) else (k2 1))
def fX12_isName (p0 : Int32) : Option (Int32) :=
(fX12_in p0 0 7).bind fun x1 =>
gz x1 (some x1)
def fX12_isSymbol (p0 : Int32) : Option (Int32) :=
(fX12_in p0 0 7).bind fun x1 =>
jn_ (fun (v2 : Int32) => gz v2 (some v2)) fun k3 =>
jn_ (fun (v4 : Unit) => k3 1) fun k5 =>
if x1 = 0 then ((fX12_in p0 10 17).bind fun x6 =>
if x6 = 0 then (k3 0) else (k5 ())) else (k5 ())
def fX12_isRule (c_rules : Int32) (p1 : Int32) : Option (Int32) :=
(fX12_in p1 0 (c_rules - (1 : Int32))).bind fun x1 =>
gz x1 (some x1)
def fX12_symbol (c_rights : (Nat → Int32)) (p1 : Int32) (p2 : Int32) : Option (Int32) :=
(ag c_rights 120 (((5 : Int32) * p1) + p2)).bind fun x1 =>
some x1
def bX12_lays_60 (p1 : Int32) (c_rights : (Nat → Int32)) (k4 : ((Nat → Int32) → Option ((Nat → Int32) × (Nat → Int32) × (Nat → Int32) × (Nat → Int32)))) (rc6 : Int32 × (Nat → Int32) → Option ((Nat → Int32) × (Nat → Int32) × (Nat → Int32) × (Nat → Int32))) (v5 : Int32 × (Nat → Int32)) : Option ((Nat → Int32) × (Nat → Int32) × (Nat → Int32) × (Nat → Int32)) :=
if 120 ≤ v5.1 then (k4 v5.2) else ((ag c_rights 120 v5.1).bind fun x7 =>
(as_ v5.2 1200 (((120 : Int32) * p1) + v5.1) x7).bind fun f8 =>
lt_ (v5.1 + 1) fun x9 =>
rc6 (x9, f8))
def bX12_lays_12 (p1 : Int32) (c_lefts : (Nat → Int32)) (c_sizes : (Nat → Int32)) (k11 : ((Nat → Int32) × (Nat → Int32) → Option ((Nat → Int32) × (Nat → Int32) × (Nat → Int32) × (Nat → Int32)))) (rc13 : Int32 × (Nat → Int32) × (Nat → Int32) → Option ((Nat → Int32) × (Nat → Int32) × (Nat → Int32) × (Nat → Int32))) (v12 : Int32 × (Nat → Int32) × (Nat → Int32)) : Option ((Nat → Int32) × (Nat → Int32) × (Nat → Int32) × (Nat → Int32)) :=
if 24 ≤ v12.1 then (k11 (v12.2.1, v12.2.2)) else ((ag c_lefts 24 v12.1).bind fun x14 =>
(as_ v12.2.1 240 (((24 : Int32) * p1) + v12.1) x14).bind fun f15 =>
(ag c_sizes 24 v12.1).bind fun x16 =>
(as_ v12.2.2 240 (((24 : Int32) * p1) + v12.1) x16).bind fun f17 =>
lt_ (v12.1 + 1) fun x18 =>
rc13 (x18, f15, f17))
def fX12_lays (N : Nat) (c_rules : Int32) (c_lefts : (Nat → Int32)) (c_sizes : (Nat → Int32)) (c_rights : (Nat → Int32)) (c_pastRules : (Nat → Int32)) (c_pastLefts : (Nat → Int32)) (c_pastSizes : (Nat → Int32)) (c_pastRights : (Nat → Int32)) (p1 : Int32) : Option ((Nat → Int32) × (Nat → Int32) × (Nat → Int32) × (Nat → Int32)) :=
(as_ c_pastRules 10 p1 c_rules).bind fun f1 =>
jn_ (fun (v2 : (Nat → Int32) × (Nat → Int32)) => jn_ (fun (v3 : (Nat → Int32)) => some (f1, v2.1, v2.2, v3)) fun k4 =>
itr (bX12_lays_60 p1 c_rights k4) N (0, c_pastRights)) fun k11 =>
itr (bX12_lays_12 p1 c_lefts c_sizes k11) N (0, c_pastLefts, c_pastSizes)
def bX12_laysBack_60 (p1 : Int32) (c_pastRights : (Nat → Int32)) (k4 : ((Nat → Int32) → Option (Int32 × (Nat → Int32) × (Nat → Int32) × (Nat → Int32)))) (rc6 : Int32 × (Nat → Int32) → Option (Int32 × (Nat → Int32) × (Nat → Int32) × (Nat → Int32))) (v5 : Int32 × (Nat → Int32)) : Option (Int32 × (Nat → Int32) × (Nat → Int32) × (Nat → Int32)) :=
if 120 ≤ v5.1 then (k4 v5.2) else ((ag c_pastRights 1200 (((120 : Int32) * p1) + v5.1)).bind fun x7 =>
(as_ v5.2 120 v5.1 x7).bind fun f8 =>
lt_ (v5.1 + 1) fun x9 =>
rc6 (x9, f8))
def bX12_laysBack_12 (p1 : Int32) (c_pastLefts : (Nat → Int32)) (c_pastSizes : (Nat → Int32)) (k11 : ((Nat → Int32) × (Nat → Int32) → Option (Int32 × (Nat → Int32) × (Nat → Int32) × (Nat → Int32)))) (rc13 : Int32 × (Nat → Int32) × (Nat → Int32) → Option (Int32 × (Nat → Int32) × (Nat → Int32) × (Nat → Int32))) (v12 : Int32 × (Nat → Int32) × (Nat → Int32)) : Option (Int32 × (Nat → Int32) × (Nat → Int32) × (Nat → Int32)) :=
if 24 ≤ v12.1 then (k11 (v12.2.1, v12.2.2)) else ((ag c_pastLefts 240 (((24 : Int32) * p1) + v12.1)).bind fun x14 =>
(as_ v12.2.1 24 v12.1 x14).bind fun f15 =>
(ag c_pastSizes 240 (((24 : Int32) * p1) + v12.1)).bind fun x16 =>
(as_ v12.2.2 24 v12.1 x16).bind fun f17 =>
lt_ (v12.1 + 1) fun x18 =>
rc13 (x18, f15, f17))
def fX12_laysBack (N : Nat) (c_rules : Int32) (c_lefts : (Nat → Int32)) (c_sizes : (Nat → Int32)) (c_rights : (Nat → Int32)) (c_pastRules : (Nat → Int32)) (c_pastLefts : (Nat → Int32)) (c_pastSizes : (Nat → Int32)) (c_pastRights : (Nat → Int32)) (p1 : Int32) : Option (Int32 × (Nat → Int32) × (Nat → Int32) × (Nat → Int32)) :=
(ag c_pastRules 10 p1).bind fun x1 =>
jn_ (fun (v2 : (Nat → Int32) × (Nat → Int32)) => jn_ (fun (v3 : (Nat → Int32)) => some (x1, v2.1, v2.2, v3)) fun k4 =>
itr (bX12_laysBack_60 p1 c_pastRights k4) N (0, c_rights)) fun k11 =>
itr (bX12_laysBack_12 p1 c_pastLefts c_pastSizes k11) N (0, c_lefts, c_sizes)
def bX12_moves_78 (p1 : Int32) (k5 : ((Nat → Int32) → Option ((Nat → Int32) × (Nat → Int32) × (Nat → Int32) × (Nat → Int32)))) (rc7 : Int32 × (Nat → Int32) → Option ((Nat → Int32) × (Nat → Int32) × (Nat → Int32) × (Nat → Int32))) (v6 : Int32 × (Nat → Int32)) : Option ((Nat → Int32) × (Nat → Int32) × (Nat → Int32) × (Nat → Int32)) :=
if 120 ≤ v6.1 then (k5 v6.2) else ((ag v6.2 1200 (((120 : Int32) * p1) + v6.1)).bind fun x8 =>
(as_ v6.2 1200 (((120 : Int32) * (p1 - (1 : Int32))) + v6.1) x8).bind fun f9 =>
lt_ (v6.1 + 1) fun x10 =>
rc7 (x10, f9))
def bX12_moves_16 (p1 : Int32) (k12 : ((Nat → Int32) × (Nat → Int32) → Option ((Nat → Int32) × (Nat → Int32) × (Nat → Int32) × (Nat → Int32)))) (rc14 : Int32 × (Nat → Int32) × (Nat → Int32) → Option ((Nat → Int32) × (Nat → Int32) × (Nat → Int32) × (Nat → Int32))) (v13 : Int32 × (Nat → Int32) × (Nat → Int32)) : Option ((Nat → Int32) × (Nat → Int32) × (Nat → Int32) × (Nat → Int32)) :=
if 24 ≤ v13.1 then (k12 (v13.2.1, v13.2.2)) else ((ag v13.2.1 240 (((24 : Int32) * p1) + v13.1)).bind fun x15 =>
(as_ v13.2.1 240 (((24 : Int32) * (p1 - (1 : Int32))) + v13.1) x15).bind fun f16 =>
(ag v13.2.2 240 (((24 : Int32) * p1) + v13.1)).bind fun x17 =>
(as_ v13.2.2 240 (((24 : Int32) * (p1 - (1 : Int32))) + v13.1) x17).bind fun f18 =>
lt_ (v13.1 + 1) fun x19 =>
rc14 (x19, f16, f18))
def fX12_moves (N : Nat) (c_pastRules : (Nat → Int32)) (c_pastLefts : (Nat → Int32)) (c_pastSizes : (Nat → Int32)) (c_pastRights : (Nat → Int32)) (p1 : Int32) : Option ((Nat → Int32) × (Nat → Int32) × (Nat → Int32) × (Nat → Int32)) :=
(ag c_pastRules 10 p1).bind fun x1 =>
(as_ c_pastRules 10 (p1 - (1 : Int32)) x1).bind fun f2 =>
jn_ (fun (v3 : (Nat → Int32) × (Nat → Int32)) => jn_ (fun (v4 : (Nat → Int32)) => some (f2, v3.1, v3.2, v4)) fun k5 =>
itr (bX12_moves_78 p1 k5) N (0, c_pastRights)) fun k12 =>
itr (bX12_moves_16 p1 k12) N (0, c_pastLefts, c_pastSizes)
def fX12_isEmpty (c_empties : Int32) (p1 : Int32) : Option (Int32) :=
jn_ (fun (v1 : Int32) => gz v1 (some v1)) fun k2 =>
jn_ (fun (v3 : Unit) => k2 0) fun k4 =>
if p1 < 10 then (k4 ()) else (if ((c_empties >>> ((p1 - (10 : Int32)) &&& (31 : Int32))) &&& (1 : Int32)) = 1 then (k2 1) else (k4 ()))
def bX12_areEmpty_2 (p1 : Int32) (c_sizes : (Nat → Int32)) (c_rights : (Nat → Int32)) (c_empties : Int32) (k2 : (Unit → Option (Int32))) (rc4 : Int32 → Option (Int32)) (v3 : Int32) : Option (Int32) :=
(ag c_sizes 24 p1).bind fun x5 =>
if x5 ≤ v3 then (k2 ()) else ((fX12_symbol c_rights p1 v3).bind fun x6 =>
(fX12_isEmpty c_empties x6).bind fun x7 =>
if x7 = 0 then (some 0) else (lt_ (v3 + 1) fun x8 =>
rc4 x8))
def fX12_areEmpty (N : Nat) (c_sizes : (Nat → Int32)) (c_rights : (Nat → Int32)) (c_empties : Int32) (p1 : Int32) (p2 : Int32) : Option (Int32) :=
jn_ (fun (v1 : Unit) => some 1) fun k2 =>
itr (bX12_areEmpty_2 p1 c_sizes c_rights c_empties k2) N p2
def bX12_firstOf_5 (p1 : Int32) (c_sizes : (Nat → Int32)) (c_rights : (Nat → Int32)) (c_empties : Int32) (c_firsts : (Nat → Int32)) (k2 : (Int32 → Option (Int32))) (rc4 : Int32 × Int32 → Option (Int32)) (v3 : Int32 × Int32) : Option (Int32) :=
(ag c_sizes 24 p1).bind fun x5 =>
if x5 ≤ v3.2 then (k2 v3.1) else ((fX12_symbol c_rights p1 v3.2).bind fun x6 =>
jn_ (fun (v7 : Int32) => lt_ (v3.1 ||| v7) fun x8 =>
(fX12_isEmpty c_empties x6).bind fun x9 =>
if x9 = 0 then (some x8) else (lt_ (v3.2 + 1) fun x10 =>
rc4 (x8, x10))) fun k11 =>
if 10 ≤ x6 then ((ag c_firsts 8 (x6 - (10 : Int32))).bind fun x12 =>
k11 x12) else (k11 ((1 : Int32) <<< (x6 &&& (31 : Int32)))))
def fX12_firstOf (N : Nat) (c_sizes : (Nat → Int32)) (c_rights : (Nat → Int32)) (c_empties : Int32) (c_firsts : (Nat → Int32)) (p1 : Int32) (p2 : Int32) : Option (Int32) :=
jn_ (fun (v1 : Int32) => some v1) fun k2 =>
itr (bX12_firstOf_5 p1 c_sizes c_rights c_empties c_firsts k2) N (0, p2)
def bX12_grows_100 (N : Nat) (c_sizes : (Nat → Int32)) (c_rights : (Nat → Int32)) (v3 : Int32 × Int32 × Int32 × (Nat → Int32) × (Nat → Int32)) (x5 : Int32) (v6 : Int32 × Int32) (f11 : (Nat → Int32)) (k14 : (Int32 × (Nat → Int32) → Option (Int32 × Int32 × (Nat → Int32) × (Nat → Int32)))) (rc16 : Int32 × Int32 × (Nat → Int32) → Option (Int32 × Int32 × (Nat → Int32) × (Nat → Int32))) (v15 : Int32 × Int32 × (Nat → Int32)) : Option (Int32 × Int32 × (Nat → Int32) × (Nat → Int32)) :=
(ag c_sizes 24 v3.2.1).bind fun x17 =>
if x17 ≤ v15.2.1 then (k14 (v15.1, v15.2.2)) else ((fX12_symbol c_rights v3.2.1 v15.2.1).bind fun x18 =>
lt_ (x18 - (10 : Int32)) fun x19 =>
jn_ (fun (v20 : Int32 × (Nat → Int32)) => lt_ (v15.2.1 + 1) fun x21 =>
rc16 (v20.1, x21, v20.2)) fun k22 =>
if 0 ≤ x19 then ((ag v15.2.2 8 x19).bind fun x23 =>
(fX12_firstOf N c_sizes c_rights v6.2 f11 v3.2.1 (v15.2.1 + (1 : Int32))).bind fun x24 =>
(fX12_areEmpty N c_sizes c_rights v6.2 v3.2.1 (v15.2.1 + (1 : Int32))).bind fun x25 =>
jn_ (fun (v26 : Int32) => lt_ ((x23 ||| x24) ||| v26) fun x27 =>
jn_ (fun (v28 : Int32) => (as_ v15.2.2 8 x19 x27).bind fun f29 =>
k22 (v28, f29)) fun k30 =>
jn_ (fun (v31 : Unit) => k30 1) fun k32 =>
if v15.1 = 0 then ((ag v15.2.2 8 x19).bind fun x33 =>
if x27 = x33 then (k30 0) else (k32 ())) else (k32 ())) fun k34 =>
if x25 = 0 then (k34 0) else ((ag v15.2.2 8 x5).bind fun x35 =>
k34 x35)) else (k22 (v15.1, v15.2.2)))
def bX12_grows_4 (N : Nat) (c_rules : Int32) (c_lefts : (Nat → Int32)) (c_sizes : (Nat → Int32)) (c_rights : (Nat → Int32)) (k2 : (Int32 × Int32 × (Nat → Int32) × (Nat → Int32) → Option (Int32 × Int32 × (Nat → Int32) × (Nat → Int32)))) (rc4 : Int32 × Int32 × Int32 × (Nat → Int32) × (Nat → Int32) → Option (Int32 × Int32 × (Nat → Int32) × (Nat → Int32))) (v3 : Int32 × Int32 × Int32 × (Nat → Int32) × (Nat → Int32)) : Option (Int32 × Int32 × (Nat → Int32) × (Nat → Int32)) :=
if c_rules ≤ v3.2.1 then (k2 (v3.1, v3.2.2.1, v3.2.2.2.1, v3.2.2.2.2)) else ((ag c_lefts 24 v3.2.1).bind fun x5 =>
jn_ (fun (v6 : Int32 × Int32) => (ag v3.2.2.2.1 8 x5).bind fun x7 =>
(fX12_firstOf N c_sizes c_rights v6.2 v3.2.2.2.1 v3.2.1 0).bind fun x8 =>
lt_ (x7 ||| x8) fun x9 =>
jn_ (fun (v10 : Int32) => (as_ v3.2.2.2.1 8 x5 x9).bind fun f11 =>
jn_ (fun (v12 : Int32 × (Nat → Int32)) => lt_ (v3.2.1 + 1) fun x13 =>
rc4 (v12.1, x13, v6.2, f11, v12.2)) fun k14 =>
itr (bX12_grows_100 N c_sizes c_rights v3 x5 v6 f11 k14) N (v10, 0, v3.2.2.2.2)) fun k37 =>
jn_ (fun (v38 : Unit) => k37 1) fun k39 =>
if v6.1 = 0 then ((ag v3.2.2.2.1 8 x5).bind fun x40 =>
if x9 = x40 then (k37 0) else (k39 ())) else (k39 ())) fun k41 =>
if ((v3.2.2.1 >>> (x5 &&& (31 : Int32))) &&& (1 : Int32)) = 0 then ((fX12_areEmpty N c_sizes c_rights v3.2.2.1 v3.2.1 0).bind fun x42 =>
if x42 = 0 then (k41 (v3.1, v3.2.2.1)) else (lt_ (v3.2.2.1 ||| ((1 : Int32) <<< (x5 &&& (31 : Int32)))) fun x43 =>
k41 (1, x43))) else (k41 (v3.1, v3.2.2.1)))
def fX12_grows (N : Nat) (c_rules : Int32) (c_lefts : (Nat → Int32)) (c_sizes : (Nat → Int32)) (c_rights : (Nat → Int32)) (c_empties : Int32) (c_firsts : (Nat → Int32)) (c_follows : (Nat → Int32)) : Option (Int32 × Int32 × (Nat → Int32) × (Nat → Int32)) :=
jn_ (fun (v1 : Int32 × Int32 × (Nat → Int32) × (Nat → Int32)) => gz v1.1 (some (v1.1, v1.2.1, v1.2.2.1, v1.2.2.2))) fun k2 =>
itr (bX12_grows_4 N c_rules c_lefts c_sizes c_rights k2) N (0, 0, c_empties, c_firsts, c_follows)
def bX12_empties_2 (p2 : Int32) (k2 : ((Nat → Int32) → Option ((Nat → Int32)))) (rc4 : Int32 × (Nat → Int32) → Option ((Nat → Int32))) (v3 : Int32 × (Nat → Int32)) : Option ((Nat → Int32)) :=
if p2 ≤ v3.1 then (k2 v3.2) else ((as_ v3.2 32 v3.1 (-1)).bind fun f5 =>
lt_ (v3.1 + 1) fun x6 =>
rc4 (x6, f5))
def fX12_empties (N : Nat) (c_longs : (Nat → Int32)) (p1 : Int32) (p2 : Int32) : Option ((Nat → Int32)) :=
jn_ (fun (v1 : (Nat → Int32)) => some v1) fun k2 =>
itr (bX12_empties_2 p2 k2) N (p1, c_longs)
def fX12_tries (c_trialLong : Int32) : Option (Int32) :=
some 0
def fX12_adds (c_trial : (Nat → Int32)) (c_trialLong : Int32) (p1 : Int32) : Option ((Nat → Int32) × Int32) :=
jn_ (fun (v1 : (Nat → Int32) × Int32) => some (v1.1, v1.2)) fun k2 =>
jn_ (fun (v3 : Unit) => k2 (c_trial, (-1))) fun k4 =>
if c_trialLong < 0 then (k4 ()) else (if 40 ≤ c_trialLong then (k4 ()) else ((as_ c_trial 40 c_trialLong p1).bind fun f5 =>
lt_ (c_trialLong + (1 : Int32)) fun x6 =>
k2 (f5, x6)))
def bX12_addsSlot_16 (p1 : Int32) (c_strings : (Nat → Int32)) (c_longs : (Nat → Int32)) (k4 : ((Nat → Int32) × Int32 → Option ((Nat → Int32) × Int32))) (rc6 : Int32 × (Nat → Int32) × Int32 → Option ((Nat → Int32) × Int32)) (v5 : Int32 × (Nat → Int32) × Int32) : Option ((Nat → Int32) × Int32) :=
(ag c_longs 32 p1).bind fun x7 =>
if x7 ≤ v5.1 then (k4 (v5.2.1, v5.2.2)) else (if v5.2.2 < 0 then (k4 (v5.2.1, v5.2.2)) else ((ag c_strings 1280 (((40 : Int32) * p1) + v5.1)).bind fun x8 =>
(fX12_adds v5.2.1 v5.2.2 x8).bind fun o9 =>
lt_ (v5.1 + 1) fun x10 =>
rc6 (x10, o9.1, o9.2)))
def fX12_addsSlot (N : Nat) (c_strings : (Nat → Int32)) (c_longs : (Nat → Int32)) (c_trial : (Nat → Int32)) (c_trialLong : Int32) (p1 : Int32) : Option ((Nat → Int32) × Int32) :=
(ag c_longs 32 p1).bind fun x1 =>
jn_ (fun (v2 : Int32) => jn_ (fun (v3 : (Nat → Int32) × Int32) => some (v3.1, v3.2)) fun k4 =>
itr (bX12_addsSlot_16 p1 c_strings c_longs k4) N (0, c_trial, v2)) fun k12 =>
if 0 ≤ x1 then (k12 c_trialLong) else (k12 (-1))
def bX12_addsShortest_3 (N : Nat) (p1 : Int32) (p3 : Int32) (c_rights : (Nat → Int32)) (c_strings : (Nat → Int32)) (c_longs : (Nat → Int32)) (k2 : ((Nat → Int32) × Int32 → Option ((Nat → Int32) × Int32))) (rc4 : Int32 × (Nat → Int32) × Int32 → Option ((Nat → Int32) × Int32)) (v3 : Int32 × (Nat → Int32) × Int32) : Option ((Nat → Int32) × Int32) :=
if p3 ≤ v3.1 then (k2 (v3.2.1, v3.2.2)) else (if v3.2.2 < 0 then (k2 (v3.2.1, v3.2.2)) else ((fX12_symbol c_rights p1 v3.1).bind fun x5 =>
jn_ (fun (v6 : (Nat → Int32) × Int32) => lt_ (v3.1 + 1) fun x7 =>
rc4 (x7, v6.1, v6.2)) fun k8 =>
if 10 ≤ x5 then ((fX12_symbol c_rights p1 v3.1).bind fun x9 =>
(fX12_addsSlot N c_strings c_longs v3.2.1 v3.2.2 (x9 - (10 : Int32))).bind fun o10 =>
k8 (o10.1, o10.2)) else ((fX12_symbol c_rights p1 v3.1).bind fun x11 =>
(fX12_adds v3.2.1 v3.2.2 x11).bind fun o12 =>
k8 (o12.1, o12.2))))
def fX12_addsShortest (N : Nat) (c_rights : (Nat → Int32)) (c_strings : (Nat → Int32)) (c_longs : (Nat → Int32)) (c_trial : (Nat → Int32)) (c_trialLong : Int32) (p1 : Int32) (p2 : Int32) (p3 : Int32) : Option ((Nat → Int32) × Int32) :=
jn_ (fun (v1 : (Nat → Int32) × Int32) => some (v1.1, v1.2)) fun k2 =>
itr (bX12_addsShortest_3 N p1 p3 c_rights c_strings c_longs k2) N (p2, c_trial, c_trialLong)
def bX12_betters_122 (p1 : Int32) (c_trial : (Nat → Int32)) (c_trialLong : Int32) (k9 : ((Nat → Int32) → Option (Int32 × (Nat → Int32) × (Nat → Int32)))) (rc11 : Int32 × (Nat → Int32) → Option (Int32 × (Nat → Int32) × (Nat → Int32))) (v10 : Int32 × (Nat → Int32)) : Option (Int32 × (Nat → Int32) × (Nat → Int32)) :=
if c_trialLong ≤ v10.1 then (k9 v10.2) else ((ag c_trial 40 v10.1).bind fun x12 =>
(as_ v10.2 1280 (((40 : Int32) * p1) + v10.1) x12).bind fun f13 =>
lt_ (v10.1 + 1) fun x14 =>
rc11 (x14, f13))
def bX12_betters_46 (p1 : Int32) (c_strings : (Nat → Int32)) (c_trial : (Nat → Int32)) (c_trialLong : Int32) (k22 : (Int32 → Option (Int32 × (Nat → Int32) × (Nat → Int32)))) (rc24 : Int32 → Option (Int32 × (Nat → Int32) × (Nat → Int32))) (v23 : Int32) : Option (Int32 × (Nat → Int32) × (Nat → Int32)) :=
if c_trialLong ≤ v23 then (k22 v23) else ((ag c_trial 40 v23).bind fun x25 =>
(ag c_strings 1280 (((40 : Int32) * p1) + v23)).bind fun x26 =>
if x25 = x26 then (lt_ (v23 + 1) fun x27 =>
rc24 x27) else (k22 v23))
def fX12_betters (N : Nat) (c_strings : (Nat → Int32)) (c_longs : (Nat → Int32)) (c_trial : (Nat → Int32)) (c_trialLong : Int32) (p1 : Int32) : Option (Int32 × (Nat → Int32) × (Nat → Int32)) :=
jn_ (fun (v1 : Unit) => some (0, c_strings, c_longs)) fun k2 =>
if c_trialLong < 0 then (k2 ()) else ((ag c_longs 32 p1).bind fun x3 =>
jn_ (fun (v4 : Unit) => (ag c_longs 32 p1).bind fun x5 =>
jn_ (fun (v6 : Unit) => (as_ c_longs 32 p1 c_trialLong).bind fun f7 =>
jn_ (fun (v8 : (Nat → Int32)) => some (1, v8, f7)) fun k9 =>
itr (bX12_betters_122 p1 c_trial c_trialLong k9) N (0, c_strings)) fun k16 =>
if c_trialLong = x5 then (jn_ (fun (v17 : Int32) => jn_ (fun (v18 : Unit) => some (0, c_strings, c_longs)) fun k19 =>
if v17 = c_trialLong then (k19 ()) else ((ag c_trial 40 v17).bind fun x20 =>
(ag c_strings 1280 (((40 : Int32) * p1) + v17)).bind fun x21 =>
if x20 ≤ x21 then (k16 ()) else (k19 ()))) fun k22 =>
itr (bX12_betters_46 p1 c_strings c_trial c_trialLong k22) N 0) else (k16 ())) fun k29 =>
if x3 < 0 then (k29 ()) else ((ag c_longs 32 p1).bind fun x30 =>
if c_trialLong ≤ x30 then (k29 ()) else (k2 ())))
def bX12_shortens_17 (N : Nat) (c_rules : Int32) (c_lefts : (Nat → Int32)) (c_sizes : (Nat → Int32)) (c_rights : (Nat → Int32)) (k7 : (Int32 × (Nat → Int32) × (Nat → Int32) × (Nat → Int32) × Int32 → Option ((Nat → Int32) × (Nat → Int32) × (Nat → Int32) × Int32))) (rc9 : Int32 × Int32 × (Nat → Int32) × (Nat → Int32) × (Nat → Int32) × Int32 → Option ((Nat → Int32) × (Nat → Int32) × (Nat → Int32) × Int32)) (v8 : Int32 × Int32 × (Nat → Int32) × (Nat → Int32) × (Nat → Int32) × Int32) : Option ((Nat → Int32) × (Nat → Int32) × (Nat → Int32) × Int32) :=
if c_rules ≤ v8.2.1 then (k7 (v8.1, v8.2.2.1, v8.2.2.2.1, v8.2.2.2.2.1, v8.2.2.2.2.2)) else ((fX12_tries v8.2.2.2.2.2).bind fun o10 =>
(ag c_sizes 24 v8.2.1).bind fun x11 =>
(fX12_addsShortest N c_rights v8.2.2.1 v8.2.2.2.1 v8.2.2.2.2.1 o10 v8.2.1 0 x11).bind fun o12 =>
(ag c_lefts 24 v8.2.1).bind fun x13 =>
(fX12_betters N v8.2.2.1 v8.2.2.2.1 o12.1 o12.2 x13).bind fun o14 =>
jn_ (fun (v15 : Int32) => lt_ (v8.2.1 + 1) fun x16 =>
rc9 (v15, x16, o14.2.1, o14.2.2, o12.1, o12.2)) fun k17 =>
jn_ (fun (v18 : Unit) => k17 1) fun k19 =>
if o14.1 = 0 then (if v8.1 = 0 then (k17 0) else (k19 ())) else (k19 ()))
def bX12_shortens_9 (N : Nat) (c_rules : Int32) (c_lefts : (Nat → Int32)) (c_sizes : (Nat → Int32)) (c_rights : (Nat → Int32)) (k3 : ((Nat → Int32) × (Nat → Int32) × (Nat → Int32) × Int32 → Option ((Nat → Int32) × (Nat → Int32) × (Nat → Int32) × Int32))) (rc5 : Int32 × (Nat → Int32) × (Nat → Int32) × (Nat → Int32) × Int32 → Option ((Nat → Int32) × (Nat → Int32) × (Nat → Int32) × Int32)) (v4 : Int32 × (Nat → Int32) × (Nat → Int32) × (Nat → Int32) × Int32) : Option ((Nat → Int32) × (Nat → Int32) × (Nat → Int32) × Int32) :=
if v4.1 = 0 then (k3 (v4.2.1, v4.2.2.1, v4.2.2.2.1, v4.2.2.2.2)) else (jn_ (fun (v6 : Int32 × (Nat → Int32) × (Nat → Int32) × (Nat → Int32) × Int32) => rc5 (v6.1, v6.2.1, v6.2.2.1, v6.2.2.2.1, v6.2.2.2.2)) fun k7 =>
itr (bX12_shortens_17 N c_rules c_lefts c_sizes c_rights k7) N (0, 0, v4.2.1, v4.2.2.1, v4.2.2.2.1, v4.2.2.2.2))
def fX12_shortens (N : Nat) (c_rules : Int32) (c_lefts : (Nat → Int32)) (c_sizes : (Nat → Int32)) (c_rights : (Nat → Int32)) (c_strings : (Nat → Int32)) (c_longs : (Nat → Int32)) (c_trial : (Nat → Int32)) (c_trialLong : Int32) : Option ((Nat → Int32) × (Nat → Int32) × (Nat → Int32) × Int32) :=
(fX12_empties N c_longs 0 8).bind fun o1 =>
jn_ (fun (v2 : (Nat → Int32) × (Nat → Int32) × (Nat → Int32) × Int32) => some (v2.1, v2.2.1, v2.2.2.1, v2.2.2.2)) fun k3 =>
itr (bX12_shortens_9 N c_rules c_lefts c_sizes c_rights k3) N (1, c_strings, o1, c_trial, c_trialLong)
def bX12_works_58 (N : Nat) (c_rules : Int32) (c_lefts : (Nat → Int32)) (c_sizes : (Nat → Int32)) (c_rights : (Nat → Int32)) (k4 : (Int32 × (Nat → Int32) × (Nat → Int32) → Option (Int32 × Int32 × (Nat → Int32) × (Nat → Int32) × (Nat → Int32) × (Nat → Int32) × (Nat → Int32) × Int32))) (rc6 : Int32 × Int32 × (Nat → Int32) × (Nat → Int32) → Option (Int32 × Int32 × (Nat → Int32) × (Nat → Int32) × (Nat → Int32) × (Nat → Int32) × (Nat → Int32) × Int32)) (v5 : Int32 × Int32 × (Nat → Int32) × (Nat → Int32)) : Option (Int32 × Int32 × (Nat → Int32) × (Nat → Int32) × (Nat → Int32) × (Nat → Int32) × (Nat → Int32) × Int32) :=
if v5.1 = 0 then (k4 (v5.2.1, v5.2.2.1, v5.2.2.2)) else ((fX12_grows N c_rules c_lefts c_sizes c_rights v5.2.1 v5.2.2.1 v5.2.2.2).bind fun o7 =>
rc6 (o7.1, o7.2.1, o7.2.2.1, o7.2.2.2))
def bX12_works_20 (k9 : ((Nat → Int32) × (Nat → Int32) → Option (Int32 × Int32 × (Nat → Int32) × (Nat → Int32) × (Nat → Int32) × (Nat → Int32) × (Nat → Int32) × Int32))) (rc11 : Int32 × (Nat → Int32) × (Nat → Int32) → Option (Int32 × Int32 × (Nat → Int32) × (Nat → Int32) × (Nat → Int32) × (Nat → Int32) × (Nat → Int32) × Int32)) (v10 : Int32 × (Nat → Int32) × (Nat → Int32)) : Option (Int32 × Int32 × (Nat → Int32) × (Nat → Int32) × (Nat → Int32) × (Nat → Int32) × (Nat → Int32) × Int32) :=
if 8 ≤ v10.1 then (k9 (v10.2.1, v10.2.2)) else ((as_ v10.2.1 8 v10.1 0).bind fun f12 =>
jn_ (fun (v13 : Int32) => (as_ v10.2.2 8 v10.1 v13).bind fun f14 =>
lt_ (v10.1 + 1) fun x15 =>
rc11 (x15, f12, f14)) fun k16 =>
if v10.1 = 0 then (k16 256) else (k16 0))
def fX12_works (N : Nat) (c_rules : Int32) (c_lefts : (Nat → Int32)) (c_sizes : (Nat → Int32)) (c_rights : (Nat → Int32)) (c_isWorked : Int32) (c_empties : Int32) (c_firsts : (Nat → Int32)) (c_follows : (Nat → Int32)) (c_strings : (Nat → Int32)) (c_longs : (Nat → Int32)) (c_trial : (Nat → Int32)) (c_trialLong : Int32) : Option (Int32 × Int32 × (Nat → Int32) × (Nat → Int32) × (Nat → Int32) × (Nat → Int32) × (Nat → Int32) × Int32) :=
if c_isWorked = 0 then (jn_ (fun (v1 : (Nat → Int32) × (Nat → Int32)) => jn_ (fun (v2 : Int32 × (Nat → Int32) × (Nat → Int32)) => (fX12_shortens N c_rules c_lefts c_sizes c_rights c_strings c_longs c_trial c_trialLong).bind fun o3 =>
some (1, v2.1, v2.2.1, v2.2.2, o3.1, o3.2.1, o3.2.2.1, o3.2.2.2)) fun k4 =>
itr (bX12_works_58 N c_rules c_lefts c_sizes c_rights k4) N (1, 0, v1.1, v1.2)) fun k9 =>
itr (bX12_works_20 k9) N (0, c_firsts, c_follows)) else (some (c_isWorked, c_empties, c_firsts, c_follows, c_strings, c_longs, c_trial, c_trialLong))
def bX12_keepsSets_15 (c_firsts : (Nat → Int32)) (c_follows : (Nat → Int32)) (k2 : ((Nat → Int32) × (Nat → Int32) → Option (Int32 × Int32 × (Nat → Int32) × (Nat → Int32)))) (rc4 : Int32 × (Nat → Int32) × (Nat → Int32) → Option (Int32 × Int32 × (Nat → Int32) × (Nat → Int32))) (v3 : Int32 × (Nat → Int32) × (Nat → Int32)) : Option (Int32 × Int32 × (Nat → Int32) × (Nat → Int32)) :=
if 8 ≤ v3.1 then (k2 (v3.2.1, v3.2.2)) else ((ag c_firsts 8 v3.1).bind fun x5 =>
(as_ v3.2.1 8 v3.1 x5).bind fun f6 =>
(ag c_follows 8 v3.1).bind fun x7 =>
(as_ v3.2.2 8 v3.1 x7).bind fun f8 =>
lt_ (v3.1 + 1) fun x9 =>
rc4 (x9, f6, f8))
def fX12_keepsSets (N : Nat) (c_empties : Int32) (c_firsts : (Nat → Int32)) (c_follows : (Nat → Int32)) (c_isKept : Int32) (c_keptEmpties : Int32) (c_keptFirsts : (Nat → Int32)) (c_keptFollows : (Nat → Int32)) : Option (Int32 × Int32 × (Nat → Int32) × (Nat → Int32)) :=
jn_ (fun (v1 : (Nat → Int32) × (Nat → Int32)) => some (1, c_empties, v1.1, v1.2)) fun k2 =>
itr (bX12_keepsSets_15 c_firsts c_follows k2) N (0, c_keptFirsts, c_keptFollows)
def bX12_edits_19 (N : Nat) (k9 : ((Nat → Int32) × (Nat → Int32) × (Nat → Int32) × (Nat → Int32) → Option (Int32 × (Nat → Int32) × (Nat → Int32) × (Nat → Int32) × (Nat → Int32) × Int32 × Int32 × (Nat → Int32) × (Nat → Int32) × Int32 × Int32 × (Nat → Int32) × (Nat → Int32) × (Nat → Int32) × (Nat → Int32) × (Nat → Int32) × Int32))) (rc11 : Int32 × (Nat → Int32) × (Nat → Int32) × (Nat → Int32) × (Nat → Int32) → Option (Int32 × (Nat → Int32) × (Nat → Int32) × (Nat → Int32) × (Nat → Int32) × Int32 × Int32 × (Nat → Int32) × (Nat → Int32) × Int32 × Int32 × (Nat → Int32) × (Nat → Int32) × (Nat → Int32) × (Nat → Int32) × (Nat → Int32) × Int32)) (v10 : Int32 × (Nat → Int32) × (Nat → Int32) × (Nat → Int32) × (Nat → Int32)) : Option (Int32 × (Nat → Int32) × (Nat → Int32) × (Nat → Int32) × (Nat → Int32) × Int32 × Int32 × (Nat → Int32) × (Nat → Int32) × Int32 × Int32 × (Nat → Int32) × (Nat → Int32) × (Nat → Int32) × (Nat → Int32) × (Nat → Int32) × Int32) :=
if 10 ≤ v10.1 then (k9 (v10.2.1, v10.2.2.1, v10.2.2.2.1, v10.2.2.2.2)) else ((fX12_moves N v10.2.1 v10.2.2.1 v10.2.2.2.1 v10.2.2.2.2 v10.1).bind fun o12 =>
lt_ (v10.1 + 1) fun x13 =>
rc11 (x13, o12.1, o12.2.1, o12.2.2.1, o12.2.2.2))
def fX12_edits (N : Nat) (c_rules : Int32) (c_lefts : (Nat → Int32)) (c_sizes : (Nat → Int32)) (c_rights : (Nat → Int32)) (c_edits : Int32) (c_pastRules : (Nat → Int32)) (c_pastLefts : (Nat → Int32)) (c_pastSizes : (Nat → Int32)) (c_pastRights : (Nat → Int32)) (c_isWorked : Int32) (c_empties : Int32) (c_firsts : (Nat → Int32)) (c_follows : (Nat → Int32)) (c_isKept : Int32) (c_keptEmpties : Int32) (c_keptFirsts : (Nat → Int32)) (c_keptFollows : (Nat → Int32)) (c_strings : (Nat → Int32)) (c_longs : (Nat → Int32)) (c_trial : (Nat → Int32)) (c_trialLong : Int32) : Option (Int32 × (Nat → Int32) × (Nat → Int32) × (Nat → Int32) × (Nat → Int32) × Int32 × Int32 × (Nat → Int32) × (Nat → Int32) × Int32 × Int32 × (Nat → Int32) × (Nat → Int32) × (Nat → Int32) × (Nat → Int32) × (Nat → Int32) × Int32) :=
(fX12_works N c_rules c_lefts c_sizes c_rights c_isWorked c_empties c_firsts c_follows c_strings c_longs c_trial c_trialLong).bind fun o1 =>
(fX12_keepsSets N o1.2.1 o1.2.2.1 o1.2.2.2.1 c_isKept c_keptEmpties c_keptFirsts c_keptFollows).bind fun o2 =>
jn_ (fun (v3 : Int32 × (Nat → Int32) × (Nat → Int32) × (Nat → Int32) × (Nat → Int32)) => (fX12_lays N c_rules c_lefts c_sizes c_rights v3.2.1 v3.2.2.1 v3.2.2.2.1 v3.2.2.2.2 v3.1).bind fun o4 =>
lt_ (v3.1 + (1 : Int32)) fun x5 =>
some (x5, o4.1, o4.2.1, o4.2.2.1, o4.2.2.2, 0, o1.2.1, o1.2.2.1, o1.2.2.2.1, o2.1, o2.2.1, o2.2.2.1, o2.2.2.2, o1.2.2.2.2.1, o1.2.2.2.2.2.1, o1.2.2.2.2.2.2.1, o1.2.2.2.2.2.2.2)) fun k6 =>
if c_edits = 10 then (jn_ (fun (v7 : (Nat → Int32) × (Nat → Int32) × (Nat → Int32) × (Nat → Int32)) => lt_ (c_edits - (1 : Int32)) fun x8 =>
k6 (x8, v7.1, v7.2.1, v7.2.2.1, v7.2.2.2)) fun k9 =>
itr (bX12_edits_19 N k9) N (1, c_pastRules, c_pastLefts, c_pastSizes, c_pastRights)) else (k6 (c_edits, c_pastRules, c_pastLefts, c_pastSizes, c_pastRights))
def fX12_opens (c_rules : Int32) (c_lefts : (Nat → Int32)) (c_sizes : (Nat → Int32)) (p1 : Int32) : Option (Int32 × Int32 × (Nat → Int32) × (Nat → Int32)) :=
(as_ c_lefts 24 c_rules p1).bind fun f1 =>
(as_ c_sizes 24 c_rules 0).bind fun f2 =>
lt_ (c_rules + (1 : Int32)) fun x3 =>
some ((x3 - (1 : Int32)), x3, f1, f2)
def fX12_puts (c_sizes : (Nat → Int32)) (c_rights : (Nat → Int32)) (p1 : Int32) (p2 : Int32) : Option ((Nat → Int32) × (Nat → Int32)) :=
(ag c_sizes 24 p1).bind fun x1 =>
(as_ c_rights 120 (((5 : Int32) * p1) + x1) p2).bind fun f2 =>
(ag c_sizes 24 p1).bind fun x3 =>
(as_ c_sizes 24 p1 (x3 + (1 : Int32))).bind fun f4 =>
some (f4, f2)
def bX12_drops_42 (v4 : Int32 × (Nat → Int32) × (Nat → Int32) × (Nat → Int32)) (k12 : ((Nat → Int32) → Option (Int32 × (Nat → Int32) × (Nat → Int32) × (Nat → Int32)))) (rc14 : Int32 × (Nat → Int32) → Option (Int32 × (Nat → Int32) × (Nat → Int32) × (Nat → Int32))) (v13 : Int32 × (Nat → Int32)) : Option (Int32 × (Nat → Int32) × (Nat → Int32) × (Nat → Int32)) :=
if 5 ≤ v13.1 then (k12 v13.2) else ((ag v13.2 120 (((5 : Int32) * (v4.1 + (1 : Int32))) + v13.1)).bind fun x15 =>
(as_ v13.2 120 (((5 : Int32) * v4.1) + v13.1) x15).bind fun f16 =>
lt_ (v13.1 + 1) fun x17 =>
rc14 (x17, f16))
def bX12_drops_2 (N : Nat) (c_rules : Int32) (k3 : ((Nat → Int32) × (Nat → Int32) × (Nat → Int32) → Option (Int32 × (Nat → Int32) × (Nat → Int32) × (Nat → Int32)))) (rc5 : Int32 × (Nat → Int32) × (Nat → Int32) × (Nat → Int32) → Option (Int32 × (Nat → Int32) × (Nat → Int32) × (Nat → Int32))) (v4 : Int32 × (Nat → Int32) × (Nat → Int32) × (Nat → Int32)) : Option (Int32 × (Nat → Int32) × (Nat → Int32) × (Nat → Int32)) :=
if (c_rules - (1 : Int32)) ≤ v4.1 then (k3 (v4.2.1, v4.2.2.1, v4.2.2.2)) else ((ag v4.2.1 24 (v4.1 + (1 : Int32))).bind fun x6 =>
(as_ v4.2.1 24 v4.1 x6).bind fun f7 =>
(ag v4.2.2.1 24 (v4.1 + (1 : Int32))).bind fun x8 =>
(as_ v4.2.2.1 24 v4.1 x8).bind fun f9 =>
jn_ (fun (v10 : (Nat → Int32)) => lt_ (v4.1 + 1) fun x11 =>
rc5 (x11, f7, f9, v10)) fun k12 =>
itr (bX12_drops_42 v4 k12) N (0, v4.2.2.2))
def fX12_drops (N : Nat) (c_rules : Int32) (c_lefts : (Nat → Int32)) (c_sizes : (Nat → Int32)) (c_rights : (Nat → Int32)) (p1 : Int32) : Option (Int32 × (Nat → Int32) × (Nat → Int32) × (Nat → Int32)) :=
jn_ (fun (v1 : (Nat → Int32) × (Nat → Int32) × (Nat → Int32)) => lt_ (c_rules - (1 : Int32)) fun x2 =>
some (x2, v1.1, v1.2.1, v1.2.2)) fun k3 =>
itr (bX12_drops_2 N c_rules k3) N (p1, c_lefts, c_sizes, c_rights)
def fX12_tells (c_levels : Int32) (c_codes : (Nat → Int32)) (c_details : (Nat → Int32)) (p1 : Int32) (p2 : Int32) (p3 : Int32) : Option (Int32 × (Nat → Int32) × (Nat → Int32)) :=
lt_ (p1 + (1 : Int32)) fun x1 =>
(as_ c_codes 3 p1 p2).bind fun f2 =>
(as_ c_details 3 p1 p3).bind fun f3 =>
some (x1, f2, f3)
def fX12_failureLevels (c_levels : Int32) : Option (Int32) :=
some c_levels
def fX12_failureCode (c_levels : Int32) (c_codes : (Nat → Int32)) (p1 : Int32) : Option (Int32) :=
(fX12_in p1 0 (c_levels - (1 : Int32))).bind fun x1 =>
jn_ (fun (v2 : Int32) => some v2) fun k3 =>
if x1 = 0 then (k3 (-2)) else ((ag c_codes 3 p1).bind fun x4 =>
k3 x4)
def fX12_failureDetail (c_levels : Int32) (c_details : (Nat → Int32)) (p1 : Int32) : Option (Int32) :=
(fX12_in p1 0 (c_levels - (1 : Int32))).bind fun x1 =>
jn_ (fun (v2 : Int32) => some v2) fun k3 =>
if x1 = 0 then (k3 (-2)) else ((ag c_details 3 p1).bind fun x4 =>
k3 x4)
def bX12_addProduction_252 (f5 : (Nat → Int32)) (v6 : Int32) (o11 : Int32 × Int32 × (Nat → Int32) × (Nat → Int32)) (k13 : ((Nat → Int32) × (Nat → Int32) → Option (Int32 × Int32 × (Nat → Int32) × (Nat → Int32) × (Nat → Int32) × Int32 × (Nat → Int32) × (Nat → Int32) × (Nat → Int32) × (Nat → Int32) × Int32 × (Nat → Int32) × (Nat → Int32) × (Nat → Int32) × Int32 × Int32 × (Nat → Int32) × (Nat → Int32) × Int32 × Int32 × (Nat → Int32) × (Nat → Int32) × (Nat → Int32) × (Nat → Int32) × (Nat → Int32) × Int32))) (rc15 : Int32 × (Nat → Int32) × (Nat → Int32) → Option (Int32 × Int32 × (Nat → Int32) × (Nat → Int32) × (Nat → Int32) × Int32 × (Nat → Int32) × (Nat → Int32) × (Nat → Int32) × (Nat → Int32) × Int32 × (Nat → Int32) × (Nat → Int32) × (Nat → Int32) × Int32 × Int32 × (Nat → Int32) × (Nat → Int32) × Int32 × Int32 × (Nat → Int32) × (Nat → Int32) × (Nat → Int32) × (Nat → Int32) × (Nat → Int32) × Int32)) (v14 : Int32 × (Nat → Int32) × (Nat → Int32)) : Option (Int32 × Int32 × (Nat → Int32) × (Nat → Int32) × (Nat → Int32) × Int32 × (Nat → Int32) × (Nat → Int32) × (Nat → Int32) × (Nat → Int32) × Int32 × (Nat → Int32) × (Nat → Int32) × (Nat → Int32) × Int32 × Int32 × (Nat → Int32) × (Nat → Int32) × Int32 × Int32 × (Nat → Int32) × (Nat → Int32) × (Nat → Int32) × (Nat → Int32) × (Nat → Int32) × Int32) :=
if v6 ≤ v14.1 then (k13 (v14.2.1, v14.2.2)) else ((ag f5 5 v14.1).bind fun x16 =>
(fX12_puts v14.2.1 v14.2.2 o11.1 x16).bind fun o17 =>
lt_ (v14.1 + 1) fun x18 =>
rc15 (x18, o17.1, o17.2))
def bX12_addProduction_149 (c_rights : (Nat → Int32)) (f5 : (Nat → Int32)) (v6 : Int32) (v21 : Int32) (k29 : (Int32 → Option (Int32 × Int32 × (Nat → Int32) × (Nat → Int32) × (Nat → Int32) × Int32 × (Nat → Int32) × (Nat → Int32) × (Nat → Int32) × (Nat → Int32) × Int32 × (Nat → Int32) × (Nat → Int32) × (Nat → Int32) × Int32 × Int32 × (Nat → Int32) × (Nat → Int32) × Int32 × Int32 × (Nat → Int32) × (Nat → Int32) × (Nat → Int32) × (Nat → Int32) × (Nat → Int32) × Int32))) (rc31 : Int32 × Int32 → Option (Int32 × Int32 × (Nat → Int32) × (Nat → Int32) × (Nat → Int32) × Int32 × (Nat → Int32) × (Nat → Int32) × (Nat → Int32) × (Nat → Int32) × Int32 × (Nat → Int32) × (Nat → Int32) × (Nat → Int32) × Int32 × Int32 × (Nat → Int32) × (Nat → Int32) × Int32 × Int32 × (Nat → Int32) × (Nat → Int32) × (Nat → Int32) × (Nat → Int32) × (Nat → Int32) × Int32)) (v30 : Int32 × Int32) : Option (Int32 × Int32 × (Nat → Int32) × (Nat → Int32) × (Nat → Int32) × Int32 × (Nat → Int32) × (Nat → Int32) × (Nat → Int32) × (Nat → Int32) × Int32 × (Nat → Int32) × (Nat → Int32) × (Nat → Int32) × Int32 × Int32 × (Nat → Int32) × (Nat → Int32) × Int32 × Int32 × (Nat → Int32) × (Nat → Int32) × (Nat → Int32) × (Nat → Int32) × (Nat → Int32) × Int32) :=
if v6 ≤ v30.2 then (k29 v30.1) else (jn_ (fun (v32 : Int32) => lt_ (v30.2 + 1) fun x33 =>
rc31 (v32, x33)) fun k34 =>
jn_ (fun (v35 : Unit) => k34 0) fun k36 =>
if v30.1 = 0 then (k36 ()) else ((fX12_symbol c_rights v21 v30.2).bind fun x37 =>
(ag f5 5 v30.2).bind fun x38 =>
if x37 = x38 then (k34 1) else (k36 ())))
def bX12_addProduction_107 (N : Nat) (p1 : Int32) (c_rules : Int32) (c_lefts : (Nat → Int32)) (c_sizes : (Nat → Int32)) (c_rights : (Nat → Int32)) (c_edits : Int32) (c_pastRules : (Nat → Int32)) (c_pastLefts : (Nat → Int32)) (c_pastSizes : (Nat → Int32)) (c_pastRights : (Nat → Int32)) (c_levels : Int32) (c_codes : (Nat → Int32)) (c_details : (Nat → Int32)) (c_isWorked : Int32) (c_empties : Int32) (c_firsts : (Nat → Int32)) (c_follows : (Nat → Int32)) (c_isKept : Int32) (c_keptEmpties : Int32) (c_keptFirsts : (Nat → Int32)) (c_keptFollows : (Nat → Int32)) (c_strings : (Nat → Int32)) (c_longs : (Nat → Int32)) (c_trial : (Nat → Int32)) (c_trialLong : Int32) (f5 : (Nat → Int32)) (v6 : Int32) (k20 : (Unit → Option (Int32 × Int32 × (Nat → Int32) × (Nat → Int32) × (Nat → Int32) × Int32 × (Nat → Int32) × (Nat → Int32) × (Nat → Int32) × (Nat → Int32) × Int32 × (Nat → Int32) × (Nat → Int32) × (Nat → Int32) × Int32 × Int32 × (Nat → Int32) × (Nat → Int32) × Int32 × Int32 × (Nat → Int32) × (Nat → Int32) × (Nat → Int32) × (Nat → Int32) × (Nat → Int32) × Int32))) (rc22 : Int32 → Option (Int32 × Int32 × (Nat → Int32) × (Nat → Int32) × (Nat → Int32) × Int32 × (Nat → Int32) × (Nat → Int32) × (Nat → Int32) × (Nat → Int32) × Int32 × (Nat → Int32) × (Nat → Int32) × (Nat → Int32) × Int32 × Int32 × (Nat → Int32) × (Nat → Int32) × Int32 × Int32 × (Nat → Int32) × (Nat → Int32) × (Nat → Int32) × (Nat → Int32) × (Nat → Int32) × Int32)) (v21 : Int32) : Option (Int32 × Int32 × (Nat → Int32) × (Nat → Int32) × (Nat → Int32) × Int32 × (Nat → Int32) × (Nat → Int32) × (Nat → Int32) × (Nat → Int32) × Int32 × (Nat → Int32) × (Nat → Int32) × (Nat → Int32) × Int32 × Int32 × (Nat → Int32) × (Nat → Int32) × Int32 × Int32 × (Nat → Int32) × (Nat → Int32) × (Nat → Int32) × (Nat → Int32) × (Nat → Int32) × Int32) :=
if c_rules ≤ v21 then (k20 ()) else ((ag c_lefts 24 v21).bind fun x23 =>
jn_ (fun (v24 : Int32) => jn_ (fun (v25 : Int32) => if v25 = 0 then (lt_ (v21 + 1) fun x28 =>
rc22 x28) else ((fX12_tells c_levels c_codes c_details 0 13 p1).bind fun o26 =>
(fX12_tells o26.1 o26.2.1 o26.2.2 1 14 v21).bind fun o27 =>
some ((-4), c_rules, c_lefts, c_sizes, c_rights, c_edits, c_pastRules, c_pastLefts, c_pastSizes, c_pastRights, o27.1, o27.2.1, o27.2.2, f5, c_isWorked, c_empties, c_firsts, c_follows, c_isKept, c_keptEmpties, c_keptFirsts, c_keptFollows, c_strings, c_longs, c_trial, c_trialLong))) fun k29 =>
itr (bX12_addProduction_149 c_rights f5 v6 v21 k29) N (v24, 0)) fun k40 =>
jn_ (fun (v41 : Unit) => k40 0) fun k42 =>
if x23 = p1 then ((ag c_sizes 24 v21).bind fun x43 =>
if x43 = v6 then (k40 1) else (k42 ())) else (k42 ()))
def bX12_addProduction_70 (c_rules : Int32) (c_lefts : (Nat → Int32)) (c_sizes : (Nat → Int32)) (c_rights : (Nat → Int32)) (c_edits : Int32) (c_pastRules : (Nat → Int32)) (c_pastLefts : (Nat → Int32)) (c_pastSizes : (Nat → Int32)) (c_pastRights : (Nat → Int32)) (c_levels : Int32) (c_codes : (Nat → Int32)) (c_details : (Nat → Int32)) (c_isWorked : Int32) (c_empties : Int32) (c_firsts : (Nat → Int32)) (c_follows : (Nat → Int32)) (c_isKept : Int32) (c_keptEmpties : Int32) (c_keptFirsts : (Nat → Int32)) (c_keptFollows : (Nat → Int32)) (c_strings : (Nat → Int32)) (c_longs : (Nat → Int32)) (c_trial : (Nat → Int32)) (c_trialLong : Int32) (f5 : (Nat → Int32)) (k45 : (Unit → Option (Int32 × Int32 × (Nat → Int32) × (Nat → Int32) × (Nat → Int32) × Int32 × (Nat → Int32) × (Nat → Int32) × (Nat → Int32) × (Nat → Int32) × Int32 × (Nat → Int32) × (Nat → Int32) × (Nat → Int32) × Int32 × Int32 × (Nat → Int32) × (Nat → Int32) × Int32 × Int32 × (Nat → Int32) × (Nat → Int32) × (Nat → Int32) × (Nat → Int32) × (Nat → Int32) × Int32))) (rc47 : Int32 → Option (Int32 × Int32 × (Nat → Int32) × (Nat → Int32) × (Nat → Int32) × Int32 × (Nat → Int32) × (Nat → Int32) × (Nat → Int32) × (Nat → Int32) × Int32 × (Nat → Int32) × (Nat → Int32) × (Nat → Int32) × Int32 × Int32 × (Nat → Int32) × (Nat → Int32) × Int32 × Int32 × (Nat → Int32) × (Nat → Int32) × (Nat → Int32) × (Nat → Int32) × (Nat → Int32) × Int32)) (v46 : Int32) : Option (Int32 × Int32 × (Nat → Int32) × (Nat → Int32) × (Nat → Int32) × Int32 × (Nat → Int32) × (Nat → Int32) × (Nat → Int32) × (Nat → Int32) × Int32 × (Nat → Int32) × (Nat → Int32) × (Nat → Int32) × Int32 × Int32 × (Nat → Int32) × (Nat → Int32) × Int32 × Int32 × (Nat → Int32) × (Nat → Int32) × (Nat → Int32) × (Nat → Int32) × (Nat → Int32) × Int32) :=
if 5 ≤ v46 then (k45 ()) else ((ag f5 5 v46).bind fun x48 =>
if x48 = (-1) then (lt_ (v46 + 1) fun x49 =>
rc47 x49) else (some ((-1), c_rules, c_lefts, c_sizes, c_rights, c_edits, c_pastRules, c_pastLefts, c_pastSizes, c_pastRights, c_levels, c_codes, c_details, f5, c_isWorked, c_empties, c_firsts, c_follows, c_isKept, c_keptEmpties, c_keptFirsts, c_keptFollows, c_strings, c_longs, c_trial, c_trialLong)))
def bX12_addProduction_41 (f5 : (Nat → Int32)) (k51 : (Int32 → Option (Int32 × Int32 × (Nat → Int32) × (Nat → Int32) × (Nat → Int32) × Int32 × (Nat → Int32) × (Nat → Int32) × (Nat → Int32) × (Nat → Int32) × Int32 × (Nat → Int32) × (Nat → Int32) × (Nat → Int32) × Int32 × Int32 × (Nat → Int32) × (Nat → Int32) × Int32 × Int32 × (Nat → Int32) × (Nat → Int32) × (Nat → Int32) × (Nat → Int32) × (Nat → Int32) × Int32))) (rc53 : Int32 → Option (Int32 × Int32 × (Nat → Int32) × (Nat → Int32) × (Nat → Int32) × Int32 × (Nat → Int32) × (Nat → Int32) × (Nat → Int32) × (Nat → Int32) × Int32 × (Nat → Int32) × (Nat → Int32) × (Nat → Int32) × Int32 × Int32 × (Nat → Int32) × (Nat → Int32) × Int32 × Int32 × (Nat → Int32) × (Nat → Int32) × (Nat → Int32) × (Nat → Int32) × (Nat → Int32) × Int32)) (v52 : Int32) : Option (Int32 × Int32 × (Nat → Int32) × (Nat → Int32) × (Nat → Int32) × Int32 × (Nat → Int32) × (Nat → Int32) × (Nat → Int32) × (Nat → Int32) × Int32 × (Nat → Int32) × (Nat → Int32) × (Nat → Int32) × Int32 × Int32 × (Nat → Int32) × (Nat → Int32) × Int32 × Int32 × (Nat → Int32) × (Nat → Int32) × (Nat → Int32) × (Nat → Int32) × (Nat → Int32) × Int32) :=
if 5 ≤ v52 then (k51 v52) else ((ag f5 5 v52).bind fun x54 =>
(fX12_isSymbol x54).bind fun x55 =>
if x55 = 0 then (k51 v52) else (lt_ (v52 + 1) fun x56 =>
rc53 x56))
def fX12_addProduction (N : Nat) (c_rules : Int32) (c_lefts : (Nat → Int32)) (c_sizes : (Nat → Int32)) (c_rights : (Nat → Int32)) (c_edits : Int32) (c_pastRules : (Nat → Int32)) (c_pastLefts : (Nat → Int32)) (c_pastSizes : (Nat → Int32)) (c_pastRights : (Nat → Int32)) (c_levels : Int32) (c_codes : (Nat → Int32)) (c_details : (Nat → Int32)) (c_asked : (Nat → Int32)) (c_isWorked : Int32) (c_empties : Int32) (c_firsts : (Nat → Int32)) (c_follows : (Nat → Int32)) (c_isKept : Int32) (c_keptEmpties : Int32) (c_keptFirsts : (Nat → Int32)) (c_keptFollows : (Nat → Int32)) (c_strings : (Nat → Int32)) (c_longs : (Nat → Int32)) (c_trial : (Nat → Int32)) (c_trialLong : Int32) (p1 : Int32) (p2 : Int32) (p3 : Int32) (p4 : Int32) (p5 : Int32) (p6 : Int32) : Option (Int32 × Int32 × (Nat → Int32) × (Nat → Int32) × (Nat → Int32) × Int32 × (Nat → Int32) × (Nat → Int32) × (Nat → Int32) × (Nat → Int32) × Int32 × (Nat → Int32) × (Nat → Int32) × (Nat → Int32) × Int32 × Int32 × (Nat → Int32) × (Nat → Int32) × Int32 × Int32 × (Nat → Int32) × (Nat → Int32) × (Nat → Int32) × (Nat → Int32) × (Nat → Int32) × Int32) :=
(as_ c_asked 5 0 p2).bind fun f1 =>
(as_ f1 5 1 p3).bind fun f2 =>
(as_ f2 5 2 p4).bind fun f3 =>
(as_ f3 5 3 p5).bind fun f4 =>
(as_ f4 5 4 p6).bind fun f5 =>
jn_ (fun (v6 : Int32) => jn_ (fun (v7 : Unit) => (fX12_isName p1).bind fun x8 =>
if x8 = 0 then (some ((-1), c_rules, c_lefts, c_sizes, c_rights, c_edits, c_pastRules, c_pastLefts, c_pastSizes, c_pastRights, c_levels, c_codes, c_details, f5, c_isWorked, c_empties, c_firsts, c_follows, c_isKept, c_keptEmpties, c_keptFirsts, c_keptFollows, c_strings, c_longs, c_trial, c_trialLong)) else (jn_ (fun (v9 : Unit) => if c_rules = 24 then (some ((-3), c_rules, c_lefts, c_sizes, c_rights, c_edits, c_pastRules, c_pastLefts, c_pastSizes, c_pastRights, c_levels, c_codes, c_details, f5, c_isWorked, c_empties, c_firsts, c_follows, c_isKept, c_keptEmpties, c_keptFirsts, c_keptFollows, c_strings, c_longs, c_trial, c_trialLong)) else ((fX12_edits N c_rules c_lefts c_sizes c_rights c_edits c_pastRules c_pastLefts c_pastSizes c_pastRights c_isWorked c_empties c_firsts c_follows c_isKept c_keptEmpties c_keptFirsts c_keptFollows c_strings c_longs c_trial c_trialLong).bind fun o10 =>
(fX12_opens c_rules c_lefts c_sizes p1).bind fun o11 =>
jn_ (fun (v12 : (Nat → Int32) × (Nat → Int32)) => some (o11.1, o11.2.1, o11.2.2.1, v12.1, v12.2, o10.1, o10.2.1, o10.2.2.1, o10.2.2.2.1, o10.2.2.2.2.1, c_levels, c_codes, c_details, f5, o10.2.2.2.2.2.1, o10.2.2.2.2.2.2.1, o10.2.2.2.2.2.2.2.1, o10.2.2.2.2.2.2.2.2.1, o10.2.2.2.2.2.2.2.2.2.1, o10.2.2.2.2.2.2.2.2.2.2.1, o10.2.2.2.2.2.2.2.2.2.2.2.1, o10.2.2.2.2.2.2.2.2.2.2.2.2.1, o10.2.2.2.2.2.2.2.2.2.2.2.2.2.1, o10.2.2.2.2.2.2.2.2.2.2.2.2.2.2.1, o10.2.2.2.2.2.2.2.2.2.2.2.2.2.2.2.1, o10.2.2.2.2.2.2.2.2.2.2.2.2.2.2.2.2)) fun k13 =>
itr (bX12_addProduction_252 f5 v6 o11 k13) N (0, o11.2.2.2, c_rights))) fun k20 =>
itr (bX12_addProduction_107 N p1 c_rules c_lefts c_sizes c_rights c_edits c_pastRules c_pastLefts c_pastSizes c_pastRights c_levels c_codes c_details c_isWorked c_empties c_firsts c_follows c_isKept c_keptEmpties c_keptFirsts c_keptFollows c_strings c_longs c_trial c_trialLong f5 v6 k20) N 0)) fun k45 =>
itr (bX12_addProduction_70 c_rules c_lefts c_sizes c_rights c_edits c_pastRules c_pastLefts c_pastSizes c_pastRights c_levels c_codes c_details c_isWorked c_empties c_firsts c_follows c_isKept c_keptEmpties c_keptFirsts c_keptFollows c_strings c_longs c_trial c_trialLong f5 k45) N v6) fun k51 =>
itr (bX12_addProduction_41 f5 k51) N 0
def fX12_removeProduction (N : Nat) (c_rules : Int32) (c_lefts : (Nat → Int32)) (c_sizes : (Nat → Int32)) (c_rights : (Nat → Int32)) (c_edits : Int32) (c_pastRules : (Nat → Int32)) (c_pastLefts : (Nat → Int32)) (c_pastSizes : (Nat → Int32)) (c_pastRights : (Nat → Int32)) (c_isWorked : Int32) (c_empties : Int32) (c_firsts : (Nat → Int32)) (c_follows : (Nat → Int32)) (c_isKept : Int32) (c_keptEmpties : Int32) (c_keptFirsts : (Nat → Int32)) (c_keptFollows : (Nat → Int32)) (c_strings : (Nat → Int32)) (c_longs : (Nat → Int32)) (c_trial : (Nat → Int32)) (c_trialLong : Int32) (p1 : Int32) : Option (Int32 × Int32 × (Nat → Int32) × (Nat → Int32) × (Nat → Int32) × Int32 × (Nat → Int32) × (Nat → Int32) × (Nat → Int32) × (Nat → Int32) × Int32 × Int32 × (Nat → Int32) × (Nat → Int32) × Int32 × Int32 × (Nat → Int32) × (Nat → Int32) × (Nat → Int32) × (Nat → Int32) × (Nat → Int32) × Int32) :=
(fX12_isRule c_rules p1).bind fun x1 =>
if x1 = 0 then (some ((-1), c_rules, c_lefts, c_sizes, c_rights, c_edits, c_pastRules, c_pastLefts, c_pastSizes, c_pastRights, c_isWorked, c_empties, c_firsts, c_follows, c_isKept, c_keptEmpties, c_keptFirsts, c_keptFollows, c_strings, c_longs, c_trial, c_trialLong)) else ((fX12_edits N c_rules c_lefts c_sizes c_rights c_edits c_pastRules c_pastLefts c_pastSizes c_pastRights c_isWorked c_empties c_firsts c_follows c_isKept c_keptEmpties c_keptFirsts c_keptFollows c_strings c_longs c_trial c_trialLong).bind fun o2 =>
(fX12_drops N c_rules c_lefts c_sizes c_rights p1).bind fun o3 =>
some (o3.1, o3.1, o3.2.1, o3.2.2.1, o3.2.2.2, o2.1, o2.2.1, o2.2.2.1, o2.2.2.2.1, o2.2.2.2.2.1, o2.2.2.2.2.2.1, o2.2.2.2.2.2.2.1, o2.2.2.2.2.2.2.2.1, o2.2.2.2.2.2.2.2.2.1, o2.2.2.2.2.2.2.2.2.2.1, o2.2.2.2.2.2.2.2.2.2.2.1, o2.2.2.2.2.2.2.2.2.2.2.2.1, o2.2.2.2.2.2.2.2.2.2.2.2.2.1, o2.2.2.2.2.2.2.2.2.2.2.2.2.2.1, o2.2.2.2.2.2.2.2.2.2.2.2.2.2.2.1, o2.2.2.2.2.2.2.2.2.2.2.2.2.2.2.2.1, o2.2.2.2.2.2.2.2.2.2.2.2.2.2.2.2.2))
def fX12_clear (N : Nat) (c_rules : Int32) (c_lefts : (Nat → Int32)) (c_sizes : (Nat → Int32)) (c_rights : (Nat → Int32)) (c_edits : Int32) (c_pastRules : (Nat → Int32)) (c_pastLefts : (Nat → Int32)) (c_pastSizes : (Nat → Int32)) (c_pastRights : (Nat → Int32)) (c_isWorked : Int32) (c_empties : Int32) (c_firsts : (Nat → Int32)) (c_follows : (Nat → Int32)) (c_isKept : Int32) (c_keptEmpties : Int32) (c_keptFirsts : (Nat → Int32)) (c_keptFollows : (Nat → Int32)) (c_strings : (Nat → Int32)) (c_longs : (Nat → Int32)) (c_trial : (Nat → Int32)) (c_trialLong : Int32) : Option (Int32 × Int32 × Int32 × (Nat → Int32) × (Nat → Int32) × (Nat → Int32) × (Nat → Int32) × Int32 × Int32 × (Nat → Int32) × (Nat → Int32) × Int32 × Int32 × (Nat → Int32) × (Nat → Int32) × (Nat → Int32) × (Nat → Int32) × (Nat → Int32) × Int32) :=
(fX12_edits N c_rules c_lefts c_sizes c_rights c_edits c_pastRules c_pastLefts c_pastSizes c_pastRights c_isWorked c_empties c_firsts c_follows c_isKept c_keptEmpties c_keptFirsts c_keptFollows c_strings c_longs c_trial c_trialLong).bind fun o1 =>
some (c_rules, 0, o1.1, o1.2.1, o1.2.2.1, o1.2.2.2.1, o1.2.2.2.2.1, o1.2.2.2.2.2.1, o1.2.2.2.2.2.2.1, o1.2.2.2.2.2.2.2.1, o1.2.2.2.2.2.2.2.2.1, o1.2.2.2.2.2.2.2.2.2.1, o1.2.2.2.2.2.2.2.2.2.2.1, o1.2.2.2.2.2.2.2.2.2.2.2.1, o1.2.2.2.2.2.2.2.2.2.2.2.2.1, o1.2.2.2.2.2.2.2.2.2.2.2.2.2.1, o1.2.2.2.2.2.2.2.2.2.2.2.2.2.2.1, o1.2.2.2.2.2.2.2.2.2.2.2.2.2.2.2.1, o1.2.2.2.2.2.2.2.2.2.2.2.2.2.2.2.2)
def fX12_productionCount (c_rules : Int32) : Option (Int32) :=
some c_rules
def fX12_leftSide (c_rules : Int32) (c_lefts : (Nat → Int32)) (p1 : Int32) : Option (Int32) :=
(fX12_isRule c_rules p1).bind fun x1 =>
jn_ (fun (v2 : Int32) => some v2) fun k3 =>
if x1 = 0 then (k3 (-1)) else ((ag c_lefts 24 p1).bind fun x4 =>
k3 x4)
def fX12_rightLength (c_rules : Int32) (c_sizes : (Nat → Int32)) (p1 : Int32) : Option (Int32) :=
(fX12_isRule c_rules p1).bind fun x1 =>
jn_ (fun (v2 : Int32) => some v2) fun k3 =>
if x1 = 0 then (k3 (-1)) else ((ag c_sizes 24 p1).bind fun x4 =>
k3 x4)
def fX12_rightSymbol (c_rules : Int32) (c_sizes : (Nat → Int32)) (c_rights : (Nat → Int32)) (p1 : Int32) (p2 : Int32) : Option (Int32) :=
(fX12_isRule c_rules p1).bind fun x1 =>
jn_ (fun (v2 : Int32) => some v2) fun k3 =>
jn_ (fun (v4 : Unit) => k3 (-1)) fun k5 =>
if x1 = 0 then (k5 ()) else ((ag c_sizes 24 p1).bind fun x6 =>
(fX12_in p2 0 (x6 - (1 : Int32))).bind fun x7 =>
if x7 = 0 then (k5 ()) else ((fX12_symbol c_rights p1 p2).bind fun x8 =>
k3 x8))
def fX12_undo (N : Nat) (c_rules : Int32) (c_lefts : (Nat → Int32)) (c_sizes : (Nat → Int32)) (c_rights : (Nat → Int32)) (c_edits : Int32) (c_pastRules : (Nat → Int32)) (c_pastLefts : (Nat → Int32)) (c_pastSizes : (Nat → Int32)) (c_pastRights : (Nat → Int32)) (c_isWorked : Int32) (c_empties : Int32) (c_firsts : (Nat → Int32)) (c_follows : (Nat → Int32)) (c_isKept : Int32) (c_keptEmpties : Int32) (c_keptFirsts : (Nat → Int32)) (c_keptFollows : (Nat → Int32)) (c_strings : (Nat → Int32)) (c_longs : (Nat → Int32)) (c_trial : (Nat → Int32)) (c_trialLong : Int32) : Option (Int32 × Int32 × (Nat → Int32) × (Nat → Int32) × (Nat → Int32) × Int32 × Int32 × Int32 × (Nat → Int32) × (Nat → Int32) × Int32 × Int32 × (Nat → Int32) × (Nat → Int32) × (Nat → Int32) × (Nat → Int32) × (Nat → Int32) × Int32) :=
if c_edits = 0 then (some ((-2), c_rules, c_lefts, c_sizes, c_rights, c_edits, c_isWorked, c_empties, c_firsts, c_follows, c_isKept, c_keptEmpties, c_keptFirsts, c_keptFollows, c_strings, c_longs, c_trial, c_trialLong)) else ((fX12_works N c_rules c_lefts c_sizes c_rights c_isWorked c_empties c_firsts c_follows c_strings c_longs c_trial c_trialLong).bind fun o1 =>
(fX12_keepsSets N o1.2.1 o1.2.2.1 o1.2.2.2.1 c_isKept c_keptEmpties c_keptFirsts c_keptFollows).bind fun o2 =>
lt_ (c_edits - (1 : Int32)) fun x3 =>
(fX12_laysBack N c_rules c_lefts c_sizes c_rights c_pastRules c_pastLefts c_pastSizes c_pastRights x3).bind fun o4 =>
some (x3, o4.1, o4.2.1, o4.2.2.1, o4.2.2.2, x3, 0, o1.2.1, o1.2.2.1, o1.2.2.2.1, o2.1, o2.2.1, o2.2.2.1, o2.2.2.2, o1.2.2.2.2.1, o1.2.2.2.2.2.1, o1.2.2.2.2.2.2.1, o1.2.2.2.2.2.2.2))
def fX12_selects (N : Nat) (c_lefts : (Nat → Int32)) (c_sizes : (Nat → Int32)) (c_rights : (Nat → Int32)) (c_empties : Int32) (c_firsts : (Nat → Int32)) (c_follows : (Nat → Int32)) (p1 : Int32) : Option (Int32) :=
(fX12_firstOf N c_sizes c_rights c_empties c_firsts p1 0).bind fun x1 =>
(fX12_areEmpty N c_sizes c_rights c_empties p1 0).bind fun x2 =>
jn_ (fun (v3 : Int32) => some (x1 ||| v3)) fun k4 =>
if x2 = 0 then (k4 0) else ((ag c_lefts 24 p1).bind fun x5 =>
(ag c_follows 8 x5).bind fun x6 =>
k4 x6)
def fX12_nullable (N : Nat) (c_rules : Int32) (c_lefts : (Nat → Int32)) (c_sizes : (Nat → Int32)) (c_rights : (Nat → Int32)) (c_isWorked : Int32) (c_empties : Int32) (c_firsts : (Nat → Int32)) (c_follows : (Nat → Int32)) (c_strings : (Nat → Int32)) (c_longs : (Nat → Int32)) (c_trial : (Nat → Int32)) (c_trialLong : Int32) (p1 : Int32) : Option (Int32 × Int32 × Int32 × (Nat → Int32) × (Nat → Int32) × (Nat → Int32) × (Nat → Int32) × (Nat → Int32) × Int32) :=
(fX12_works N c_rules c_lefts c_sizes c_rights c_isWorked c_empties c_firsts c_follows c_strings c_longs c_trial c_trialLong).bind fun o1 =>
(fX12_isName p1).bind fun x2 =>
jn_ (fun (v3 : Int32) => some (v3, o1.1, o1.2.1, o1.2.2.1, o1.2.2.2.1, o1.2.2.2.2.1, o1.2.2.2.2.2.1, o1.2.2.2.2.2.2.1, o1.2.2.2.2.2.2.2)) fun k4 =>
if x2 = 0 then (k4 (-1)) else (k4 ((o1.2.1 >>> (p1 &&& (31 : Int32))) &&& (1 : Int32)))
def fX12_firstSet (N : Nat) (c_rules : Int32) (c_lefts : (Nat → Int32)) (c_sizes : (Nat → Int32)) (c_rights : (Nat → Int32)) (c_isWorked : Int32) (c_empties : Int32) (c_firsts : (Nat → Int32)) (c_follows : (Nat → Int32)) (c_strings : (Nat → Int32)) (c_longs : (Nat → Int32)) (c_trial : (Nat → Int32)) (c_trialLong : Int32) (p1 : Int32) : Option (Int32 × Int32 × Int32 × (Nat → Int32) × (Nat → Int32) × (Nat → Int32) × (Nat → Int32) × (Nat → Int32) × Int32) :=
(fX12_works N c_rules c_lefts c_sizes c_rights c_isWorked c_empties c_firsts c_follows c_strings c_longs c_trial c_trialLong).bind fun o1 =>
(fX12_isName p1).bind fun x2 =>
jn_ (fun (v3 : Int32) => some (v3, o1.1, o1.2.1, o1.2.2.1, o1.2.2.2.1, o1.2.2.2.2.1, o1.2.2.2.2.2.1, o1.2.2.2.2.2.2.1, o1.2.2.2.2.2.2.2)) fun k4 =>
if x2 = 0 then (k4 (-1)) else ((ag o1.2.2.1 8 p1).bind fun x5 =>
k4 x5)
def fX12_followSet (N : Nat) (c_rules : Int32) (c_lefts : (Nat → Int32)) (c_sizes : (Nat → Int32)) (c_rights : (Nat → Int32)) (c_isWorked : Int32) (c_empties : Int32) (c_firsts : (Nat → Int32)) (c_follows : (Nat → Int32)) (c_strings : (Nat → Int32)) (c_longs : (Nat → Int32)) (c_trial : (Nat → Int32)) (c_trialLong : Int32) (p1 : Int32) : Option (Int32 × Int32 × Int32 × (Nat → Int32) × (Nat → Int32) × (Nat → Int32) × (Nat → Int32) × (Nat → Int32) × Int32) :=
(fX12_works N c_rules c_lefts c_sizes c_rights c_isWorked c_empties c_firsts c_follows c_strings c_longs c_trial c_trialLong).bind fun o1 =>
(fX12_isName p1).bind fun x2 =>
jn_ (fun (v3 : Int32) => some (v3, o1.1, o1.2.1, o1.2.2.1, o1.2.2.2.1, o1.2.2.2.2.1, o1.2.2.2.2.2.1, o1.2.2.2.2.2.2.1, o1.2.2.2.2.2.2.2)) fun k4 =>
if x2 = 0 then (k4 (-1)) else ((ag o1.2.2.2.1 8 p1).bind fun x5 =>
k4 x5)
def fX12_selectSet (N : Nat) (c_rules : Int32) (c_lefts : (Nat → Int32)) (c_sizes : (Nat → Int32)) (c_rights : (Nat → Int32)) (c_isWorked : Int32) (c_empties : Int32) (c_firsts : (Nat → Int32)) (c_follows : (Nat → Int32)) (c_strings : (Nat → Int32)) (c_longs : (Nat → Int32)) (c_trial : (Nat → Int32)) (c_trialLong : Int32) (p1 : Int32) : Option (Int32 × Int32 × Int32 × (Nat → Int32) × (Nat → Int32) × (Nat → Int32) × (Nat → Int32) × (Nat → Int32) × Int32) :=
(fX12_works N c_rules c_lefts c_sizes c_rights c_isWorked c_empties c_firsts c_follows c_strings c_longs c_trial c_trialLong).bind fun o1 =>
(fX12_isRule c_rules p1).bind fun x2 =>
jn_ (fun (v3 : Int32) => some (v3, o1.1, o1.2.1, o1.2.2.1, o1.2.2.2.1, o1.2.2.2.2.1, o1.2.2.2.2.2.1, o1.2.2.2.2.2.2.1, o1.2.2.2.2.2.2.2)) fun k4 =>
if x2 = 0 then (k4 (-1)) else ((fX12_selects N c_lefts c_sizes c_rights o1.2.1 o1.2.2.1 o1.2.2.2.1 p1).bind fun x5 =>
k4 x5)
def bX12_changedNonterminals_8 (c_isKept : Int32) (c_keptEmpties : Int32) (c_keptFirsts : (Nat → Int32)) (c_keptFollows : (Nat → Int32)) (o1 : Int32 × Int32 × (Nat → Int32) × (Nat → Int32) × (Nat → Int32) × (Nat → Int32) × (Nat → Int32) × Int32) (k3 : (Int32 → Option (Int32 × Int32 × Int32 × (Nat → Int32) × (Nat → Int32) × (Nat → Int32) × (Nat → Int32) × (Nat → Int32) × Int32))) (rc5 : Int32 × Int32 → Option (Int32 × Int32 × Int32 × (Nat → Int32) × (Nat → Int32) × (Nat → Int32) × (Nat → Int32) × (Nat → Int32) × Int32)) (v4 : Int32 × Int32) : Option (Int32 × Int32 × Int32 × (Nat → Int32) × (Nat → Int32) × (Nat → Int32) × (Nat → Int32) × (Nat → Int32) × Int32) :=
if 8 ≤ v4.2 then (k3 v4.1) else (if c_isKept = 0 then (k3 v4.1) else (jn_ (fun (v6 : Int32) => lt_ (v4.1 + v6) fun x7 =>
lt_ (v4.2 + 1) fun x8 =>
rc5 (x7, x8)) fun k9 =>
jn_ (fun (v10 : Unit) => k9 1) fun k11 =>
if ((o1.2.1 >>> (v4.2 &&& (31 : Int32))) &&& (1 : Int32)) = ((c_keptEmpties >>> (v4.2 &&& (31 : Int32))) &&& (1 : Int32)) then ((ag o1.2.2.1 8 v4.2).bind fun x12 =>
(ag c_keptFirsts 8 v4.2).bind fun x13 =>
if x12 = x13 then ((ag o1.2.2.2.1 8 v4.2).bind fun x14 =>
(ag c_keptFollows 8 v4.2).bind fun x15 =>
if x14 = x15 then (k9 0) else (k11 ())) else (k11 ())) else (k11 ())))
def fX12_changedNonterminals (N : Nat) (c_rules : Int32) (c_lefts : (Nat → Int32)) (c_sizes : (Nat → Int32)) (c_rights : (Nat → Int32)) (c_isWorked : Int32) (c_empties : Int32) (c_firsts : (Nat → Int32)) (c_follows : (Nat → Int32)) (c_isKept : Int32) (c_keptEmpties : Int32) (c_keptFirsts : (Nat → Int32)) (c_keptFollows : (Nat → Int32)) (c_strings : (Nat → Int32)) (c_longs : (Nat → Int32)) (c_trial : (Nat → Int32)) (c_trialLong : Int32) : Option (Int32 × Int32 × Int32 × (Nat → Int32) × (Nat → Int32) × (Nat → Int32) × (Nat → Int32) × (Nat → Int32) × Int32) :=
(fX12_works N c_rules c_lefts c_sizes c_rights c_isWorked c_empties c_firsts c_follows c_strings c_longs c_trial c_trialLong).bind fun o1 =>
jn_ (fun (v2 : Int32) => some (v2, o1.1, o1.2.1, o1.2.2.1, o1.2.2.2.1, o1.2.2.2.2.1, o1.2.2.2.2.2.1, o1.2.2.2.2.2.2.1, o1.2.2.2.2.2.2.2)) fun k3 =>
itr (bX12_changedNonterminals_8 c_isKept c_keptEmpties c_keptFirsts c_keptFollows o1 k3) N (0, 0)
def bX12_productive_37 (c_sizes : (Nat → Int32)) (c_rights : (Nat → Int32)) (v9 : Int32 × Int32) (k17 : (Int32 → Option (Int32))) (rc19 : Int32 × Int32 → Option (Int32)) (v18 : Int32 × Int32) : Option (Int32) :=
(ag c_sizes 24 v9.2).bind fun x20 =>
if x20 ≤ v18.2 then (k17 v18.1) else (jn_ (fun (v21 : Int32) => lt_ (v18.2 + 1) fun x22 =>
rc19 (v21, x22)) fun k23 =>
jn_ (fun (v24 : Unit) => k23 0) fun k25 =>
if v18.1 = 0 then (k25 ()) else ((fX12_symbol c_rights v9.2 v18.2).bind fun x26 =>
jn_ (fun (v27 : Unit) => k23 1) fun k28 =>
if x26 < 10 then (k28 ()) else ((fX12_symbol c_rights v9.2 v18.2).bind fun x29 =>
if ((v9.1 >>> ((x29 - (10 : Int32)) &&& (31 : Int32))) &&& (1 : Int32)) = 1 then (k28 ()) else (k25 ()))))
def bX12_productive_22 (N : Nat) (c_rules : Int32) (c_lefts : (Nat → Int32)) (c_sizes : (Nat → Int32)) (c_rights : (Nat → Int32)) (k8 : (Int32 → Option (Int32))) (rc10 : Int32 × Int32 → Option (Int32)) (v9 : Int32 × Int32) : Option (Int32) :=
if c_rules ≤ v9.2 then (k8 v9.1) else (jn_ (fun (v11 : Int32) => jn_ (fun (v12 : Int32) => lt_ (v9.1 ||| v12) fun x13 =>
lt_ (v9.2 + 1) fun x14 =>
rc10 (x13, x14)) fun k15 =>
if v11 = 0 then (k15 0) else ((ag c_lefts 24 v9.2).bind fun x16 =>
k15 ((1 : Int32) <<< (x16 &&& (31 : Int32))))) fun k17 =>
itr (bX12_productive_37 c_sizes c_rights v9 k17) N (1, 0))
def bX12_productive_13 (N : Nat) (c_rules : Int32) (c_lefts : (Nat → Int32)) (c_sizes : (Nat → Int32)) (c_rights : (Nat → Int32)) (k3 : (Int32 → Option (Int32))) (rc5 : Int32 × Int32 → Option (Int32)) (v4 : Int32 × Int32) : Option (Int32) :=
if 8 ≤ v4.2 then (k3 v4.1) else (jn_ (fun (v6 : Int32) => lt_ (v4.2 + 1) fun x7 =>
rc5 (v6, x7)) fun k8 =>
itr (bX12_productive_22 N c_rules c_lefts c_sizes c_rights k8) N (v4.1, 0))
def fX12_productive (N : Nat) (c_rules : Int32) (c_lefts : (Nat → Int32)) (c_sizes : (Nat → Int32)) (c_rights : (Nat → Int32)) (p1 : Int32) : Option (Int32) :=
(fX12_isName p1).bind fun x1 =>
if x1 = 0 then (some (-1)) else (jn_ (fun (v2 : Int32) => some ((v2 >>> (p1 &&& (31 : Int32))) &&& (1 : Int32))) fun k3 =>
itr (bX12_productive_13 N c_rules c_lefts c_sizes c_rights k3) N (0, 0))
def bX12_reachable_34 (c_lefts : (Nat → Int32)) (c_sizes : (Nat → Int32)) (c_rights : (Nat → Int32)) (v9 : Int32 × Int32) (k13 : (Int32 → Option (Int32))) (rc15 : Int32 × Int32 → Option (Int32)) (v14 : Int32 × Int32) : Option (Int32) :=
(ag c_sizes 24 v9.2).bind fun x16 =>
if x16 ≤ v14.2 then (k13 v14.1) else ((ag c_lefts 24 v9.2).bind fun x17 =>
if ((v14.1 >>> (x17 &&& (31 : Int32))) &&& (1 : Int32)) = 1 then ((fX12_symbol c_rights v9.2 v14.2).bind fun x18 =>
jn_ (fun (v19 : Int32) => lt_ (v14.1 ||| v19) fun x20 =>
lt_ (v14.2 + 1) fun x21 =>
rc15 (x20, x21)) fun k22 =>
if x18 < 10 then (k22 0) else ((fX12_symbol c_rights v9.2 v14.2).bind fun x23 =>
k22 ((1 : Int32) <<< ((x23 - (10 : Int32)) &&& (31 : Int32))))) else (k13 v14.1))
def bX12_reachable_22 (N : Nat) (c_rules : Int32) (c_lefts : (Nat → Int32)) (c_sizes : (Nat → Int32)) (c_rights : (Nat → Int32)) (k8 : (Int32 → Option (Int32))) (rc10 : Int32 × Int32 → Option (Int32)) (v9 : Int32 × Int32) : Option (Int32) :=
if c_rules ≤ v9.2 then (k8 v9.1) else (jn_ (fun (v11 : Int32) => lt_ (v9.2 + 1) fun x12 =>
rc10 (v11, x12)) fun k13 =>
itr (bX12_reachable_34 c_lefts c_sizes c_rights v9 k13) N (v9.1, 0))
def bX12_reachable_13 (N : Nat) (c_rules : Int32) (c_lefts : (Nat → Int32)) (c_sizes : (Nat → Int32)) (c_rights : (Nat → Int32)) (k3 : (Int32 → Option (Int32))) (rc5 : Int32 × Int32 → Option (Int32)) (v4 : Int32 × Int32) : Option (Int32) :=
if 8 ≤ v4.2 then (k3 v4.1) else (jn_ (fun (v6 : Int32) => lt_ (v4.2 + 1) fun x7 =>
rc5 (v6, x7)) fun k8 =>
itr (bX12_reachable_22 N c_rules c_lefts c_sizes c_rights k8) N (v4.1, 0))
def fX12_reachable (N : Nat) (c_rules : Int32) (c_lefts : (Nat → Int32)) (c_sizes : (Nat → Int32)) (c_rights : (Nat → Int32)) (p1 : Int32) : Option (Int32) :=
(fX12_isName p1).bind fun x1 =>
if x1 = 0 then (some (-1)) else (jn_ (fun (v2 : Int32) => some ((v2 >>> (p1 &&& (31 : Int32))) &&& (1 : Int32))) fun k3 =>
itr (bX12_reachable_13 N c_rules c_lefts c_sizes c_rights k3) N (1, 0))
def bX12_leftRecursive_71 (c_sizes : (Nat → Int32)) (c_rights : (Nat → Int32)) (o2 : Int32 × Int32 × (Nat → Int32) × (Nat → Int32) × (Nat → Int32) × (Nat → Int32) × (Nat → Int32) × Int32) (v10 : Int32 × Int32) (k16 : (Int32 → Option (Int32 × Int32 × Int32 × (Nat → Int32) × (Nat → Int32) × (Nat → Int32) × (Nat → Int32) × (Nat → Int32) × Int32))) (rc18 : Int32 × Int32 × Int32 → Option (Int32 × Int32 × Int32 × (Nat → Int32) × (Nat → Int32) × (Nat → Int32) × (Nat → Int32) × (Nat → Int32) × Int32)) (v17 : Int32 × Int32 × Int32) : Option (Int32 × Int32 × Int32 × (Nat → Int32) × (Nat → Int32) × (Nat → Int32) × (Nat → Int32) × (Nat → Int32) × Int32) :=
(ag c_sizes 24 v10.2).bind fun x19 =>
if x19 ≤ v17.2.2 then (k16 v17.1) else (if v17.2.1 = 0 then (k16 v17.1) else ((fX12_symbol c_rights v10.2 v17.2.2).bind fun x20 =>
jn_ (fun (v21 : Int32) => lt_ (v17.1 ||| v21) fun x22 =>
(fX12_symbol c_rights v10.2 v17.2.2).bind fun x23 =>
(fX12_isEmpty o2.2.1 x23).bind fun x24 =>
lt_ (v17.2.2 + 1) fun x25 =>
rc18 (x22, x24, x25)) fun k26 =>
if x20 < 10 then (k26 0) else ((fX12_symbol c_rights v10.2 v17.2.2).bind fun x27 =>
k26 ((1 : Int32) <<< ((x27 - (10 : Int32)) &&& (31 : Int32))))))
def bX12_leftRecursive_26 (N : Nat) (p1 : Int32) (c_rules : Int32) (c_lefts : (Nat → Int32)) (c_sizes : (Nat → Int32)) (c_rights : (Nat → Int32)) (o2 : Int32 × Int32 × (Nat → Int32) × (Nat → Int32) × (Nat → Int32) × (Nat → Int32) × (Nat → Int32) × Int32) (k9 : (Int32 → Option (Int32 × Int32 × Int32 × (Nat → Int32) × (Nat → Int32) × (Nat → Int32) × (Nat → Int32) × (Nat → Int32) × Int32))) (rc11 : Int32 × Int32 → Option (Int32 × Int32 × Int32 × (Nat → Int32) × (Nat → Int32) × (Nat → Int32) × (Nat → Int32) × (Nat → Int32) × Int32)) (v10 : Int32 × Int32) : Option (Int32 × Int32 × Int32 × (Nat → Int32) × (Nat → Int32) × (Nat → Int32) × (Nat → Int32) × (Nat → Int32) × Int32) :=
if c_rules ≤ v10.2 then (k9 v10.1) else ((ag c_lefts 24 v10.2).bind fun x12 =>
jn_ (fun (v13 : Int32) => jn_ (fun (v14 : Int32) => lt_ (v10.2 + 1) fun x15 =>
rc11 (v14, x15)) fun k16 =>
itr (bX12_leftRecursive_71 c_sizes c_rights o2 v10 k16) N (v10.1, v13, 0)) fun k29 =>
jn_ (fun (v30 : Unit) => k29 1) fun k31 =>
if x12 = p1 then (k31 ()) else ((ag c_lefts 24 v10.2).bind fun x32 =>
if ((v10.1 >>> (x32 &&& (31 : Int32))) &&& (1 : Int32)) = 1 then (k31 ()) else (k29 0)))
def bX12_leftRecursive_17 (N : Nat) (p1 : Int32) (c_rules : Int32) (c_lefts : (Nat → Int32)) (c_sizes : (Nat → Int32)) (c_rights : (Nat → Int32)) (o2 : Int32 × Int32 × (Nat → Int32) × (Nat → Int32) × (Nat → Int32) × (Nat → Int32) × (Nat → Int32) × Int32) (k4 : (Int32 → Option (Int32 × Int32 × Int32 × (Nat → Int32) × (Nat → Int32) × (Nat → Int32) × (Nat → Int32) × (Nat → Int32) × Int32))) (rc6 : Int32 × Int32 → Option (Int32 × Int32 × Int32 × (Nat → Int32) × (Nat → Int32) × (Nat → Int32) × (Nat → Int32) × (Nat → Int32) × Int32)) (v5 : Int32 × Int32) : Option (Int32 × Int32 × Int32 × (Nat → Int32) × (Nat → Int32) × (Nat → Int32) × (Nat → Int32) × (Nat → Int32) × Int32) :=
if 8 < v5.2 then (k4 v5.1) else (jn_ (fun (v7 : Int32) => lt_ (v5.2 + 1) fun x8 =>
rc6 (v7, x8)) fun k9 =>
itr (bX12_leftRecursive_26 N p1 c_rules c_lefts c_sizes c_rights o2 k9) N (v5.1, 0))
def fX12_leftRecursive (N : Nat) (c_rules : Int32) (c_lefts : (Nat → Int32)) (c_sizes : (Nat → Int32)) (c_rights : (Nat → Int32)) (c_isWorked : Int32) (c_empties : Int32) (c_firsts : (Nat → Int32)) (c_follows : (Nat → Int32)) (c_strings : (Nat → Int32)) (c_longs : (Nat → Int32)) (c_trial : (Nat → Int32)) (c_trialLong : Int32) (p1 : Int32) : Option (Int32 × Int32 × Int32 × (Nat → Int32) × (Nat → Int32) × (Nat → Int32) × (Nat → Int32) × (Nat → Int32) × Int32) :=
(fX12_isName p1).bind fun x1 =>
if x1 = 0 then (some ((-1), c_isWorked, c_empties, c_firsts, c_follows, c_strings, c_longs, c_trial, c_trialLong)) else ((fX12_works N c_rules c_lefts c_sizes c_rights c_isWorked c_empties c_firsts c_follows c_strings c_longs c_trial c_trialLong).bind fun o2 =>
jn_ (fun (v3 : Int32) => some (((v3 >>> (p1 &&& (31 : Int32))) &&& (1 : Int32)), o2.1, o2.2.1, o2.2.2.1, o2.2.2.2.1, o2.2.2.2.2.1, o2.2.2.2.2.2.1, o2.2.2.2.2.2.2.1, o2.2.2.2.2.2.2.2)) fun k4 =>
itr (bX12_leftRecursive_17 N p1 c_rules c_lefts c_sizes c_rights o2 k4) N (0, 0))
def fX12_shortestLength (N : Nat) (c_rules : Int32) (c_lefts : (Nat → Int32)) (c_sizes : (Nat → Int32)) (c_rights : (Nat → Int32)) (c_isWorked : Int32) (c_empties : Int32) (c_firsts : (Nat → Int32)) (c_follows : (Nat → Int32)) (c_strings : (Nat → Int32)) (c_longs : (Nat → Int32)) (c_trial : (Nat → Int32)) (c_trialLong : Int32) (p1 : Int32) : Option (Int32 × Int32 × Int32 × (Nat → Int32) × (Nat → Int32) × (Nat → Int32) × (Nat → Int32) × (Nat → Int32) × Int32) :=
(fX12_works N c_rules c_lefts c_sizes c_rights c_isWorked c_empties c_firsts c_follows c_strings c_longs c_trial c_trialLong).bind fun o1 =>
(fX12_isName p1).bind fun x2 =>
jn_ (fun (v3 : Int32) => some (v3, o1.1, o1.2.1, o1.2.2.1, o1.2.2.2.1, o1.2.2.2.2.1, o1.2.2.2.2.2.1, o1.2.2.2.2.2.2.1, o1.2.2.2.2.2.2.2)) fun k4 =>
if x2 = 0 then (k4 (-1)) else ((ag o1.2.2.2.2.2.1 32 p1).bind fun x5 =>
if 0 ≤ x5 then ((ag o1.2.2.2.2.2.1 32 p1).bind fun x6 =>
k4 x6) else (k4 (-2)))
def fX12_shortestTerminal (N : Nat) (c_rules : Int32) (c_lefts : (Nat → Int32)) (c_sizes : (Nat → Int32)) (c_rights : (Nat → Int32)) (c_isWorked : Int32) (c_empties : Int32) (c_firsts : (Nat → Int32)) (c_follows : (Nat → Int32)) (c_strings : (Nat → Int32)) (c_longs : (Nat → Int32)) (c_trial : (Nat → Int32)) (c_trialLong : Int32) (p1 : Int32) (p2 : Int32) : Option (Int32 × Int32 × Int32 × (Nat → Int32) × (Nat → Int32) × (Nat → Int32) × (Nat → Int32) × (Nat → Int32) × Int32) :=
(fX12_works N c_rules c_lefts c_sizes c_rights c_isWorked c_empties c_firsts c_follows c_strings c_longs c_trial c_trialLong).bind fun o1 =>
(fX12_isName p1).bind fun x2 =>
jn_ (fun (v3 : Int32) => some (v3, o1.1, o1.2.1, o1.2.2.1, o1.2.2.2.1, o1.2.2.2.2.1, o1.2.2.2.2.2.1, o1.2.2.2.2.2.2.1, o1.2.2.2.2.2.2.2)) fun k4 =>
if x2 = 0 then (k4 (-1)) else ((ag o1.2.2.2.2.2.1 32 p1).bind fun x5 =>
(fX12_in p2 0 (x5 - (1 : Int32))).bind fun x6 =>
if x6 = 0 then (k4 (-2)) else ((ag o1.2.2.2.2.1 1280 (((40 : Int32) * p1) + p2)).bind fun x7 =>
k4 x7))
def fX12_addsBegun (N : Nat) (c_sizes : (Nat → Int32)) (c_rights : (Nat → Int32)) (c_strings : (Nat → Int32)) (c_longs : (Nat → Int32)) (c_trial : (Nat → Int32)) (c_trialLong : Int32) (p1 : Int32) (p2 : Int32) (p3 : Int32) : Option ((Nat → Int32) × Int32) :=
(fX12_symbol c_rights p1 p2).bind fun x1 =>
jn_ (fun (v2 : (Nat → Int32) × Int32) => (ag c_sizes 24 p1).bind fun x3 =>
(fX12_addsShortest N c_rights c_strings c_longs v2.1 v2.2 p1 (p2 + (1 : Int32)) x3).bind fun o4 =>
some (o4.1, o4.2)) fun k5 =>
if x1 < 10 then ((fX12_symbol c_rights p1 p2).bind fun x6 =>
if x6 = p3 then ((fX12_adds c_trial c_trialLong p3).bind fun o7 =>
k5 (o7.1, o7.2)) else (k5 (c_trial, (-1)))) else ((fX12_symbol c_rights p1 p2).bind fun x8 =>
(fX12_addsSlot N c_strings c_longs c_trial c_trialLong (((8 : Int32) + x8) - (10 : Int32))).bind fun o9 =>
k5 (o9.1, o9.2))
def bX12_begins_5 (N : Nat) (p1 : Int32) (p2 : Int32) (c_lefts : (Nat → Int32)) (c_sizes : (Nat → Int32)) (c_rights : (Nat → Int32)) (c_empties : Int32) (k2 : (Int32 × (Nat → Int32) × (Nat → Int32) × (Nat → Int32) × Int32 → Option (Int32 × (Nat → Int32) × (Nat → Int32) × (Nat → Int32) × Int32))) (rc4 : Int32 × Int32 × (Nat → Int32) × (Nat → Int32) × (Nat → Int32) × Int32 → Option (Int32 × (Nat → Int32) × (Nat → Int32) × (Nat → Int32) × Int32)) (v3 : Int32 × Int32 × (Nat → Int32) × (Nat → Int32) × (Nat → Int32) × Int32) : Option (Int32 × (Nat → Int32) × (Nat → Int32) × (Nat → Int32) × Int32) :=
(ag c_sizes 24 p1).bind fun x5 =>
if x5 ≤ v3.2.1 then (k2 (v3.1, v3.2.2.1, v3.2.2.2.1, v3.2.2.2.2.1, v3.2.2.2.2.2)) else ((fX12_tries v3.2.2.2.2.2).bind fun o6 =>
(fX12_addsBegun N c_sizes c_rights v3.2.2.1 v3.2.2.2.1 v3.2.2.2.2.1 o6 p1 v3.2.1 p2).bind fun o7 =>
(ag c_lefts 24 p1).bind fun x8 =>
(fX12_betters N v3.2.2.1 v3.2.2.2.1 o7.1 o7.2 ((8 : Int32) + x8)).bind fun o9 =>
jn_ (fun (v10 : Int32) => (fX12_symbol c_rights p1 v3.2.1).bind fun x11 =>
(fX12_isEmpty c_empties x11).bind fun x12 =>
if x12 = 0 then (gz v10 (some (v10, o9.2.1, o9.2.2, o7.1, o7.2))) else (lt_ (v3.2.1 + 1) fun x13 =>
rc4 (v10, x13, o9.2.1, o9.2.2, o7.1, o7.2))) fun k14 =>
jn_ (fun (v15 : Unit) => k14 1) fun k16 =>
if o9.1 = 0 then (if v3.1 = 0 then (k14 0) else (k16 ())) else (k16 ()))
def fX12_begins (N : Nat) (c_lefts : (Nat → Int32)) (c_sizes : (Nat → Int32)) (c_rights : (Nat → Int32)) (c_empties : Int32) (c_strings : (Nat → Int32)) (c_longs : (Nat → Int32)) (c_trial : (Nat → Int32)) (c_trialLong : Int32) (p1 : Int32) (p2 : Int32) : Option (Int32 × (Nat → Int32) × (Nat → Int32) × (Nat → Int32) × Int32) :=
jn_ (fun (v1 : Int32 × (Nat → Int32) × (Nat → Int32) × (Nat → Int32) × Int32) => gz v1.1 (some (v1.1, v1.2.1, v1.2.2.1, v1.2.2.2.1, v1.2.2.2.2))) fun k2 =>
itr (bX12_begins_5 N p1 p2 c_lefts c_sizes c_rights c_empties k2) N (0, 0, c_strings, c_longs, c_trial, c_trialLong)
def bX12_replaces_104 (N : Nat) (p1 : Int32) (p2 : Int32) (c_lefts : (Nat → Int32)) (c_sizes : (Nat → Int32)) (c_rights : (Nat → Int32)) (c_empties : Int32) (v3 : Int32 × Int32 × (Nat → Int32) × (Nat → Int32) × (Nat → Int32) × Int32) (x7 : Int32) (k31 : (Int32 × (Nat → Int32) × (Nat → Int32) × (Nat → Int32) × Int32 → Option (Int32 × (Nat → Int32) × (Nat → Int32) × (Nat → Int32) × Int32))) (k33 : (Int32 × (Nat → Int32) × (Nat → Int32) × (Nat → Int32) × Int32 → Option (Int32 × (Nat → Int32) × (Nat → Int32) × (Nat → Int32) × Int32))) (rc35 : Int32 × Int32 × (Nat → Int32) × (Nat → Int32) × (Nat → Int32) × Int32 → Option (Int32 × (Nat → Int32) × (Nat → Int32) × (Nat → Int32) × Int32)) (v34 : Int32 × Int32 × (Nat → Int32) × (Nat → Int32) × (Nat → Int32) × Int32) : Option (Int32 × (Nat → Int32) × (Nat → Int32) × (Nat → Int32) × Int32) :=
(ag c_sizes 24 p1).bind fun x36 =>
if x36 ≤ v34.2.1 then (k31 (v34.1, v34.2.2.1, v34.2.2.2.1, v34.2.2.2.2.1, v34.2.2.2.2.2)) else ((fX12_tries v34.2.2.2.2.2).bind fun o37 =>
(fX12_addsShortest N c_rights v34.2.2.1 v34.2.2.2.1 v34.2.2.2.2.1 o37 p1 0 v3.2.1).bind fun o38 =>
(fX12_addsSlot N v34.2.2.1 v34.2.2.2.1 o38.1 o38.2 ((24 : Int32) + x7)).bind fun o39 =>
(fX12_addsBegun N c_sizes c_rights v34.2.2.1 v34.2.2.2.1 o39.1 o39.2 p1 v34.2.1 p2).bind fun o40 =>
(ag c_lefts 24 p1).bind fun x41 =>
(fX12_betters N v34.2.2.1 v34.2.2.2.1 o40.1 o40.2 ((16 : Int32) + x41)).bind fun o42 =>
jn_ (fun (v43 : Int32) => (fX12_symbol c_rights p1 v34.2.1).bind fun x44 =>
(fX12_isEmpty c_empties x44).bind fun x45 =>
if x45 = 0 then (k33 (v43, o42.2.1, o42.2.2, o40.1, o40.2)) else (lt_ (v34.2.1 + 1) fun x46 =>
rc35 (v43, x46, o42.2.1, o42.2.2, o40.1, o40.2))) fun k47 =>
jn_ (fun (v48 : Unit) => k47 1) fun k49 =>
if o42.1 = 0 then (if v34.1 = 0 then (k47 0) else (k49 ())) else (k49 ()))
def bX12_replaces_5 (N : Nat) (p1 : Int32) (p2 : Int32) (c_lefts : (Nat → Int32)) (c_sizes : (Nat → Int32)) (c_rights : (Nat → Int32)) (c_empties : Int32) (k2 : (Int32 × (Nat → Int32) × (Nat → Int32) × (Nat → Int32) × Int32 → Option (Int32 × (Nat → Int32) × (Nat → Int32) × (Nat → Int32) × Int32))) (rc4 : Int32 × Int32 × (Nat → Int32) × (Nat → Int32) × (Nat → Int32) × Int32 → Option (Int32 × (Nat → Int32) × (Nat → Int32) × (Nat → Int32) × Int32)) (v3 : Int32 × Int32 × (Nat → Int32) × (Nat → Int32) × (Nat → Int32) × Int32) : Option (Int32 × (Nat → Int32) × (Nat → Int32) × (Nat → Int32) × Int32) :=
(ag c_sizes 24 p1).bind fun x5 =>
if x5 ≤ v3.2.1 then (k2 (v3.1, v3.2.2.1, v3.2.2.2.1, v3.2.2.2.2.1, v3.2.2.2.2.2)) else ((fX12_symbol c_rights p1 v3.2.1).bind fun x6 =>
lt_ (x6 - (10 : Int32)) fun x7 =>
jn_ (fun (v8 : Int32 × (Nat → Int32) × (Nat → Int32) × (Nat → Int32) × Int32) => lt_ (v3.2.1 + 1) fun x9 =>
rc4 (v8.1, x9, v8.2.1, v8.2.2.1, v8.2.2.2.1, v8.2.2.2.2)) fun k10 =>
if 0 ≤ x7 then ((fX12_tries v3.2.2.2.2.2).bind fun o11 =>
(fX12_addsShortest N c_rights v3.2.2.1 v3.2.2.2.1 v3.2.2.2.2.1 o11 p1 0 v3.2.1).bind fun o12 =>
(fX12_addsSlot N v3.2.2.1 v3.2.2.2.1 o12.1 o12.2 ((16 : Int32) + x7)).bind fun o13 =>
(ag c_sizes 24 p1).bind fun x14 =>
(fX12_addsShortest N c_rights v3.2.2.1 v3.2.2.2.1 o13.1 o13.2 p1 (v3.2.1 + (1 : Int32)) x14).bind fun o15 =>
(ag c_lefts 24 p1).bind fun x16 =>
(fX12_betters N v3.2.2.1 v3.2.2.2.1 o15.1 o15.2 ((16 : Int32) + x16)).bind fun o17 =>
jn_ (fun (v18 : Int32) => lt_ (v3.2.1 + (1 : Int32)) fun x19 =>
jn_ (fun (v20 : Int32 × (Nat → Int32) × (Nat → Int32) × (Nat → Int32) × Int32) => (fX12_areEmpty N c_sizes c_rights c_empties p1 (v3.2.1 + (1 : Int32))).bind fun x21 =>
if x21 = 0 then (k10 (v20.1, v20.2.1, v20.2.2.1, v20.2.2.2.1, v20.2.2.2.2)) else ((fX12_tries v20.2.2.2.2).bind fun o22 =>
(fX12_addsShortest N c_rights v20.2.1 v20.2.2.1 v20.2.2.2.1 o22 p1 0 v3.2.1).bind fun o23 =>
(fX12_addsSlot N v20.2.1 v20.2.2.1 o23.1 o23.2 ((24 : Int32) + x7)).bind fun o24 =>
(ag c_lefts 24 p1).bind fun x25 =>
(fX12_betters N v20.2.1 v20.2.2.1 o24.1 o24.2 ((24 : Int32) + x25)).bind fun o26 =>
jn_ (fun (v27 : Int32) => k10 (v27, o26.2.1, o26.2.2, o24.1, o24.2)) fun k28 =>
jn_ (fun (v29 : Unit) => k28 1) fun k30 =>
if o26.1 = 0 then (if v20.1 = 0 then (k28 0) else (k30 ())) else (k30 ()))) fun k31 =>
jn_ (fun (v32 : Int32 × (Nat → Int32) × (Nat → Int32) × (Nat → Int32) × Int32) => k31 (v32.1, v32.2.1, v32.2.2.1, v32.2.2.2.1, v32.2.2.2.2)) fun k33 =>
itr (bX12_replaces_104 N p1 p2 c_lefts c_sizes c_rights c_empties v3 x7 k31 k33) N (v18, x19, o17.2.1, o17.2.2, o15.1, o15.2)) fun k52 =>
jn_ (fun (v53 : Unit) => k52 1) fun k54 =>
if o17.1 = 0 then (if v3.1 = 0 then (k52 0) else (k54 ())) else (k54 ())) else (k10 (v3.1, v3.2.2.1, v3.2.2.2.1, v3.2.2.2.2.1, v3.2.2.2.2.2)))
def fX12_replaces (N : Nat) (c_lefts : (Nat → Int32)) (c_sizes : (Nat → Int32)) (c_rights : (Nat → Int32)) (c_empties : Int32) (c_strings : (Nat → Int32)) (c_longs : (Nat → Int32)) (c_trial : (Nat → Int32)) (c_trialLong : Int32) (p1 : Int32) (p2 : Int32) : Option (Int32 × (Nat → Int32) × (Nat → Int32) × (Nat → Int32) × Int32) :=
jn_ (fun (v1 : Int32 × (Nat → Int32) × (Nat → Int32) × (Nat → Int32) × Int32) => gz v1.1 (some (v1.1, v1.2.1, v1.2.2.1, v1.2.2.2.1, v1.2.2.2.2))) fun k2 =>
itr (bX12_replaces_5 N p1 p2 c_lefts c_sizes c_rights c_empties k2) N (0, 0, c_strings, c_longs, c_trial, c_trialLong)
def bX12_example_158 (N : Nat) (p2 : Int32) (c_rules : Int32) (c_lefts : (Nat → Int32)) (c_sizes : (Nat → Int32)) (c_rights : (Nat → Int32)) (c_empties : Int32) (k13 : (Int32 × (Nat → Int32) × (Nat → Int32) × (Nat → Int32) × Int32 → Option (Int32 × (Nat → Int32) × (Nat → Int32) × (Nat → Int32) × Int32))) (rc15 : Int32 × Int32 × (Nat → Int32) × (Nat → Int32) × (Nat → Int32) × Int32 → Option (Int32 × (Nat → Int32) × (Nat → Int32) × (Nat → Int32) × Int32)) (v14 : Int32 × Int32 × (Nat → Int32) × (Nat → Int32) × (Nat → Int32) × Int32) : Option (Int32 × (Nat → Int32) × (Nat → Int32) × (Nat → Int32) × Int32) :=
if c_rules ≤ v14.2.1 then (k13 (v14.1, v14.2.2.1, v14.2.2.2.1, v14.2.2.2.2.1, v14.2.2.2.2.2)) else ((fX12_replaces N c_lefts c_sizes c_rights c_empties v14.2.2.1 v14.2.2.2.1 v14.2.2.2.2.1 v14.2.2.2.2.2 v14.2.1 p2).bind fun o16 =>
jn_ (fun (v17 : Int32) => lt_ (v14.2.1 + 1) fun x18 =>
rc15 (v17, x18, o16.2.1, o16.2.2.1, o16.2.2.2.1, o16.2.2.2.2)) fun k19 =>
jn_ (fun (v20 : Unit) => k19 1) fun k21 =>
if o16.1 = 0 then (if v14.1 = 0 then (k19 0) else (k21 ())) else (k21 ()))
def bX12_example_147 (N : Nat) (p2 : Int32) (c_rules : Int32) (c_lefts : (Nat → Int32)) (c_sizes : (Nat → Int32)) (c_rights : (Nat → Int32)) (c_empties : Int32) (k9 : ((Nat → Int32) × (Nat → Int32) × (Nat → Int32) × Int32 → Option (Int32 × (Nat → Int32) × (Nat → Int32) × (Nat → Int32) × Int32))) (rc11 : Int32 × (Nat → Int32) × (Nat → Int32) × (Nat → Int32) × Int32 → Option (Int32 × (Nat → Int32) × (Nat → Int32) × (Nat → Int32) × Int32)) (v10 : Int32 × (Nat → Int32) × (Nat → Int32) × (Nat → Int32) × Int32) : Option (Int32 × (Nat → Int32) × (Nat → Int32) × (Nat → Int32) × Int32) :=
if v10.1 = 0 then (k9 (v10.2.1, v10.2.2.1, v10.2.2.2.1, v10.2.2.2.2)) else (jn_ (fun (v12 : Int32 × (Nat → Int32) × (Nat → Int32) × (Nat → Int32) × Int32) => rc11 (v12.1, v12.2.1, v12.2.2.1, v12.2.2.2.1, v12.2.2.2.2)) fun k13 =>
itr (bX12_example_158 N p2 c_rules c_lefts c_sizes c_rights c_empties k13) N (0, 0, v10.2.1, v10.2.2.1, v10.2.2.2.1, v10.2.2.2.2))
def bX12_example_65 (N : Nat) (p1 : Int32) (p2 : Int32) (p3 : Int32) (c_sizes : (Nat → Int32)) (c_rights : (Nat → Int32)) (c_empties : Int32) (k27 : ((Nat → Int32) × (Nat → Int32) × (Nat → Int32) × Int32 → Option (Int32 × (Nat → Int32) × (Nat → Int32) × (Nat → Int32) × Int32))) (k29 : ((Nat → Int32) × (Nat → Int32) × (Nat → Int32) × Int32 → Option (Int32 × (Nat → Int32) × (Nat → Int32) × (Nat → Int32) × Int32))) (rc31 : Int32 × (Nat → Int32) × (Nat → Int32) × (Nat → Int32) × Int32 → Option (Int32 × (Nat → Int32) × (Nat → Int32) × (Nat → Int32) × Int32)) (v30 : Int32 × (Nat → Int32) × (Nat → Int32) × (Nat → Int32) × Int32) : Option (Int32 × (Nat → Int32) × (Nat → Int32) × (Nat → Int32) × Int32) :=
(ag c_sizes 24 p3).bind fun x32 =>
if x32 ≤ v30.1 then (k27 (v30.2.1, v30.2.2.1, v30.2.2.2.1, v30.2.2.2.2)) else ((fX12_tries v30.2.2.2.2).bind fun o33 =>
(fX12_addsBegun N c_sizes c_rights v30.2.1 v30.2.2.1 v30.2.2.2.1 o33 p3 v30.1 p2).bind fun o34 =>
(fX12_betters N v30.2.1 v30.2.2.1 o34.1 o34.2 ((16 : Int32) + p1)).bind fun o35 =>
(fX12_symbol c_rights p3 v30.1).bind fun x36 =>
(fX12_isEmpty c_empties x36).bind fun x37 =>
if x37 = 0 then (k29 (o35.2.1, o35.2.2, o34.1, o34.2)) else (lt_ (v30.1 + 1) fun x38 =>
rc31 (x38, o35.2.1, o35.2.2, o34.1, o34.2)))
def bX12_example_22 (N : Nat) (p2 : Int32) (c_rules : Int32) (c_lefts : (Nat → Int32)) (c_sizes : (Nat → Int32)) (c_rights : (Nat → Int32)) (c_empties : Int32) (k45 : (Int32 × (Nat → Int32) × (Nat → Int32) × (Nat → Int32) × Int32 → Option (Int32 × (Nat → Int32) × (Nat → Int32) × (Nat → Int32) × Int32))) (rc47 : Int32 × Int32 × (Nat → Int32) × (Nat → Int32) × (Nat → Int32) × Int32 → Option (Int32 × (Nat → Int32) × (Nat → Int32) × (Nat → Int32) × Int32)) (v46 : Int32 × Int32 × (Nat → Int32) × (Nat → Int32) × (Nat → Int32) × Int32) : Option (Int32 × (Nat → Int32) × (Nat → Int32) × (Nat → Int32) × Int32) :=
if c_rules ≤ v46.2.1 then (k45 (v46.1, v46.2.2.1, v46.2.2.2.1, v46.2.2.2.2.1, v46.2.2.2.2.2)) else ((fX12_begins N c_lefts c_sizes c_rights c_empties v46.2.2.1 v46.2.2.2.1 v46.2.2.2.2.1 v46.2.2.2.2.2 v46.2.1 p2).bind fun o48 =>
jn_ (fun (v49 : Int32) => lt_ (v46.2.1 + 1) fun x50 =>
rc47 (v49, x50, o48.2.1, o48.2.2.1, o48.2.2.2.1, o48.2.2.2.2)) fun k51 =>
jn_ (fun (v52 : Unit) => k51 1) fun k53 =>
if o48.1 = 0 then (if v46.1 = 0 then (k51 0) else (k53 ())) else (k53 ()))
def bX12_example_11 (N : Nat) (p2 : Int32) (c_rules : Int32) (c_lefts : (Nat → Int32)) (c_sizes : (Nat → Int32)) (c_rights : (Nat → Int32)) (c_empties : Int32) (k41 : ((Nat → Int32) × (Nat → Int32) × (Nat → Int32) × Int32 → Option (Int32 × (Nat → Int32) × (Nat → Int32) × (Nat → Int32) × Int32))) (rc43 : Int32 × (Nat → Int32) × (Nat → Int32) × (Nat → Int32) × Int32 → Option (Int32 × (Nat → Int32) × (Nat → Int32) × (Nat → Int32) × Int32)) (v42 : Int32 × (Nat → Int32) × (Nat → Int32) × (Nat → Int32) × Int32) : Option (Int32 × (Nat → Int32) × (Nat → Int32) × (Nat → Int32) × Int32) :=
if v42.1 = 0 then (k41 (v42.2.1, v42.2.2.1, v42.2.2.2.1, v42.2.2.2.2)) else (jn_ (fun (v44 : Int32 × (Nat → Int32) × (Nat → Int32) × (Nat → Int32) × Int32) => rc43 (v44.1, v44.2.1, v44.2.2.1, v44.2.2.2.1, v44.2.2.2.2)) fun k45 =>
itr (bX12_example_22 N p2 c_rules c_lefts c_sizes c_rights c_empties k45) N (0, 0, v42.2.1, v42.2.2.1, v42.2.2.2.1, v42.2.2.2.2))
def fX12_example (N : Nat) (c_rules : Int32) (c_lefts : (Nat → Int32)) (c_sizes : (Nat → Int32)) (c_rights : (Nat → Int32)) (c_empties : Int32) (c_strings : (Nat → Int32)) (c_longs : (Nat → Int32)) (c_trial : (Nat → Int32)) (c_trialLong : Int32) (p1 : Int32) (p2 : Int32) (p3 : Int32) : Option (Int32 × (Nat → Int32) × (Nat → Int32) × (Nat → Int32) × Int32) :=
(fX12_empties N c_longs 8 32).bind fun o1 =>
jn_ (fun (v2 : (Nat → Int32) × (Nat → Int32) × (Nat → Int32) × Int32) => jn_ (fun (v3 : (Nat → Int32) × (Nat → Int32) × (Nat → Int32) × Int32) => (fX12_areEmpty N c_sizes c_rights c_empties p3 0).bind fun x4 =>
jn_ (fun (v5 : (Nat → Int32) × (Nat → Int32) × Int32) => jn_ (fun (v6 : (Nat → Int32) × (Nat → Int32) × (Nat → Int32) × Int32) => jn_ (fun (v7 : Int32) => some (v7, v6.1, v6.2.1, v6.2.2.1, v6.2.2.2)) fun k8 =>
if p2 = 8 then (k8 24) else (k8 16)) fun k9 =>
itr (bX12_example_147 N p2 c_rules c_lefts c_sizes c_rights c_empties k9) N (1, v5.1, v5.2.1, v3.2.2.1, v5.2.2)) fun k24 =>
if x4 = 0 then (k24 (v3.1, v3.2.1, v3.2.2.2)) else ((fX12_tries v3.2.2.2).bind fun o25 =>
(fX12_betters N v3.1 v3.2.1 v3.2.2.1 o25 ((24 : Int32) + p1)).bind fun o26 =>
k24 (o26.2.1, o26.2.2, o25))) fun k27 =>
jn_ (fun (v28 : (Nat → Int32) × (Nat → Int32) × (Nat → Int32) × Int32) => k27 (v28.1, v28.2.1, v28.2.2.1, v28.2.2.2)) fun k29 =>
itr (bX12_example_65 N p1 p2 p3 c_sizes c_rights c_empties k27 k29) N (0, v2.1, v2.2.1, v2.2.2.1, v2.2.2.2)) fun k41 =>
itr (bX12_example_11 N p2 c_rules c_lefts c_sizes c_rights c_empties k41) N (1, c_strings, o1, c_trial, c_trialLong)
def bX12_entry_2 (N : Nat) (p1 : Int32) (p2 : Int32) (c_rules : Int32) (c_lefts : (Nat → Int32)) (c_sizes : (Nat → Int32)) (c_rights : (Nat → Int32)) (c_empties : Int32) (c_firsts : (Nat → Int32)) (c_follows : (Nat → Int32)) (k2 : (Unit → Option (Int32))) (rc4 : Int32 → Option (Int32)) (v3 : Int32) : Option (Int32) :=
if c_rules ≤ v3 then (k2 ()) else ((ag c_lefts 24 v3).bind fun x5 =>
jn_ (fun (v6 : Unit) => lt_ (v3 + 1) fun x7 =>
rc4 x7) fun k8 =>
if x5 = p1 then ((fX12_selects N c_lefts c_sizes c_rights c_empties c_firsts c_follows v3).bind fun x9 =>
if ((x9 >>> (p2 &&& (31 : Int32))) &&& (1 : Int32)) = 1 then (some v3) else (k8 ())) else (k8 ()))
def fX12_entry (N : Nat) (c_rules : Int32) (c_lefts : (Nat → Int32)) (c_sizes : (Nat → Int32)) (c_rights : (Nat → Int32)) (c_empties : Int32) (c_firsts : (Nat → Int32)) (c_follows : (Nat → Int32)) (p1 : Int32) (p2 : Int32) : Option (Int32) :=
jn_ (fun (v1 : Unit) => some (-2)) fun k2 =>
itr (bX12_entry_2 N p1 p2 c_rules c_lefts c_sizes c_rights c_empties c_firsts c_follows k2) N 0
def fX12_tableEntry (N : Nat) (c_rules : Int32) (c_lefts : (Nat → Int32)) (c_sizes : (Nat → Int32)) (c_rights : (Nat → Int32)) (c_isWorked : Int32) (c_empties : Int32) (c_firsts : (Nat → Int32)) (c_follows : (Nat → Int32)) (c_strings : (Nat → Int32)) (c_longs : (Nat → Int32)) (c_trial : (Nat → Int32)) (c_trialLong : Int32) (p1 : Int32) (p2 : Int32) : Option (Int32 × Int32 × Int32 × (Nat → Int32) × (Nat → Int32) × (Nat → Int32) × (Nat → Int32) × (Nat → Int32) × Int32) :=
(fX12_works N c_rules c_lefts c_sizes c_rights c_isWorked c_empties c_firsts c_follows c_strings c_longs c_trial c_trialLong).bind fun o1 =>
(fX12_isName p1).bind fun x2 =>
jn_ (fun (v3 : Int32) => some (v3, o1.1, o1.2.1, o1.2.2.1, o1.2.2.2.1, o1.2.2.2.2.1, o1.2.2.2.2.2.1, o1.2.2.2.2.2.2.1, o1.2.2.2.2.2.2.2)) fun k4 =>
jn_ (fun (v5 : Unit) => k4 (-1)) fun k6 =>
if x2 = 0 then (k6 ()) else ((fX12_in p2 0 8).bind fun x7 =>
if x7 = 0 then (k6 ()) else ((fX12_entry N c_rules c_lefts c_sizes c_rights o1.2.1 o1.2.2.1 o1.2.2.2.1 p1 p2).bind fun x8 =>
k4 x8))
def bX12_conflicts_66 (N : Nat) (p1 : Int32) (c_rules : Int32) (c_lefts : (Nat → Int32)) (c_sizes : (Nat → Int32)) (c_rights : (Nat → Int32)) (c_empties : Int32) (c_firsts : (Nat → Int32)) (c_follows : (Nat → Int32)) (v3 : Int32 × Int32) (v8 : Int32 × Int32) (v13 : Int32 × Int32) (k18 : (Int32 → Option (Int32 × Int32 × Int32 × Int32 × Int32))) (rc22 : Int32 × Int32 → Option (Int32 × Int32 × Int32 × Int32 × Int32)) (v21 : Int32 × Int32) : Option (Int32 × Int32 × Int32 × Int32 × Int32) :=
if c_rules ≤ v21.2 then (k18 v21.1) else ((ag c_lefts 24 v21.2).bind fun x23 =>
jn_ (fun (v24 : Int32) => lt_ (v21.2 + 1) fun x25 =>
rc22 (v24, x25)) fun k26 =>
if x23 = v3.2 then ((fX12_selects N c_lefts c_sizes c_rights c_empties c_firsts c_follows v21.2).bind fun x27 =>
if ((x27 >>> (v8.2 &&& (31 : Int32))) &&& (1 : Int32)) = 0 then (k26 v21.1) else (lt_ (v21.1 + 1) fun x28 =>
if p1 < x28 then (some (x28, v3.2, v8.2, v13.2, v21.2)) else (k26 x28))) else (k26 v21.1))
def bX12_conflicts_23 (N : Nat) (p1 : Int32) (c_rules : Int32) (c_lefts : (Nat → Int32)) (c_sizes : (Nat → Int32)) (c_rights : (Nat → Int32)) (c_empties : Int32) (c_firsts : (Nat → Int32)) (c_follows : (Nat → Int32)) (v3 : Int32 × Int32) (v8 : Int32 × Int32) (k12 : (Int32 → Option (Int32 × Int32 × Int32 × Int32 × Int32))) (rc14 : Int32 × Int32 → Option (Int32 × Int32 × Int32 × Int32 × Int32)) (v13 : Int32 × Int32) : Option (Int32 × Int32 × Int32 × Int32 × Int32) :=
if c_rules ≤ v13.2 then (k12 v13.1) else ((ag c_lefts 24 v13.2).bind fun x15 =>
jn_ (fun (v16 : Int32) => lt_ (v13.2 + 1) fun x17 =>
rc14 (v16, x17)) fun k18 =>
if x15 = v3.2 then ((fX12_selects N c_lefts c_sizes c_rights c_empties c_firsts c_follows v13.2).bind fun x19 =>
if ((x19 >>> (v8.2 &&& (31 : Int32))) &&& (1 : Int32)) = 0 then (k18 v13.1) else (lt_ (v13.2 + (1 : Int32)) fun x20 =>
itr (bX12_conflicts_66 N p1 c_rules c_lefts c_sizes c_rights c_empties c_firsts c_follows v3 v8 v13 k18) N (v13.1, x20))) else (k18 v13.1))
def bX12_conflicts_13 (N : Nat) (p1 : Int32) (c_rules : Int32) (c_lefts : (Nat → Int32)) (c_sizes : (Nat → Int32)) (c_rights : (Nat → Int32)) (c_empties : Int32) (c_firsts : (Nat → Int32)) (c_follows : (Nat → Int32)) (v3 : Int32 × Int32) (k7 : (Int32 → Option (Int32 × Int32 × Int32 × Int32 × Int32))) (rc9 : Int32 × Int32 → Option (Int32 × Int32 × Int32 × Int32 × Int32)) (v8 : Int32 × Int32) : Option (Int32 × Int32 × Int32 × Int32 × Int32) :=
if 8 < v8.2 then (k7 v8.1) else (jn_ (fun (v10 : Int32) => lt_ (v8.2 + 1) fun x11 =>
rc9 (v10, x11)) fun k12 =>
itr (bX12_conflicts_23 N p1 c_rules c_lefts c_sizes c_rights c_empties c_firsts c_follows v3 v8 k12) N (v8.1, 0))
def bX12_conflicts_4 (N : Nat) (p1 : Int32) (c_rules : Int32) (c_lefts : (Nat → Int32)) (c_sizes : (Nat → Int32)) (c_rights : (Nat → Int32)) (c_empties : Int32) (c_firsts : (Nat → Int32)) (c_follows : (Nat → Int32)) (k2 : (Int32 → Option (Int32 × Int32 × Int32 × Int32 × Int32))) (rc4 : Int32 × Int32 → Option (Int32 × Int32 × Int32 × Int32 × Int32)) (v3 : Int32 × Int32) : Option (Int32 × Int32 × Int32 × Int32 × Int32) :=
if 8 ≤ v3.2 then (k2 v3.1) else (jn_ (fun (v5 : Int32) => lt_ (v3.2 + 1) fun x6 =>
rc4 (v5, x6)) fun k7 =>
itr (bX12_conflicts_13 N p1 c_rules c_lefts c_sizes c_rights c_empties c_firsts c_follows v3 k7) N (v3.1, 0))
def fX12_conflicts (N : Nat) (c_rules : Int32) (c_lefts : (Nat → Int32)) (c_sizes : (Nat → Int32)) (c_rights : (Nat → Int32)) (c_empties : Int32) (c_firsts : (Nat → Int32)) (c_follows : (Nat → Int32)) (c_foundName : Int32) (c_foundToken : Int32) (c_foundP : Int32) (c_foundQ : Int32) (p1 : Int32) : Option (Int32 × Int32 × Int32 × Int32 × Int32) :=
jn_ (fun (v1 : Int32) => some (v1, c_foundName, c_foundToken, c_foundP, c_foundQ)) fun k2 =>
itr (bX12_conflicts_4 N p1 c_rules c_lefts c_sizes c_rights c_empties c_firsts c_follows k2) N (0, 0)
def fX12_conflictMany (N : Nat) (c_rules : Int32) (c_lefts : (Nat → Int32)) (c_sizes : (Nat → Int32)) (c_rights : (Nat → Int32)) (c_empties : Int32) (c_firsts : (Nat → Int32)) (c_follows : (Nat → Int32)) (c_foundName : Int32) (c_foundToken : Int32) (c_foundP : Int32) (c_foundQ : Int32) : Option (Int32 × Int32 × Int32 × Int32 × Int32) :=
(fX12_conflicts N c_rules c_lefts c_sizes c_rights c_empties c_firsts c_follows c_foundName c_foundToken c_foundP c_foundQ 1048576).bind fun o1 =>
some (o1.1, o1.2.1, o1.2.2.1, o1.2.2.2.1, o1.2.2.2.2)
def fX12_isConflict (N : Nat) (c_rules : Int32) (c_lefts : (Nat → Int32)) (c_sizes : (Nat → Int32)) (c_rights : (Nat → Int32)) (c_empties : Int32) (c_firsts : (Nat → Int32)) (c_follows : (Nat → Int32)) (c_foundName : Int32) (c_foundToken : Int32) (c_foundP : Int32) (c_foundQ : Int32) (p1 : Int32) : Option (Int32 × Int32 × Int32 × Int32 × Int32) :=
jn_ (fun (v1 : Int32 × Int32 × Int32 × Int32 × Int32) => gz v1.1 (some (v1.1, v1.2.1, v1.2.2.1, v1.2.2.2.1, v1.2.2.2.2))) fun k2 =>
jn_ (fun (v3 : Int32 × Int32 × Int32 × Int32) => k2 (0, v3.1, v3.2.1, v3.2.2.1, v3.2.2.2)) fun k4 =>
if p1 < 0 then (k4 (c_foundName, c_foundToken, c_foundP, c_foundQ)) else ((fX12_conflicts N c_rules c_lefts c_sizes c_rights c_empties c_firsts c_follows c_foundName c_foundToken c_foundP c_foundQ p1).bind fun o5 =>
if o5.1 ≤ p1 then (k4 (o5.2.1, o5.2.2.1, o5.2.2.2.1, o5.2.2.2.2)) else (k2 (1, o5.2.1, o5.2.2.1, o5.2.2.2.1, o5.2.2.2.2)))
def fX12_conflictCount (N : Nat) (c_rules : Int32) (c_lefts : (Nat → Int32)) (c_sizes : (Nat → Int32)) (c_rights : (Nat → Int32)) (c_isWorked : Int32) (c_empties : Int32) (c_firsts : (Nat → Int32)) (c_follows : (Nat → Int32)) (c_strings : (Nat → Int32)) (c_longs : (Nat → Int32)) (c_trial : (Nat → Int32)) (c_trialLong : Int32) (c_foundName : Int32) (c_foundToken : Int32) (c_foundP : Int32) (c_foundQ : Int32) : Option (Int32 × Int32 × Int32 × (Nat → Int32) × (Nat → Int32) × (Nat → Int32) × (Nat → Int32) × (Nat → Int32) × Int32 × Int32 × Int32 × Int32 × Int32) :=
(fX12_works N c_rules c_lefts c_sizes c_rights c_isWorked c_empties c_firsts c_follows c_strings c_longs c_trial c_trialLong).bind fun o1 =>
(fX12_conflictMany N c_rules c_lefts c_sizes c_rights o1.2.1 o1.2.2.1 o1.2.2.2.1 c_foundName c_foundToken c_foundP c_foundQ).bind fun o2 =>
some (o2.1, o1.1, o1.2.1, o1.2.2.1, o1.2.2.2.1, o1.2.2.2.2.1, o1.2.2.2.2.2.1, o1.2.2.2.2.2.2.1, o1.2.2.2.2.2.2.2, o2.2.1, o2.2.2.1, o2.2.2.2.1, o2.2.2.2.2)
def fX12_conflict (N : Nat) (c_rules : Int32) (c_lefts : (Nat → Int32)) (c_sizes : (Nat → Int32)) (c_rights : (Nat → Int32)) (c_isWorked : Int32) (c_empties : Int32) (c_firsts : (Nat → Int32)) (c_follows : (Nat → Int32)) (c_strings : (Nat → Int32)) (c_longs : (Nat → Int32)) (c_trial : (Nat → Int32)) (c_trialLong : Int32) (c_foundName : Int32) (c_foundToken : Int32) (c_foundP : Int32) (c_foundQ : Int32) (p1 : Int32) (p2 : Int32) : Option (Int32 × Int32 × Int32 × (Nat → Int32) × (Nat → Int32) × (Nat → Int32) × (Nat → Int32) × (Nat → Int32) × Int32 × Int32 × Int32 × Int32 × Int32) :=
(fX12_works N c_rules c_lefts c_sizes c_rights c_isWorked c_empties c_firsts c_follows c_strings c_longs c_trial c_trialLong).bind fun o1 =>
(fX12_isConflict N c_rules c_lefts c_sizes c_rights o1.2.1 o1.2.2.1 o1.2.2.2.1 c_foundName c_foundToken c_foundP c_foundQ p1).bind fun o2 =>
jn_ (fun (v3 : Unit) => some ((-1), o1.1, o1.2.1, o1.2.2.1, o1.2.2.2.1, o1.2.2.2.2.1, o1.2.2.2.2.2.1, o1.2.2.2.2.2.2.1, o1.2.2.2.2.2.2.2, o2.2.1, o2.2.2.1, o2.2.2.2.1, o2.2.2.2.2)) fun k4 =>
if o2.1 = 0 then (k4 ()) else ((fX12_in p2 0 3).bind fun x5 =>
if x5 = 0 then (k4 ()) else (jn_ (fun (v6 : Int32) => some (v6, o1.1, o1.2.1, o1.2.2.1, o1.2.2.2.1, o1.2.2.2.2.1, o1.2.2.2.2.2.1, o1.2.2.2.2.2.2.1, o1.2.2.2.2.2.2.2, o2.2.1, o2.2.2.1, o2.2.2.2.1, o2.2.2.2.2)) fun k7 =>
if p2 = 0 then (k7 o2.2.1) else (if p2 = 1 then (k7 o2.2.2.1) else (if p2 = 2 then (k7 o2.2.2.2.1) else (k7 o2.2.2.2.2)))))
def fX12_kindNow (N : Nat) (c_sizes : (Nat → Int32)) (c_rights : (Nat → Int32)) (c_empties : Int32) (c_firsts : (Nat → Int32)) (c_foundToken : Int32) (c_foundP : Int32) (c_foundQ : Int32) : Option (Int32) :=
(fX12_firstOf N c_sizes c_rights c_empties c_firsts c_foundP 0).bind fun x1 =>
(fX12_firstOf N c_sizes c_rights c_empties c_firsts c_foundQ 0).bind fun x2 =>
some (((2 : Int32) - ((x1 >>> (c_foundToken &&& (31 : Int32))) &&& (1 : Int32))) - ((x2 >>> (c_foundToken &&& (31 : Int32))) &&& (1 : Int32)))
def fX12_conflictKind (N : Nat) (c_rules : Int32) (c_lefts : (Nat → Int32)) (c_sizes : (Nat → Int32)) (c_rights : (Nat → Int32)) (c_isWorked : Int32) (c_empties : Int32) (c_firsts : (Nat → Int32)) (c_follows : (Nat → Int32)) (c_strings : (Nat → Int32)) (c_longs : (Nat → Int32)) (c_trial : (Nat → Int32)) (c_trialLong : Int32) (c_foundName : Int32) (c_foundToken : Int32) (c_foundP : Int32) (c_foundQ : Int32) (p1 : Int32) : Option (Int32 × Int32 × Int32 × (Nat → Int32) × (Nat → Int32) × (Nat → Int32) × (Nat → Int32) × (Nat → Int32) × Int32 × Int32 × Int32 × Int32 × Int32) :=
(fX12_works N c_rules c_lefts c_sizes c_rights c_isWorked c_empties c_firsts c_follows c_strings c_longs c_trial c_trialLong).bind fun o1 =>
(fX12_isConflict N c_rules c_lefts c_sizes c_rights o1.2.1 o1.2.2.1 o1.2.2.2.1 c_foundName c_foundToken c_foundP c_foundQ p1).bind fun o2 =>
jn_ (fun (v3 : Int32) => some (v3, o1.1, o1.2.1, o1.2.2.1, o1.2.2.2.1, o1.2.2.2.2.1, o1.2.2.2.2.2.1, o1.2.2.2.2.2.2.1, o1.2.2.2.2.2.2.2, o2.2.1, o2.2.2.1, o2.2.2.2.1, o2.2.2.2.2)) fun k4 =>
if o2.1 = 0 then (k4 (-1)) else ((fX12_kindNow N c_sizes c_rights o1.2.1 o1.2.2.1 o2.2.2.1 o2.2.2.2.1 o2.2.2.2.2).bind fun x5 =>
k4 x5)
def fX12_exampleLength (N : Nat) (c_rules : Int32) (c_lefts : (Nat → Int32)) (c_sizes : (Nat → Int32)) (c_rights : (Nat → Int32)) (c_isWorked : Int32) (c_empties : Int32) (c_firsts : (Nat → Int32)) (c_follows : (Nat → Int32)) (c_strings : (Nat → Int32)) (c_longs : (Nat → Int32)) (c_trial : (Nat → Int32)) (c_trialLong : Int32) (c_foundName : Int32) (c_foundToken : Int32) (c_foundP : Int32) (c_foundQ : Int32) (p1 : Int32) (p2 : Int32) : Option (Int32 × Int32 × Int32 × (Nat → Int32) × (Nat → Int32) × (Nat → Int32) × (Nat → Int32) × (Nat → Int32) × Int32 × Int32 × Int32 × Int32 × Int32) :=
(fX12_works N c_rules c_lefts c_sizes c_rights c_isWorked c_empties c_firsts c_follows c_strings c_longs c_trial c_trialLong).bind fun o1 =>
(fX12_isConflict N c_rules c_lefts c_sizes c_rights o1.2.1 o1.2.2.1 o1.2.2.2.1 c_foundName c_foundToken c_foundP c_foundQ p1).bind fun o2 =>
jn_ (fun (v3 : Unit) => some ((-1), o1.1, o1.2.1, o1.2.2.1, o1.2.2.2.1, o1.2.2.2.2.1, o1.2.2.2.2.2.1, o1.2.2.2.2.2.2.1, o1.2.2.2.2.2.2.2, o2.2.1, o2.2.2.1, o2.2.2.2.1, o2.2.2.2.2)) fun k4 =>
if o2.1 = 0 then (k4 ()) else ((fX12_in p2 0 1).bind fun x5 =>
if x5 = 0 then (k4 ()) else (jn_ (fun (v6 : Int32) => (fX12_example N c_rules c_lefts c_sizes c_rights o1.2.1 o1.2.2.2.2.1 o1.2.2.2.2.2.1 o1.2.2.2.2.2.2.1 o1.2.2.2.2.2.2.2 o2.2.1 o2.2.2.1 v6).bind fun o7 =>
(ag o7.2.2.1 32 o7.1).bind fun x8 =>
jn_ (fun (v9 : Int32) => some (v9, o1.1, o1.2.1, o1.2.2.1, o1.2.2.2.1, o7.2.1, o7.2.2.1, o7.2.2.2.1, o7.2.2.2.2, o2.2.1, o2.2.2.1, o2.2.2.2.1, o2.2.2.2.2)) fun k10 =>
if 0 ≤ x8 then ((ag o7.2.2.1 32 o7.1).bind fun x11 =>
k10 x11) else (k10 (-2))) fun k12 =>
if p2 = 0 then (k12 o2.2.2.2.1) else (k12 o2.2.2.2.2)))
def fX12_exampleTerminal (N : Nat) (c_rules : Int32) (c_lefts : (Nat → Int32)) (c_sizes : (Nat → Int32)) (c_rights : (Nat → Int32)) (c_isWorked : Int32) (c_empties : Int32) (c_firsts : (Nat → Int32)) (c_follows : (Nat → Int32)) (c_strings : (Nat → Int32)) (c_longs : (Nat → Int32)) (c_trial : (Nat → Int32)) (c_trialLong : Int32) (c_foundName : Int32) (c_foundToken : Int32) (c_foundP : Int32) (c_foundQ : Int32) (p1 : Int32) (p2 : Int32) (p3 : Int32) : Option (Int32 × Int32 × Int32 × (Nat → Int32) × (Nat → Int32) × (Nat → Int32) × (Nat → Int32) × (Nat → Int32) × Int32 × Int32 × Int32 × Int32 × Int32) :=
(fX12_works N c_rules c_lefts c_sizes c_rights c_isWorked c_empties c_firsts c_follows c_strings c_longs c_trial c_trialLong).bind fun o1 =>
(fX12_isConflict N c_rules c_lefts c_sizes c_rights o1.2.1 o1.2.2.1 o1.2.2.2.1 c_foundName c_foundToken c_foundP c_foundQ p1).bind fun o2 =>
jn_ (fun (v3 : Unit) => some ((-1), o1.1, o1.2.1, o1.2.2.1, o1.2.2.2.1, o1.2.2.2.2.1, o1.2.2.2.2.2.1, o1.2.2.2.2.2.2.1, o1.2.2.2.2.2.2.2, o2.2.1, o2.2.2.1, o2.2.2.2.1, o2.2.2.2.2)) fun k4 =>
if o2.1 = 0 then (k4 ()) else ((fX12_in p2 0 1).bind fun x5 =>
if x5 = 0 then (k4 ()) else (jn_ (fun (v6 : Int32) => (fX12_example N c_rules c_lefts c_sizes c_rights o1.2.1 o1.2.2.2.2.1 o1.2.2.2.2.2.1 o1.2.2.2.2.2.2.1 o1.2.2.2.2.2.2.2 o2.2.1 o2.2.2.1 v6).bind fun o7 =>
(ag o7.2.2.1 32 o7.1).bind fun x8 =>
(fX12_in p3 0 (x8 - (1 : Int32))).bind fun x9 =>
jn_ (fun (v10 : Int32) => some (v10, o1.1, o1.2.1, o1.2.2.1, o1.2.2.2.1, o7.2.1, o7.2.2.1, o7.2.2.2.1, o7.2.2.2.2, o2.2.1, o2.2.2.1, o2.2.2.2.1, o2.2.2.2.2)) fun k11 =>
if x9 = 0 then (k11 (-2)) else ((ag o7.2.1 1280 (((40 : Int32) * o7.1) + p3)).bind fun x12 =>
k11 x12)) fun k13 =>
if p2 = 0 then (k13 o2.2.2.2.1) else (k13 o2.2.2.2.2)))
def fX12_check (N : Nat) (c_rules : Int32) (c_lefts : (Nat → Int32)) (c_sizes : (Nat → Int32)) (c_rights : (Nat → Int32)) (c_levels : Int32) (c_codes : (Nat → Int32)) (c_details : (Nat → Int32)) (c_isWorked : Int32) (c_empties : Int32) (c_firsts : (Nat → Int32)) (c_follows : (Nat → Int32)) (c_strings : (Nat → Int32)) (c_longs : (Nat → Int32)) (c_trial : (Nat → Int32)) (c_trialLong : Int32) (c_foundName : Int32) (c_foundToken : Int32) (c_foundP : Int32) (c_foundQ : Int32) : Option (Int32 × Int32 × (Nat → Int32) × (Nat → Int32) × Int32 × Int32 × (Nat → Int32) × (Nat → Int32) × (Nat → Int32) × (Nat → Int32) × (Nat → Int32) × Int32 × Int32 × Int32 × Int32 × Int32) :=
(fX12_works N c_rules c_lefts c_sizes c_rights c_isWorked c_empties c_firsts c_follows c_strings c_longs c_trial c_trialLong).bind fun o1 =>
(fX12_conflictMany N c_rules c_lefts c_sizes c_rights o1.2.1 o1.2.2.1 o1.2.2.2.1 c_foundName c_foundToken c_foundP c_foundQ).bind fun o2 =>
if o2.1 = 0 then (some (0, c_levels, c_codes, c_details, o1.1, o1.2.1, o1.2.2.1, o1.2.2.2.1, o1.2.2.2.2.1, o1.2.2.2.2.2.1, o1.2.2.2.2.2.2.1, o1.2.2.2.2.2.2.2, o2.2.1, o2.2.2.1, o2.2.2.2.1, o2.2.2.2.2)) else ((fX12_isConflict N c_rules c_lefts c_sizes c_rights o1.2.1 o1.2.2.1 o1.2.2.2.1 o2.2.1 o2.2.2.1 o2.2.2.2.1 o2.2.2.2.2 0).bind fun o3 =>
(fX12_tells c_levels c_codes c_details 0 8 o2.1).bind fun o4 =>
(fX12_tells o4.1 o4.2.1 o4.2.2 1 9 o3.2.1).bind fun o5 =>
(fX12_kindNow N c_sizes c_rights o1.2.1 o1.2.2.1 o3.2.2.1 o3.2.2.2.1 o3.2.2.2.2).bind fun x6 =>
(fX12_tells o5.1 o5.2.1 o5.2.2 2 ((10 : Int32) + x6) o3.2.2.1).bind fun o7 =>
some ((-5), o7.1, o7.2.1, o7.2.2, o1.1, o1.2.1, o1.2.2.1, o1.2.2.2.1, o1.2.2.2.2.1, o1.2.2.2.2.2.1, o1.2.2.2.2.2.2.1, o1.2.2.2.2.2.2.2, o3.2.1, o3.2.2.1, o3.2.2.2.1, o3.2.2.2.2))
def bX12_unused_86 (v2 : Int32) (k4 : (Unit → Option (Int32))) (rc6 : Int32 → Option (Int32)) (v5 : Int32) : Option (Int32) :=
if 8 ≤ v5 then (k4 ()) else (if ((v2 >>> (v5 &&& (31 : Int32))) &&& (1 : Int32)) = 0 then (some v5) else (lt_ (v5 + 1) fun x7 =>
rc6 x7))
def bX12_unused_30 (c_sizes : (Nat → Int32)) (c_rights : (Nat → Int32)) (v10 : Int32 × Int32) (k16 : (Int32 → Option (Int32))) (rc18 : Int32 × Int32 → Option (Int32)) (v17 : Int32 × Int32) : Option (Int32) :=
(ag c_sizes 24 v10.2).bind fun x19 =>
if x19 ≤ v17.2 then (k16 v17.1) else ((fX12_symbol c_rights v10.2 v17.2).bind fun x20 =>
jn_ (fun (v21 : Int32) => lt_ (v17.1 ||| v21) fun x22 =>
lt_ (v17.2 + 1) fun x23 =>
rc18 (x22, x23)) fun k24 =>
if x20 < 10 then (k24 0) else ((fX12_symbol c_rights v10.2 v17.2).bind fun x25 =>
k24 ((1 : Int32) <<< ((x25 - (10 : Int32)) &&& (31 : Int32)))))
def bX12_unused_8 (N : Nat) (c_rules : Int32) (c_lefts : (Nat → Int32)) (c_sizes : (Nat → Int32)) (c_rights : (Nat → Int32)) (k9 : (Int32 → Option (Int32))) (rc11 : Int32 × Int32 → Option (Int32)) (v10 : Int32 × Int32) : Option (Int32) :=
if c_rules ≤ v10.2 then (k9 v10.1) else ((ag c_lefts 24 v10.2).bind fun x12 =>
lt_ (v10.1 ||| ((1 : Int32) <<< (x12 &&& (31 : Int32)))) fun x13 =>
jn_ (fun (v14 : Int32) => lt_ (v10.2 + 1) fun x15 =>
rc11 (v14, x15)) fun k16 =>
itr (bX12_unused_30 c_sizes c_rights v10 k16) N (x13, 0))
def fX12_unused (N : Nat) (c_rules : Int32) (c_lefts : (Nat → Int32)) (c_sizes : (Nat → Int32)) (c_rights : (Nat → Int32)) (p1 : Int32) : Option (Int32) :=
lt_ ((1 : Int32) ||| ((1 : Int32) <<< (p1 &&& (31 : Int32)))) fun x1 =>
jn_ (fun (v2 : Int32) => jn_ (fun (v3 : Unit) => some (-1)) fun k4 =>
itr (bX12_unused_86 v2 k4) N 0) fun k9 =>
itr (bX12_unused_8 N c_rules c_lefts c_sizes c_rights k9) N (x1, 0)
def bX12_common_2 (p1 : Int32) (p2 : Int32) (c_sizes : (Nat → Int32)) (c_rights : (Nat → Int32)) (k2 : (Int32 → Option (Int32))) (rc4 : Int32 → Option (Int32)) (v3 : Int32) : Option (Int32) :=
(ag c_sizes 24 p1).bind fun x5 =>
if x5 ≤ v3 then (k2 v3) else ((ag c_sizes 24 p2).bind fun x6 =>
if x6 ≤ v3 then (k2 v3) else ((fX12_symbol c_rights p1 v3).bind fun x7 =>
(fX12_symbol c_rights p2 v3).bind fun x8 =>
if x7 = x8 then (lt_ (v3 + 1) fun x9 =>
rc4 x9) else (k2 v3)))
def fX12_common (N : Nat) (c_sizes : (Nat → Int32)) (c_rights : (Nat → Int32)) (p1 : Int32) (p2 : Int32) : Option (Int32) :=
jn_ (fun (v1 : Int32) => some v1) fun k2 =>
itr (bX12_common_2 p1 p2 c_sizes c_rights k2) N 0
def fX12_refuses (c_levels : Int32) (c_codes : (Nat → Int32)) (c_details : (Nat → Int32)) (p1 : Int32) (p2 : Int32) (p3 : Int32) (p4 : Int32) : Option (Int32 × Int32 × (Nat → Int32) × (Nat → Int32)) :=
(fX12_tells c_levels c_codes c_details 0 15 p1).bind fun o1 =>
(fX12_tells o1.1 o1.2.1 o1.2.2 1 p2 p3).bind fun o2 =>
some (p4, o2.1, o2.2.1, o2.2.2)
def bX12_leftFactor_366 (v5 : Int32 × (Nat → Int32) × (Nat → Int32)) (v12 : Int32 × Int32 × (Nat → Int32) × (Nat → Int32) × (Nat → Int32)) (o14 : Int32 × Int32 × (Nat → Int32) × (Nat → Int32)) (k17 : ((Nat → Int32) × (Nat → Int32) → Option (Int32 × Int32 × (Nat → Int32) × (Nat → Int32) × (Nat → Int32) × Int32 × (Nat → Int32) × (Nat → Int32) × (Nat → Int32) × (Nat → Int32) × Int32 × (Nat → Int32) × (Nat → Int32) × Int32 × Int32 × (Nat → Int32) × (Nat → Int32) × Int32 × Int32 × (Nat → Int32) × (Nat → Int32) × (Nat → Int32) × (Nat → Int32) × (Nat → Int32) × Int32 × (Nat → Int32) × (Nat → Int32)))) (rc19 : Int32 × (Nat → Int32) × (Nat → Int32) → Option (Int32 × Int32 × (Nat → Int32) × (Nat → Int32) × (Nat → Int32) × Int32 × (Nat → Int32) × (Nat → Int32) × (Nat → Int32) × (Nat → Int32) × Int32 × (Nat → Int32) × (Nat → Int32) × Int32 × Int32 × (Nat → Int32) × (Nat → Int32) × Int32 × Int32 × (Nat → Int32) × (Nat → Int32) × (Nat → Int32) × (Nat → Int32) × (Nat → Int32) × Int32 × (Nat → Int32) × (Nat → Int32))) (v18 : Int32 × (Nat → Int32) × (Nat → Int32)) : Option (Int32 × Int32 × (Nat → Int32) × (Nat → Int32) × (Nat → Int32) × Int32 × (Nat → Int32) × (Nat → Int32) × (Nat → Int32) × (Nat → Int32) × Int32 × (Nat → Int32) × (Nat → Int32) × Int32 × Int32 × (Nat → Int32) × (Nat → Int32) × Int32 × Int32 × (Nat → Int32) × (Nat → Int32) × (Nat → Int32) × (Nat → Int32) × (Nat → Int32) × Int32 × (Nat → Int32) × (Nat → Int32)) :=
(ag v5.2.2 24 v12.1).bind fun x20 =>
if x20 ≤ v18.1 then (k17 (v18.2.1, v18.2.2)) else ((ag v5.2.1 120 (((5 : Int32) * v12.1) + v18.1)).bind fun x21 =>
(fX12_puts v18.2.1 v18.2.2 o14.1 x21).bind fun o22 =>
lt_ (v18.1 + 1) fun x23 =>
rc19 (x23, o22.1, o22.2))
def bX12_leftFactor_348 (N : Nat) (x3 : Int32) (v5 : Int32 × (Nat → Int32) × (Nat → Int32)) (k11 : (Int32 × (Nat → Int32) × (Nat → Int32) × (Nat → Int32) → Option (Int32 × Int32 × (Nat → Int32) × (Nat → Int32) × (Nat → Int32) × Int32 × (Nat → Int32) × (Nat → Int32) × (Nat → Int32) × (Nat → Int32) × Int32 × (Nat → Int32) × (Nat → Int32) × Int32 × Int32 × (Nat → Int32) × (Nat → Int32) × Int32 × Int32 × (Nat → Int32) × (Nat → Int32) × (Nat → Int32) × (Nat → Int32) × (Nat → Int32) × Int32 × (Nat → Int32) × (Nat → Int32)))) (rc13 : Int32 × Int32 × (Nat → Int32) × (Nat → Int32) × (Nat → Int32) → Option (Int32 × Int32 × (Nat → Int32) × (Nat → Int32) × (Nat → Int32) × Int32 × (Nat → Int32) × (Nat → Int32) × (Nat → Int32) × (Nat → Int32) × Int32 × (Nat → Int32) × (Nat → Int32) × Int32 × Int32 × (Nat → Int32) × (Nat → Int32) × Int32 × Int32 × (Nat → Int32) × (Nat → Int32) × (Nat → Int32) × (Nat → Int32) × (Nat → Int32) × Int32 × (Nat → Int32) × (Nat → Int32))) (v12 : Int32 × Int32 × (Nat → Int32) × (Nat → Int32) × (Nat → Int32)) : Option (Int32 × Int32 × (Nat → Int32) × (Nat → Int32) × (Nat → Int32) × Int32 × (Nat → Int32) × (Nat → Int32) × (Nat → Int32) × (Nat → Int32) × Int32 × (Nat → Int32) × (Nat → Int32) × Int32 × Int32 × (Nat → Int32) × (Nat → Int32) × Int32 × Int32 × (Nat → Int32) × (Nat → Int32) × (Nat → Int32) × (Nat → Int32) × (Nat → Int32) × Int32 × (Nat → Int32) × (Nat → Int32)) :=
if v5.1 ≤ v12.1 then (k11 (v12.2.1, v12.2.2.1, v12.2.2.2.1, v12.2.2.2.2)) else ((fX12_opens v12.2.1 v12.2.2.1 v12.2.2.2.1 x3).bind fun o14 =>
jn_ (fun (v15 : (Nat → Int32) × (Nat → Int32)) => lt_ (v12.1 + 1) fun x16 =>
rc13 (x16, o14.2.1, o14.2.2.1, v15.1, v15.2)) fun k17 =>
itr (bX12_leftFactor_366 v5 v12 o14 k17) N (0, o14.2.2.2, v12.2.2.2.2))
def bX12_leftFactor_288 (N : Nat) (p1 : Int32) (v2 : Int32 × Int32) (k26 : (Int32 × (Nat → Int32) × (Nat → Int32) × (Nat → Int32) → Option (Int32 × Int32 × (Nat → Int32) × (Nat → Int32) × (Nat → Int32) × Int32 × (Nat → Int32) × (Nat → Int32) × (Nat → Int32) × (Nat → Int32) × Int32 × (Nat → Int32) × (Nat → Int32) × Int32 × Int32 × (Nat → Int32) × (Nat → Int32) × Int32 × Int32 × (Nat → Int32) × (Nat → Int32) × (Nat → Int32) × (Nat → Int32) × (Nat → Int32) × Int32 × (Nat → Int32) × (Nat → Int32)))) (rc28 : Int32 × Int32 × (Nat → Int32) × (Nat → Int32) × (Nat → Int32) → Option (Int32 × Int32 × (Nat → Int32) × (Nat → Int32) × (Nat → Int32) × Int32 × (Nat → Int32) × (Nat → Int32) × (Nat → Int32) × (Nat → Int32) × Int32 × (Nat → Int32) × (Nat → Int32) × Int32 × Int32 × (Nat → Int32) × (Nat → Int32) × Int32 × Int32 × (Nat → Int32) × (Nat → Int32) × (Nat → Int32) × (Nat → Int32) × (Nat → Int32) × Int32 × (Nat → Int32) × (Nat → Int32))) (v27 : Int32 × Int32 × (Nat → Int32) × (Nat → Int32) × (Nat → Int32)) : Option (Int32 × Int32 × (Nat → Int32) × (Nat → Int32) × (Nat → Int32) × Int32 × (Nat → Int32) × (Nat → Int32) × (Nat → Int32) × (Nat → Int32) × Int32 × (Nat → Int32) × (Nat → Int32) × Int32 × Int32 × (Nat → Int32) × (Nat → Int32) × Int32 × Int32 × (Nat → Int32) × (Nat → Int32) × (Nat → Int32) × (Nat → Int32) × (Nat → Int32) × Int32 × (Nat → Int32) × (Nat → Int32)) :=
if v27.1 ≤ v2.2 then (k26 (v27.2.1, v27.2.2.1, v27.2.2.2.1, v27.2.2.2.2)) else ((ag v27.2.2.1 24 v27.1).bind fun x29 =>
jn_ (fun (v30 : Int32 × (Nat → Int32) × (Nat → Int32) × (Nat → Int32)) => lt_ (v27.1 + (-1)) fun x31 =>
rc28 (x31, v30.1, v30.2.1, v30.2.2.1, v30.2.2.2)) fun k32 =>
if x29 = p1 then ((fX12_common N v27.2.2.2.1 v27.2.2.2.2 v27.1 v2.2).bind fun x33 =>
if x33 < v2.1 then (k32 (v27.2.1, v27.2.2.1, v27.2.2.2.1, v27.2.2.2.2)) else ((fX12_drops N v27.2.1 v27.2.2.1 v27.2.2.2.1 v27.2.2.2.2 v27.1).bind fun o34 =>
k32 (o34.1, o34.2.1, o34.2.2.1, o34.2.2.2))) else (k32 (v27.2.1, v27.2.2.1, v27.2.2.2.1, v27.2.2.2.2)))
def bX12_leftFactor_231 (c_sizes : (Nat → Int32)) (c_rights : (Nat → Int32)) (v2 : Int32 × Int32) (v37 : Int32 × Int32 × (Nat → Int32) × (Nat → Int32)) (k48 : ((Nat → Int32) → Option (Int32 × Int32 × (Nat → Int32) × (Nat → Int32) × (Nat → Int32) × Int32 × (Nat → Int32) × (Nat → Int32) × (Nat → Int32) × (Nat → Int32) × Int32 × (Nat → Int32) × (Nat → Int32) × Int32 × Int32 × (Nat → Int32) × (Nat → Int32) × Int32 × Int32 × (Nat → Int32) × (Nat → Int32) × (Nat → Int32) × (Nat → Int32) × (Nat → Int32) × Int32 × (Nat → Int32) × (Nat → Int32)))) (rc50 : Int32 × (Nat → Int32) → Option (Int32 × Int32 × (Nat → Int32) × (Nat → Int32) × (Nat → Int32) × Int32 × (Nat → Int32) × (Nat → Int32) × (Nat → Int32) × (Nat → Int32) × Int32 × (Nat → Int32) × (Nat → Int32) × Int32 × Int32 × (Nat → Int32) × (Nat → Int32) × Int32 × Int32 × (Nat → Int32) × (Nat → Int32) × (Nat → Int32) × (Nat → Int32) × (Nat → Int32) × Int32 × (Nat → Int32) × (Nat → Int32))) (v49 : Int32 × (Nat → Int32)) : Option (Int32 × Int32 × (Nat → Int32) × (Nat → Int32) × (Nat → Int32) × Int32 × (Nat → Int32) × (Nat → Int32) × (Nat → Int32) × (Nat → Int32) × Int32 × (Nat → Int32) × (Nat → Int32) × Int32 × Int32 × (Nat → Int32) × (Nat → Int32) × Int32 × Int32 × (Nat → Int32) × (Nat → Int32) × (Nat → Int32) × (Nat → Int32) × (Nat → Int32) × Int32 × (Nat → Int32) × (Nat → Int32)) :=
(ag c_sizes 24 v37.2.1).bind fun x51 =>
if x51 ≤ v49.1 then (k48 v49.2) else ((fX12_symbol c_rights v37.2.1 v49.1).bind fun x52 =>
(as_ v49.2 120 ((((5 : Int32) * v37.1) + v49.1) - v2.1) x52).bind fun f53 =>
lt_ (v49.1 + 1) fun x54 =>
rc50 (x54, f53))
def bX12_leftFactor_172 (N : Nat) (p1 : Int32) (c_rules : Int32) (c_lefts : (Nat → Int32)) (c_sizes : (Nat → Int32)) (c_rights : (Nat → Int32)) (v2 : Int32 × Int32) (k36 : (Int32 × (Nat → Int32) × (Nat → Int32) → Option (Int32 × Int32 × (Nat → Int32) × (Nat → Int32) × (Nat → Int32) × Int32 × (Nat → Int32) × (Nat → Int32) × (Nat → Int32) × (Nat → Int32) × Int32 × (Nat → Int32) × (Nat → Int32) × Int32 × Int32 × (Nat → Int32) × (Nat → Int32) × Int32 × Int32 × (Nat → Int32) × (Nat → Int32) × (Nat → Int32) × (Nat → Int32) × (Nat → Int32) × Int32 × (Nat → Int32) × (Nat → Int32)))) (rc38 : Int32 × Int32 × (Nat → Int32) × (Nat → Int32) → Option (Int32 × Int32 × (Nat → Int32) × (Nat → Int32) × (Nat → Int32) × Int32 × (Nat → Int32) × (Nat → Int32) × (Nat → Int32) × (Nat → Int32) × Int32 × (Nat → Int32) × (Nat → Int32) × Int32 × Int32 × (Nat → Int32) × (Nat → Int32) × Int32 × Int32 × (Nat → Int32) × (Nat → Int32) × (Nat → Int32) × (Nat → Int32) × (Nat → Int32) × Int32 × (Nat → Int32) × (Nat → Int32))) (v37 : Int32 × Int32 × (Nat → Int32) × (Nat → Int32)) : Option (Int32 × Int32 × (Nat → Int32) × (Nat → Int32) × (Nat → Int32) × Int32 × (Nat → Int32) × (Nat → Int32) × (Nat → Int32) × (Nat → Int32) × Int32 × (Nat → Int32) × (Nat → Int32) × Int32 × Int32 × (Nat → Int32) × (Nat → Int32) × Int32 × Int32 × (Nat → Int32) × (Nat → Int32) × (Nat → Int32) × (Nat → Int32) × (Nat → Int32) × Int32 × (Nat → Int32) × (Nat → Int32)) :=
if c_rules ≤ v37.2.1 then (k36 (v37.1, v37.2.2.1, v37.2.2.2)) else ((ag c_lefts 24 v37.2.1).bind fun x39 =>
jn_ (fun (v40 : Int32 × (Nat → Int32) × (Nat → Int32)) => lt_ (v37.2.1 + 1) fun x41 =>
rc38 (v40.1, x41, v40.2.1, v40.2.2)) fun k42 =>
if x39 = p1 then (jn_ (fun (v43 : Unit) => (ag c_sizes 24 v37.2.1).bind fun x44 =>
(as_ v37.2.2.2 24 v37.1 (x44 - v2.1)).bind fun f45 =>
jn_ (fun (v46 : (Nat → Int32)) => lt_ (v37.1 + 1) fun x47 =>
k42 (x47, v46, f45)) fun k48 =>
itr (bX12_leftFactor_231 c_sizes c_rights v2 v37 k48) N (v2.1, v37.2.2.1)) fun k56 =>
if v37.2.1 = v2.2 then (k56 ()) else ((fX12_common N c_sizes c_rights v37.2.1 v2.2).bind fun x57 =>
if v2.1 ≤ x57 then (k56 ()) else (k42 (v37.1, v37.2.2.1, v37.2.2.2)))) else (k42 (v37.1, v37.2.2.1, v37.2.2.2)))
def bX12_leftFactor_28 (N : Nat) (p1 : Int32) (c_rules : Int32) (c_lefts : (Nat → Int32)) (c_sizes : (Nat → Int32)) (c_rights : (Nat → Int32)) (v62 : Int32 × Int32 × Int32) (k66 : (Int32 × Int32 → Option (Int32 × Int32 × (Nat → Int32) × (Nat → Int32) × (Nat → Int32) × Int32 × (Nat → Int32) × (Nat → Int32) × (Nat → Int32) × (Nat → Int32) × Int32 × (Nat → Int32) × (Nat → Int32) × Int32 × Int32 × (Nat → Int32) × (Nat → Int32) × Int32 × Int32 × (Nat → Int32) × (Nat → Int32) × (Nat → Int32) × (Nat → Int32) × (Nat → Int32) × Int32 × (Nat → Int32) × (Nat → Int32)))) (rc68 : Int32 × Int32 × Int32 → Option (Int32 × Int32 × (Nat → Int32) × (Nat → Int32) × (Nat → Int32) × Int32 × (Nat → Int32) × (Nat → Int32) × (Nat → Int32) × (Nat → Int32) × Int32 × (Nat → Int32) × (Nat → Int32) × Int32 × Int32 × (Nat → Int32) × (Nat → Int32) × Int32 × Int32 × (Nat → Int32) × (Nat → Int32) × (Nat → Int32) × (Nat → Int32) × (Nat → Int32) × Int32 × (Nat → Int32) × (Nat → Int32))) (v67 : Int32 × Int32 × Int32) : Option (Int32 × Int32 × (Nat → Int32) × (Nat → Int32) × (Nat → Int32) × Int32 × (Nat → Int32) × (Nat → Int32) × (Nat → Int32) × (Nat → Int32) × Int32 × (Nat → Int32) × (Nat → Int32) × Int32 × Int32 × (Nat → Int32) × (Nat → Int32) × Int32 × Int32 × (Nat → Int32) × (Nat → Int32) × (Nat → Int32) × (Nat → Int32) × (Nat → Int32) × Int32 × (Nat → Int32) × (Nat → Int32)) :=
if c_rules ≤ v67.2.2 then (k66 (v67.1, v67.2.1)) else (jn_ (fun (v69 : Int32 × Int32) => lt_ (v67.2.2 + 1) fun x70 =>
rc68 (v69.1, v69.2, x70)) fun k71 =>
if v62.2.2 = v67.2.2 then (k71 (v67.1, v67.2.1)) else ((ag c_lefts 24 v62.2.2).bind fun x72 =>
if x72 = p1 then ((ag c_lefts 24 v67.2.2).bind fun x73 =>
if x73 = p1 then ((fX12_common N c_sizes c_rights v62.2.2 v67.2.2).bind fun x74 =>
if v67.1 < x74 then ((fX12_common N c_sizes c_rights v62.2.2 v67.2.2).bind fun x75 =>
k71 (x75, v62.2.2)) else (k71 (v67.1, v67.2.1))) else (k71 (v67.1, v67.2.1))) else (k71 (v67.1, v67.2.1))))
def bX12_leftFactor_16 (N : Nat) (p1 : Int32) (c_rules : Int32) (c_lefts : (Nat → Int32)) (c_sizes : (Nat → Int32)) (c_rights : (Nat → Int32)) (k61 : (Int32 × Int32 → Option (Int32 × Int32 × (Nat → Int32) × (Nat → Int32) × (Nat → Int32) × Int32 × (Nat → Int32) × (Nat → Int32) × (Nat → Int32) × (Nat → Int32) × Int32 × (Nat → Int32) × (Nat → Int32) × Int32 × Int32 × (Nat → Int32) × (Nat → Int32) × Int32 × Int32 × (Nat → Int32) × (Nat → Int32) × (Nat → Int32) × (Nat → Int32) × (Nat → Int32) × Int32 × (Nat → Int32) × (Nat → Int32)))) (rc63 : Int32 × Int32 × Int32 → Option (Int32 × Int32 × (Nat → Int32) × (Nat → Int32) × (Nat → Int32) × Int32 × (Nat → Int32) × (Nat → Int32) × (Nat → Int32) × (Nat → Int32) × Int32 × (Nat → Int32) × (Nat → Int32) × Int32 × Int32 × (Nat → Int32) × (Nat → Int32) × Int32 × Int32 × (Nat → Int32) × (Nat → Int32) × (Nat → Int32) × (Nat → Int32) × (Nat → Int32) × Int32 × (Nat → Int32) × (Nat → Int32))) (v62 : Int32 × Int32 × Int32) : Option (Int32 × Int32 × (Nat → Int32) × (Nat → Int32) × (Nat → Int32) × Int32 × (Nat → Int32) × (Nat → Int32) × (Nat → Int32) × (Nat → Int32) × Int32 × (Nat → Int32) × (Nat → Int32) × Int32 × Int32 × (Nat → Int32) × (Nat → Int32) × Int32 × Int32 × (Nat → Int32) × (Nat → Int32) × (Nat → Int32) × (Nat → Int32) × (Nat → Int32) × Int32 × (Nat → Int32) × (Nat → Int32)) :=
if c_rules ≤ v62.2.2 then (k61 (v62.1, v62.2.1)) else (jn_ (fun (v64 : Int32 × Int32) => lt_ (v62.2.2 + 1) fun x65 =>
rc63 (v64.1, v64.2, x65)) fun k66 =>
itr (bX12_leftFactor_28 N p1 c_rules c_lefts c_sizes c_rights v62 k66) N (v62.1, v62.2.1, 0))
def fX12_leftFactor (N : Nat) (c_rules : Int32) (c_lefts : (Nat → Int32)) (c_sizes : (Nat → Int32)) (c_rights : (Nat → Int32)) (c_edits : Int32) (c_pastRules : (Nat → Int32)) (c_pastLefts : (Nat → Int32)) (c_pastSizes : (Nat → Int32)) (c_pastRights : (Nat → Int32)) (c_levels : Int32) (c_codes : (Nat → Int32)) (c_details : (Nat → Int32)) (c_isWorked : Int32) (c_empties : Int32) (c_firsts : (Nat → Int32)) (c_follows : (Nat → Int32)) (c_isKept : Int32) (c_keptEmpties : Int32) (c_keptFirsts : (Nat → Int32)) (c_keptFollows : (Nat → Int32)) (c_strings : (Nat → Int32)) (c_longs : (Nat → Int32)) (c_trial : (Nat → Int32)) (c_trialLong : Int32) (c_moved : (Nat → Int32)) (c_movedSizes : (Nat → Int32)) (p1 : Int32) : Option (Int32 × Int32 × (Nat → Int32) × (Nat → Int32) × (Nat → Int32) × Int32 × (Nat → Int32) × (Nat → Int32) × (Nat → Int32) × (Nat → Int32) × Int32 × (Nat → Int32) × (Nat → Int32) × Int32 × Int32 × (Nat → Int32) × (Nat → Int32) × Int32 × Int32 × (Nat → Int32) × (Nat → Int32) × (Nat → Int32) × (Nat → Int32) × (Nat → Int32) × Int32 × (Nat → Int32) × (Nat → Int32)) :=
(fX12_isName p1).bind fun x1 =>
if x1 = 0 then (some ((-1), c_rules, c_lefts, c_sizes, c_rights, c_edits, c_pastRules, c_pastLefts, c_pastSizes, c_pastRights, c_levels, c_codes, c_details, c_isWorked, c_empties, c_firsts, c_follows, c_isKept, c_keptEmpties, c_keptFirsts, c_keptFollows, c_strings, c_longs, c_trial, c_trialLong, c_moved, c_movedSizes)) else (jn_ (fun (v2 : Int32 × Int32) => if v2.1 = 0 then (some ((-2), c_rules, c_lefts, c_sizes, c_rights, c_edits, c_pastRules, c_pastLefts, c_pastSizes, c_pastRights, c_levels, c_codes, c_details, c_isWorked, c_empties, c_firsts, c_follows, c_isKept, c_keptEmpties, c_keptFirsts, c_keptFollows, c_strings, c_longs, c_trial, c_trialLong, c_moved, c_movedSizes)) else ((fX12_unused N c_rules c_lefts c_sizes c_rights p1).bind fun x3 =>
if 0 ≤ x3 then (if (c_rules + (1 : Int32)) ≤ 24 then ((fX12_edits N c_rules c_lefts c_sizes c_rights c_edits c_pastRules c_pastLefts c_pastSizes c_pastRights c_isWorked c_empties c_firsts c_follows c_isKept c_keptEmpties c_keptFirsts c_keptFollows c_strings c_longs c_trial c_trialLong).bind fun o4 =>
jn_ (fun (v5 : Int32 × (Nat → Int32) × (Nat → Int32)) => lt_ (c_rules - (1 : Int32)) fun x6 =>
jn_ (fun (v7 : Int32 × (Nat → Int32) × (Nat → Int32) × (Nat → Int32)) => (as_ v7.2.2.1 24 v2.2 v2.1).bind fun f8 =>
(fX12_puts f8 v7.2.2.2 v2.2 ((10 : Int32) + x3)).bind fun o9 =>
jn_ (fun (v10 : Int32 × (Nat → Int32) × (Nat → Int32) × (Nat → Int32)) => some (x3, v10.1, v10.2.1, v10.2.2.1, v10.2.2.2, o4.1, o4.2.1, o4.2.2.1, o4.2.2.2.1, o4.2.2.2.2.1, c_levels, c_codes, c_details, o4.2.2.2.2.2.1, o4.2.2.2.2.2.2.1, o4.2.2.2.2.2.2.2.1, o4.2.2.2.2.2.2.2.2.1, o4.2.2.2.2.2.2.2.2.2.1, o4.2.2.2.2.2.2.2.2.2.2.1, o4.2.2.2.2.2.2.2.2.2.2.2.1, o4.2.2.2.2.2.2.2.2.2.2.2.2.1, o4.2.2.2.2.2.2.2.2.2.2.2.2.2.1, o4.2.2.2.2.2.2.2.2.2.2.2.2.2.2.1, o4.2.2.2.2.2.2.2.2.2.2.2.2.2.2.2.1, o4.2.2.2.2.2.2.2.2.2.2.2.2.2.2.2.2, v5.2.1, v5.2.2)) fun k11 =>
itr (bX12_leftFactor_348 N x3 v5 k11) N (0, v7.1, v7.2.1, o9.1, o9.2)) fun k26 =>
itr (bX12_leftFactor_288 N p1 v2 k26) N (x6, c_rules, c_lefts, c_sizes, c_rights)) fun k36 =>
itr (bX12_leftFactor_172 N p1 c_rules c_lefts c_sizes c_rights v2 k36) N (0, v2.2, c_moved, c_movedSizes)) else ((fX12_refuses c_levels c_codes c_details p1 17 (c_rules + (1 : Int32)) (-3)).bind fun o59 =>
some (o59.1, c_rules, c_lefts, c_sizes, c_rights, c_edits, c_pastRules, c_pastLefts, c_pastSizes, c_pastRights, o59.2.1, o59.2.2.1, o59.2.2.2, c_isWorked, c_empties, c_firsts, c_follows, c_isKept, c_keptEmpties, c_keptFirsts, c_keptFollows, c_strings, c_longs, c_trial, c_trialLong, c_moved, c_movedSizes))) else ((fX12_refuses c_levels c_codes c_details p1 16 0 (-3)).bind fun o60 =>
some (o60.1, c_rules, c_lefts, c_sizes, c_rights, c_edits, c_pastRules, c_pastLefts, c_pastSizes, c_pastRights, o60.2.1, o60.2.2.1, o60.2.2.2, c_isWorked, c_empties, c_firsts, c_follows, c_isKept, c_keptEmpties, c_keptFirsts, c_keptFollows, c_strings, c_longs, c_trial, c_trialLong, c_moved, c_movedSizes)))) fun k61 =>
itr (bX12_leftFactor_16 N p1 c_rules c_lefts c_sizes c_rights k61) N (0, (-1), 0))
def fX12_isRecursive (c_lefts : (Nat → Int32)) (c_sizes : (Nat → Int32)) (c_rights : (Nat → Int32)) (p1 : Int32) (p2 : Int32) : Option (Int32) :=
(ag c_lefts 24 p1).bind fun x1 =>
jn_ (fun (v2 : Int32) => gz v2 (some v2)) fun k3 =>
jn_ (fun (v4 : Unit) => k3 0) fun k5 =>
if x1 = p2 then ((ag c_sizes 24 p1).bind fun x6 =>
if x6 ≤ 0 then (k5 ()) else ((fX12_symbol c_rights p1 0).bind fun x7 =>
if x7 = ((10 : Int32) + p2) then (k3 1) else (k5 ()))) else (k5 ())
def bX12_removeLeftRecursion_398 (v5 : Int32 × (Nat → Int32) × (Nat → Int32) × (Nat → Int32) × (Nat → Int32)) (v11 : Int32 × Int32 × (Nat → Int32) × (Nat → Int32) × (Nat → Int32)) (o13 : Int32 × Int32 × (Nat → Int32) × (Nat → Int32)) (k17 : ((Nat → Int32) × (Nat → Int32) → Option (Int32 × Int32 × (Nat → Int32) × (Nat → Int32) × (Nat → Int32) × Int32 × (Nat → Int32) × (Nat → Int32) × (Nat → Int32) × (Nat → Int32) × Int32 × (Nat → Int32) × (Nat → Int32) × Int32 × Int32 × (Nat → Int32) × (Nat → Int32) × Int32 × Int32 × (Nat → Int32) × (Nat → Int32) × (Nat → Int32) × (Nat → Int32) × (Nat → Int32) × Int32 × (Nat → Int32) × (Nat → Int32)))) (rc19 : Int32 × (Nat → Int32) × (Nat → Int32) → Option (Int32 × Int32 × (Nat → Int32) × (Nat → Int32) × (Nat → Int32) × Int32 × (Nat → Int32) × (Nat → Int32) × (Nat → Int32) × (Nat → Int32) × Int32 × (Nat → Int32) × (Nat → Int32) × Int32 × Int32 × (Nat → Int32) × (Nat → Int32) × Int32 × Int32 × (Nat → Int32) × (Nat → Int32) × (Nat → Int32) × (Nat → Int32) × (Nat → Int32) × Int32 × (Nat → Int32) × (Nat → Int32))) (v18 : Int32 × (Nat → Int32) × (Nat → Int32)) : Option (Int32 × Int32 × (Nat → Int32) × (Nat → Int32) × (Nat → Int32) × Int32 × (Nat → Int32) × (Nat → Int32) × (Nat → Int32) × (Nat → Int32) × Int32 × (Nat → Int32) × (Nat → Int32) × Int32 × Int32 × (Nat → Int32) × (Nat → Int32) × Int32 × Int32 × (Nat → Int32) × (Nat → Int32) × (Nat → Int32) × (Nat → Int32) × (Nat → Int32) × Int32 × (Nat → Int32) × (Nat → Int32)) :=
(ag v5.2.2.2.2 24 v11.1).bind fun x20 =>
if x20 ≤ v18.1 then (k17 (v18.2.1, v18.2.2)) else ((ag v5.2.2.2.1 120 (((5 : Int32) * v11.1) + v18.1)).bind fun x21 =>
(fX12_puts v18.2.1 v18.2.2 o13.1 x21).bind fun o22 =>
lt_ (v18.1 + 1) fun x23 =>
rc19 (x23, o22.1, o22.2))
def bX12_removeLeftRecursion_380 (N : Nat) (x3 : Int32) (v5 : Int32 × (Nat → Int32) × (Nat → Int32) × (Nat → Int32) × (Nat → Int32)) (k10 : (Int32 × (Nat → Int32) × (Nat → Int32) × (Nat → Int32) → Option (Int32 × Int32 × (Nat → Int32) × (Nat → Int32) × (Nat → Int32) × Int32 × (Nat → Int32) × (Nat → Int32) × (Nat → Int32) × (Nat → Int32) × Int32 × (Nat → Int32) × (Nat → Int32) × Int32 × Int32 × (Nat → Int32) × (Nat → Int32) × Int32 × Int32 × (Nat → Int32) × (Nat → Int32) × (Nat → Int32) × (Nat → Int32) × (Nat → Int32) × Int32 × (Nat → Int32) × (Nat → Int32)))) (rc12 : Int32 × Int32 × (Nat → Int32) × (Nat → Int32) × (Nat → Int32) → Option (Int32 × Int32 × (Nat → Int32) × (Nat → Int32) × (Nat → Int32) × Int32 × (Nat → Int32) × (Nat → Int32) × (Nat → Int32) × (Nat → Int32) × Int32 × (Nat → Int32) × (Nat → Int32) × Int32 × Int32 × (Nat → Int32) × (Nat → Int32) × Int32 × Int32 × (Nat → Int32) × (Nat → Int32) × (Nat → Int32) × (Nat → Int32) × (Nat → Int32) × Int32 × (Nat → Int32) × (Nat → Int32))) (v11 : Int32 × Int32 × (Nat → Int32) × (Nat → Int32) × (Nat → Int32)) : Option (Int32 × Int32 × (Nat → Int32) × (Nat → Int32) × (Nat → Int32) × Int32 × (Nat → Int32) × (Nat → Int32) × (Nat → Int32) × (Nat → Int32) × Int32 × (Nat → Int32) × (Nat → Int32) × Int32 × Int32 × (Nat → Int32) × (Nat → Int32) × Int32 × Int32 × (Nat → Int32) × (Nat → Int32) × (Nat → Int32) × (Nat → Int32) × (Nat → Int32) × Int32 × (Nat → Int32) × (Nat → Int32)) :=
if v5.1 ≤ v11.1 then (k10 (v11.2.1, v11.2.2.1, v11.2.2.2.1, v11.2.2.2.2)) else ((fX12_opens v11.2.1 v11.2.2.1 v11.2.2.2.1 x3).bind fun o13 =>
jn_ (fun (v14 : (Nat → Int32) × (Nat → Int32)) => (fX12_puts v14.1 v14.2 o13.1 ((10 : Int32) + x3)).bind fun o15 =>
lt_ (v11.1 + 1) fun x16 =>
rc12 (x16, o13.2.1, o13.2.2.1, o15.1, o15.2)) fun k17 =>
itr (bX12_removeLeftRecursion_398 v5 v11 o13 k17) N (0, o13.2.2.2, v11.2.2.2.2))
def bX12_removeLeftRecursion_350 (N : Nat) (p1 : Int32) (k26 : (Int32 × (Nat → Int32) × (Nat → Int32) × (Nat → Int32) → Option (Int32 × Int32 × (Nat → Int32) × (Nat → Int32) × (Nat → Int32) × Int32 × (Nat → Int32) × (Nat → Int32) × (Nat → Int32) × (Nat → Int32) × Int32 × (Nat → Int32) × (Nat → Int32) × Int32 × Int32 × (Nat → Int32) × (Nat → Int32) × Int32 × Int32 × (Nat → Int32) × (Nat → Int32) × (Nat → Int32) × (Nat → Int32) × (Nat → Int32) × Int32 × (Nat → Int32) × (Nat → Int32)))) (rc28 : Int32 × Int32 × (Nat → Int32) × (Nat → Int32) × (Nat → Int32) → Option (Int32 × Int32 × (Nat → Int32) × (Nat → Int32) × (Nat → Int32) × Int32 × (Nat → Int32) × (Nat → Int32) × (Nat → Int32) × (Nat → Int32) × Int32 × (Nat → Int32) × (Nat → Int32) × Int32 × Int32 × (Nat → Int32) × (Nat → Int32) × Int32 × Int32 × (Nat → Int32) × (Nat → Int32) × (Nat → Int32) × (Nat → Int32) × (Nat → Int32) × Int32 × (Nat → Int32) × (Nat → Int32))) (v27 : Int32 × Int32 × (Nat → Int32) × (Nat → Int32) × (Nat → Int32)) : Option (Int32 × Int32 × (Nat → Int32) × (Nat → Int32) × (Nat → Int32) × Int32 × (Nat → Int32) × (Nat → Int32) × (Nat → Int32) × (Nat → Int32) × Int32 × (Nat → Int32) × (Nat → Int32) × Int32 × Int32 × (Nat → Int32) × (Nat → Int32) × Int32 × Int32 × (Nat → Int32) × (Nat → Int32) × (Nat → Int32) × (Nat → Int32) × (Nat → Int32) × Int32 × (Nat → Int32) × (Nat → Int32)) :=
if v27.1 < 0 then (k26 (v27.2.1, v27.2.2.1, v27.2.2.2.1, v27.2.2.2.2)) else ((fX12_isRecursive v27.2.2.1 v27.2.2.2.1 v27.2.2.2.2 v27.1 p1).bind fun x29 =>
jn_ (fun (v30 : Int32 × (Nat → Int32) × (Nat → Int32) × (Nat → Int32)) => lt_ (v27.1 + (-1)) fun x31 =>
rc28 (x31, v30.1, v30.2.1, v30.2.2.1, v30.2.2.2)) fun k32 =>
if x29 = 0 then (k32 (v27.2.1, v27.2.2.1, v27.2.2.2.1, v27.2.2.2.2)) else ((fX12_drops N v27.2.1 v27.2.2.1 v27.2.2.2.1 v27.2.2.2.2 v27.1).bind fun o33 =>
k32 (o33.1, o33.2.1, o33.2.2.1, o33.2.2.2)))
def bX12_removeLeftRecursion_293 (v36 : Int32 × Int32 × (Nat → Int32) × (Nat → Int32) × (Nat → Int32) × (Nat → Int32)) (k47 : ((Nat → Int32) → Option (Int32 × Int32 × (Nat → Int32) × (Nat → Int32) × (Nat → Int32) × Int32 × (Nat → Int32) × (Nat → Int32) × (Nat → Int32) × (Nat → Int32) × Int32 × (Nat → Int32) × (Nat → Int32) × Int32 × Int32 × (Nat → Int32) × (Nat → Int32) × Int32 × Int32 × (Nat → Int32) × (Nat → Int32) × (Nat → Int32) × (Nat → Int32) × (Nat → Int32) × Int32 × (Nat → Int32) × (Nat → Int32)))) (rc49 : Int32 × (Nat → Int32) → Option (Int32 × Int32 × (Nat → Int32) × (Nat → Int32) × (Nat → Int32) × Int32 × (Nat → Int32) × (Nat → Int32) × (Nat → Int32) × (Nat → Int32) × Int32 × (Nat → Int32) × (Nat → Int32) × Int32 × Int32 × (Nat → Int32) × (Nat → Int32) × Int32 × Int32 × (Nat → Int32) × (Nat → Int32) × (Nat → Int32) × (Nat → Int32) × (Nat → Int32) × Int32 × (Nat → Int32) × (Nat → Int32))) (v48 : Int32 × (Nat → Int32)) : Option (Int32 × Int32 × (Nat → Int32) × (Nat → Int32) × (Nat → Int32) × Int32 × (Nat → Int32) × (Nat → Int32) × (Nat → Int32) × (Nat → Int32) × Int32 × (Nat → Int32) × (Nat → Int32) × Int32 × Int32 × (Nat → Int32) × (Nat → Int32) × Int32 × Int32 × (Nat → Int32) × (Nat → Int32) × (Nat → Int32) × (Nat → Int32) × (Nat → Int32) × Int32 × (Nat → Int32) × (Nat → Int32)) :=
(ag v36.2.2.1 24 v36.2.1).bind fun x50 =>
if x50 ≤ v48.1 then (k47 v48.2) else ((fX12_symbol v36.2.2.2.1 v36.2.1 v48.1).bind fun x51 =>
(as_ v48.2 120 ((((5 : Int32) * v36.1) + v48.1) - (1 : Int32)) x51).bind fun f52 =>
lt_ (v48.1 + 1) fun x53 =>
rc49 (x53, f52))
def bX12_removeLeftRecursion_227 (N : Nat) (p1 : Int32) (c_rules : Int32) (c_lefts : (Nat → Int32)) (x3 : Int32) (k35 : (Int32 × (Nat → Int32) × (Nat → Int32) × (Nat → Int32) × (Nat → Int32) → Option (Int32 × Int32 × (Nat → Int32) × (Nat → Int32) × (Nat → Int32) × Int32 × (Nat → Int32) × (Nat → Int32) × (Nat → Int32) × (Nat → Int32) × Int32 × (Nat → Int32) × (Nat → Int32) × Int32 × Int32 × (Nat → Int32) × (Nat → Int32) × Int32 × Int32 × (Nat → Int32) × (Nat → Int32) × (Nat → Int32) × (Nat → Int32) × (Nat → Int32) × Int32 × (Nat → Int32) × (Nat → Int32)))) (rc37 : Int32 × Int32 × (Nat → Int32) × (Nat → Int32) × (Nat → Int32) × (Nat → Int32) → Option (Int32 × Int32 × (Nat → Int32) × (Nat → Int32) × (Nat → Int32) × Int32 × (Nat → Int32) × (Nat → Int32) × (Nat → Int32) × (Nat → Int32) × Int32 × (Nat → Int32) × (Nat → Int32) × Int32 × Int32 × (Nat → Int32) × (Nat → Int32) × Int32 × Int32 × (Nat → Int32) × (Nat → Int32) × (Nat → Int32) × (Nat → Int32) × (Nat → Int32) × Int32 × (Nat → Int32) × (Nat → Int32))) (v36 : Int32 × Int32 × (Nat → Int32) × (Nat → Int32) × (Nat → Int32) × (Nat → Int32)) : Option (Int32 × Int32 × (Nat → Int32) × (Nat → Int32) × (Nat → Int32) × Int32 × (Nat → Int32) × (Nat → Int32) × (Nat → Int32) × (Nat → Int32) × Int32 × (Nat → Int32) × (Nat → Int32) × Int32 × Int32 × (Nat → Int32) × (Nat → Int32) × Int32 × Int32 × (Nat → Int32) × (Nat → Int32) × (Nat → Int32) × (Nat → Int32) × (Nat → Int32) × Int32 × (Nat → Int32) × (Nat → Int32)) :=
if c_rules ≤ v36.2.1 then (k35 (v36.1, v36.2.2.1, v36.2.2.2.1, v36.2.2.2.2.1, v36.2.2.2.2.2)) else ((ag c_lefts 24 v36.2.1).bind fun x38 =>
jn_ (fun (v39 : Int32 × (Nat → Int32) × (Nat → Int32) × (Nat → Int32) × (Nat → Int32)) => lt_ (v36.2.1 + 1) fun x40 =>
rc37 (v39.1, x40, v39.2.1, v39.2.2.1, v39.2.2.2.1, v39.2.2.2.2)) fun k41 =>
if x38 = p1 then ((fX12_isRecursive c_lefts v36.2.2.1 v36.2.2.2.1 v36.2.1 p1).bind fun x42 =>
if x42 = 0 then ((fX12_puts v36.2.2.1 v36.2.2.2.1 v36.2.1 ((10 : Int32) + x3)).bind fun o55 =>
k41 (v36.1, o55.1, o55.2, v36.2.2.2.2.1, v36.2.2.2.2.2)) else ((ag v36.2.2.1 24 v36.2.1).bind fun x43 =>
(as_ v36.2.2.2.2.2 24 v36.1 (x43 - (1 : Int32))).bind fun f44 =>
jn_ (fun (v45 : (Nat → Int32)) => lt_ (v36.1 + 1) fun x46 =>
k41 (x46, v36.2.2.1, v36.2.2.2.1, v45, f44)) fun k47 =>
itr (bX12_removeLeftRecursion_293 v36 k47) N (1, v36.2.2.2.2.1))) else (k41 (v36.1, v36.2.2.1, v36.2.2.2.1, v36.2.2.2.2.1, v36.2.2.2.2.2)))
def bX12_removeLeftRecursion_22 (p1 : Int32) (c_rules : Int32) (c_lefts : (Nat → Int32)) (c_sizes : (Nat → Int32)) (c_rights : (Nat → Int32)) (k62 : (Int32 × Int32 × Int32 × Int32 → Option (Int32 × Int32 × (Nat → Int32) × (Nat → Int32) × (Nat → Int32) × Int32 × (Nat → Int32) × (Nat → Int32) × (Nat → Int32) × (Nat → Int32) × Int32 × (Nat → Int32) × (Nat → Int32) × Int32 × Int32 × (Nat → Int32) × (Nat → Int32) × Int32 × Int32 × (Nat → Int32) × (Nat → Int32) × (Nat → Int32) × (Nat → Int32) × (Nat → Int32) × Int32 × (Nat → Int32) × (Nat → Int32)))) (rc64 : Int32 × Int32 × Int32 × Int32 × Int32 → Option (Int32 × Int32 × (Nat → Int32) × (Nat → Int32) × (Nat → Int32) × Int32 × (Nat → Int32) × (Nat → Int32) × (Nat → Int32) × (Nat → Int32) × Int32 × (Nat → Int32) × (Nat → Int32) × Int32 × Int32 × (Nat → Int32) × (Nat → Int32) × Int32 × Int32 × (Nat → Int32) × (Nat → Int32) × (Nat → Int32) × (Nat → Int32) × (Nat → Int32) × Int32 × (Nat → Int32) × (Nat → Int32))) (v63 : Int32 × Int32 × Int32 × Int32 × Int32) : Option (Int32 × Int32 × (Nat → Int32) × (Nat → Int32) × (Nat → Int32) × Int32 × (Nat → Int32) × (Nat → Int32) × (Nat → Int32) × (Nat → Int32) × Int32 × (Nat → Int32) × (Nat → Int32) × Int32 × Int32 × (Nat → Int32) × (Nat → Int32) × Int32 × Int32 × (Nat → Int32) × (Nat → Int32) × (Nat → Int32) × (Nat → Int32) × (Nat → Int32) × Int32 × (Nat → Int32) × (Nat → Int32)) :=
if c_rules ≤ v63.2.2.2.2 then (k62 (v63.1, v63.2.1, v63.2.2.1, v63.2.2.2.1)) else ((ag c_lefts 24 v63.2.2.2.2).bind fun x65 =>
jn_ (fun (v66 : Int32 × Int32 × Int32 × Int32) => lt_ (v63.2.2.2.2 + 1) fun x67 =>
rc64 (v66.1, v66.2.1, v66.2.2.1, v66.2.2.2, x67)) fun k68 =>
if x65 = p1 then (lt_ (v63.2.1 + 1) fun x69 =>
(fX12_isRecursive c_lefts c_sizes c_rights v63.2.2.2.2 p1).bind fun x70 =>
if x70 = 0 then ((ag c_sizes 24 v63.2.2.2.2).bind fun x71 =>
if x71 = 5 then (if 0 ≤ v63.2.2.2.1 then (k68 (v63.1, x69, v63.2.2.1, v63.2.2.2.1)) else (k68 (v63.1, x69, v63.2.2.1, v63.2.2.2.2))) else (k68 (v63.1, x69, v63.2.2.1, v63.2.2.2.1))) else (lt_ (v63.1 + 1) fun x72 =>
(ag c_sizes 24 v63.2.2.2.2).bind fun x73 =>
jn_ (fun (v74 : Int32) => k68 (x72, x69, v74, v63.2.2.2.1)) fun k75 =>
if x73 = 1 then (k75 v63.2.2.2.2) else (k75 v63.2.2.1))) else (k68 (v63.1, v63.2.1, v63.2.2.1, v63.2.2.2.1)))
def fX12_removeLeftRecursion (N : Nat) (c_rules : Int32) (c_lefts : (Nat → Int32)) (c_sizes : (Nat → Int32)) (c_rights : (Nat → Int32)) (c_edits : Int32) (c_pastRules : (Nat → Int32)) (c_pastLefts : (Nat → Int32)) (c_pastSizes : (Nat → Int32)) (c_pastRights : (Nat → Int32)) (c_levels : Int32) (c_codes : (Nat → Int32)) (c_details : (Nat → Int32)) (c_isWorked : Int32) (c_empties : Int32) (c_firsts : (Nat → Int32)) (c_follows : (Nat → Int32)) (c_isKept : Int32) (c_keptEmpties : Int32) (c_keptFirsts : (Nat → Int32)) (c_keptFollows : (Nat → Int32)) (c_strings : (Nat → Int32)) (c_longs : (Nat → Int32)) (c_trial : (Nat → Int32)) (c_trialLong : Int32) (c_moved : (Nat → Int32)) (c_movedSizes : (Nat → Int32)) (p1 : Int32) : Option (Int32 × Int32 × (Nat → Int32) × (Nat → Int32) × (Nat → Int32) × Int32 × (Nat → Int32) × (Nat → Int32) × (Nat → Int32) × (Nat → Int32) × Int32 × (Nat → Int32) × (Nat → Int32) × Int32 × Int32 × (Nat → Int32) × (Nat → Int32) × Int32 × Int32 × (Nat → Int32) × (Nat → Int32) × (Nat → Int32) × (Nat → Int32) × (Nat → Int32) × Int32 × (Nat → Int32) × (Nat → Int32)) :=
(fX12_isName p1).bind fun x1 =>
if x1 = 0 then (some ((-1), c_rules, c_lefts, c_sizes, c_rights, c_edits, c_pastRules, c_pastLefts, c_pastSizes, c_pastRights, c_levels, c_codes, c_details, c_isWorked, c_empties, c_firsts, c_follows, c_isKept, c_keptEmpties, c_keptFirsts, c_keptFollows, c_strings, c_longs, c_trial, c_trialLong, c_moved, c_movedSizes)) else (jn_ (fun (v2 : Int32 × Int32 × Int32 × Int32) => if v2.1 = 0 then (some ((-2), c_rules, c_lefts, c_sizes, c_rights, c_edits, c_pastRules, c_pastLefts, c_pastSizes, c_pastRights, c_levels, c_codes, c_details, c_isWorked, c_empties, c_firsts, c_follows, c_isKept, c_keptEmpties, c_keptFirsts, c_keptFollows, c_strings, c_longs, c_trial, c_trialLong, c_moved, c_movedSizes)) else (if v2.2.2.1 < 0 then (if v2.1 = v2.2.1 then ((fX12_refuses c_levels c_codes c_details p1 19 v2.2.1 (-5)).bind fun o60 =>
some (o60.1, c_rules, c_lefts, c_sizes, c_rights, c_edits, c_pastRules, c_pastLefts, c_pastSizes, c_pastRights, o60.2.1, o60.2.2.1, o60.2.2.2, c_isWorked, c_empties, c_firsts, c_follows, c_isKept, c_keptEmpties, c_keptFirsts, c_keptFollows, c_strings, c_longs, c_trial, c_trialLong, c_moved, c_movedSizes)) else (if v2.2.2.2 < 0 then ((fX12_unused N c_rules c_lefts c_sizes c_rights p1).bind fun x3 =>
if 0 ≤ x3 then (if (c_rules + (1 : Int32)) ≤ 24 then ((fX12_edits N c_rules c_lefts c_sizes c_rights c_edits c_pastRules c_pastLefts c_pastSizes c_pastRights c_isWorked c_empties c_firsts c_follows c_isKept c_keptEmpties c_keptFirsts c_keptFollows c_strings c_longs c_trial c_trialLong).bind fun o4 =>
jn_ (fun (v5 : Int32 × (Nat → Int32) × (Nat → Int32) × (Nat → Int32) × (Nat → Int32)) => lt_ (c_rules - (1 : Int32)) fun x6 =>
jn_ (fun (v7 : Int32 × (Nat → Int32) × (Nat → Int32) × (Nat → Int32)) => jn_ (fun (v8 : Int32 × (Nat → Int32) × (Nat → Int32) × (Nat → Int32)) => (fX12_opens v8.1 v8.2.1 v8.2.2.1 x3).bind fun o9 =>
some (x3, o9.2.1, o9.2.2.1, o9.2.2.2, v8.2.2.2, o4.1, o4.2.1, o4.2.2.1, o4.2.2.2.1, o4.2.2.2.2.1, c_levels, c_codes, c_details, o4.2.2.2.2.2.1, o4.2.2.2.2.2.2.1, o4.2.2.2.2.2.2.2.1, o4.2.2.2.2.2.2.2.2.1, o4.2.2.2.2.2.2.2.2.2.1, o4.2.2.2.2.2.2.2.2.2.2.1, o4.2.2.2.2.2.2.2.2.2.2.2.1, o4.2.2.2.2.2.2.2.2.2.2.2.2.1, o4.2.2.2.2.2.2.2.2.2.2.2.2.2.1, o4.2.2.2.2.2.2.2.2.2.2.2.2.2.2.1, o4.2.2.2.2.2.2.2.2.2.2.2.2.2.2.2.1, o4.2.2.2.2.2.2.2.2.2.2.2.2.2.2.2.2, v5.2.2.2.1, v5.2.2.2.2)) fun k10 =>
itr (bX12_removeLeftRecursion_380 N x3 v5 k10) N (0, v7.1, v7.2.1, v7.2.2.1, v7.2.2.2)) fun k26 =>
itr (bX12_removeLeftRecursion_350 N p1 k26) N (x6, c_rules, c_lefts, v5.2.1, v5.2.2.1)) fun k35 =>
itr (bX12_removeLeftRecursion_227 N p1 c_rules c_lefts x3 k35) N (0, 0, c_sizes, c_rights, c_moved, c_movedSizes)) else ((fX12_refuses c_levels c_codes c_details p1 17 (c_rules + (1 : Int32)) (-3)).bind fun o57 =>
some (o57.1, c_rules, c_lefts, c_sizes, c_rights, c_edits, c_pastRules, c_pastLefts, c_pastSizes, c_pastRights, o57.2.1, o57.2.2.1, o57.2.2.2, c_isWorked, c_empties, c_firsts, c_follows, c_isKept, c_keptEmpties, c_keptFirsts, c_keptFollows, c_strings, c_longs, c_trial, c_trialLong, c_moved, c_movedSizes))) else ((fX12_refuses c_levels c_codes c_details p1 16 0 (-3)).bind fun o58 =>
some (o58.1, c_rules, c_lefts, c_sizes, c_rights, c_edits, c_pastRules, c_pastLefts, c_pastSizes, c_pastRights, o58.2.1, o58.2.2.1, o58.2.2.2, c_isWorked, c_empties, c_firsts, c_follows, c_isKept, c_keptEmpties, c_keptFirsts, c_keptFollows, c_strings, c_longs, c_trial, c_trialLong, c_moved, c_movedSizes))) else ((fX12_refuses c_levels c_codes c_details p1 20 v2.2.2.2 (-5)).bind fun o59 =>
some (o59.1, c_rules, c_lefts, c_sizes, c_rights, c_edits, c_pastRules, c_pastLefts, c_pastSizes, c_pastRights, o59.2.1, o59.2.2.1, o59.2.2.2, c_isWorked, c_empties, c_firsts, c_follows, c_isKept, c_keptEmpties, c_keptFirsts, c_keptFollows, c_strings, c_longs, c_trial, c_trialLong, c_moved, c_movedSizes)))) else ((fX12_refuses c_levels c_codes c_details p1 18 v2.2.2.1 (-5)).bind fun o61 =>
some (o61.1, c_rules, c_lefts, c_sizes, c_rights, c_edits, c_pastRules, c_pastLefts, c_pastSizes, c_pastRights, o61.2.1, o61.2.2.1, o61.2.2.2, c_isWorked, c_empties, c_firsts, c_follows, c_isKept, c_keptEmpties, c_keptFirsts, c_keptFollows, c_strings, c_longs, c_trial, c_trialLong, c_moved, c_movedSizes)))) fun k62 =>
itr (bX12_removeLeftRecursion_22 p1 c_rules c_lefts c_sizes c_rights k62) N (0, 0, (-1), (-1), 0))
def fX12_setSynchronizing (c_synchronizing : (Nat → Int32)) (p1 : Int32) (p2 : Int32) : Option (Int32 × (Nat → Int32)) :=
(fX12_isName p1).bind fun x1 =>
jn_ (fun (v2 : Unit) => some ((-1), c_synchronizing)) fun k3 =>
if x1 = 0 then (k3 ()) else ((fX12_in p2 0 511).bind fun x4 =>
if x4 = 0 then (k3 ()) else ((ag c_synchronizing 8 p1).bind fun x5 =>
(as_ c_synchronizing 8 p1 p2).bind fun f6 =>
some (x5, f6)))
def bX12_appendInput_61 (c_inputLong : Int32) (k5 : ((Nat → Int32) → Option (Int32 × (Nat → Int32) × Int32))) (rc7 : Int32 × Int32 × (Nat → Int32) → Option (Int32 × (Nat → Int32) × Int32)) (v6 : Int32 × Int32 × (Nat → Int32)) : Option (Int32 × (Nat → Int32) × Int32) :=
if v6.2.1 < 0 then (k5 v6.2.2) else ((as_ v6.2.2 40 (c_inputLong + v6.2.1) ((v6.1 - v6.1 / (10 : Int32) * (10 : Int32)) - (1 : Int32))).bind fun f8 =>
lt_ (v6.1 / (10 : Int32)) fun x9 =>
lt_ (v6.2.1 + (-1)) fun x10 =>
rc7 (x9, x10, f8))
def bX12_appendInput_10 (c_input : (Nat → Int32)) (c_inputLong : Int32) (k12 : (Int32 → Option (Int32 × (Nat → Int32) × Int32))) (rc14 : Int32 × Int32 → Option (Int32 × (Nat → Int32) × Int32)) (v13 : Int32 × Int32) : Option (Int32 × (Nat → Int32) × Int32) :=
if v13.2 ≤ 0 then (k12 v13.1) else ((fX12_in (v13.2 - v13.2 / (10 : Int32) * (10 : Int32)) 1 8).bind fun x15 =>
if x15 = 0 then (some ((-1), c_input, c_inputLong)) else (lt_ (v13.1 + 1) fun x16 =>
lt_ (v13.2 / (10 : Int32)) fun x17 =>
rc14 (x16, x17)))
def fX12_appendInput (N : Nat) (c_input : (Nat → Int32)) (c_inputLong : Int32) (p1 : Int32) : Option (Int32 × (Nat → Int32) × Int32) :=
if 0 < p1 then (jn_ (fun (v1 : Int32) => if (c_inputLong + v1) ≤ 40 then (lt_ (v1 - (1 : Int32)) fun x2 =>
jn_ (fun (v3 : (Nat → Int32)) => lt_ (c_inputLong + v1) fun x4 =>
some (x4, v3, x4)) fun k5 =>
itr (bX12_appendInput_61 c_inputLong k5) N (p1, x2, c_input)) else (some ((-3), c_input, c_inputLong))) fun k12 =>
itr (bX12_appendInput_10 c_input c_inputLong k12) N (0, p1)) else (some ((-1), c_input, c_inputLong))
def fX12_clearInput (c_inputLong : Int32) : Option (Int32 × Int32) :=
some (c_inputLong, 0)
def fX12_inputTerminal (c_input : (Nat → Int32)) (c_inputLong : Int32) (p1 : Int32) : Option (Int32) :=
(fX12_in p1 0 (c_inputLong - (1 : Int32))).bind fun x1 =>
jn_ (fun (v2 : Int32) => some v2) fun k3 =>
if x1 = 0 then (k3 (-2)) else ((ag c_input 40 p1).bind fun x4 =>
k3 x4)
def fX12_starts (N : Nat) (c_rules : Int32) (c_lefts : (Nat → Int32)) (c_sizes : (Nat → Int32)) (c_rights : (Nat → Int32)) (c_isWorked : Int32) (c_empties : Int32) (c_firsts : (Nat → Int32)) (c_follows : (Nat → Int32)) (c_strings : (Nat → Int32)) (c_longs : (Nat → Int32)) (c_trial : (Nat → Int32)) (c_trialLong : Int32) (c_stack : (Nat → Int32)) (c_stackParents : (Nat → Int32)) (c_top : Int32) (c_at : Int32) (c_steps : Int32) (c_traced : Int32) (c_nodes : Int32) (c_made : Int32) : Option (Int32 × Int32 × (Nat → Int32) × (Nat → Int32) × (Nat → Int32) × (Nat → Int32) × (Nat → Int32) × Int32 × (Nat → Int32) × (Nat → Int32) × Int32 × Int32 × Int32 × Int32 × Int32 × Int32) :=
(fX12_works N c_rules c_lefts c_sizes c_rights c_isWorked c_empties c_firsts c_follows c_strings c_longs c_trial c_trialLong).bind fun o1 =>
(as_ c_stack 66 0 10).bind fun f2 =>
(as_ c_stackParents 66 0 (-1)).bind fun f3 =>
some (o1.1, o1.2.1, o1.2.2.1, o1.2.2.2.1, o1.2.2.2.2.1, o1.2.2.2.2.2.1, o1.2.2.2.2.2.2.1, o1.2.2.2.2.2.2.2, f2, f3, 1, 0, 0, 0, 0, 0)
def fX12_token (c_input : (Nat → Int32)) (c_inputLong : Int32) (c_at : Int32) : Option (Int32) :=
jn_ (fun (v1 : Int32) => some v1) fun k2 =>
if c_inputLong ≤ c_at then (k2 8) else ((ag c_input 40 c_at).bind fun x3 =>
k2 x3)
def bX12_goes_171 (c_rights : (Nat → Int32)) (c_at : Int32) (v3 : Int32) (x7 : Int32) (k11 : ((Nat → Int32) × (Nat → Int32) × Int32 × Int32 × Int32 × (Nat → Int32) → Option (Int32 × (Nat → Int32) × (Nat → Int32) × Int32 × Int32 × Int32 × Int32 × (Nat → Int32) × Int32 × (Nat → Int32) × (Nat → Int32)))) (f12 : (Nat → Int32)) (x13 : Int32) (rc17 : Int32 × (Nat → Int32) × (Nat → Int32) × Int32 → Option (Int32 × (Nat → Int32) × (Nat → Int32) × Int32 × Int32 × Int32 × Int32 × (Nat → Int32) × Int32 × (Nat → Int32) × (Nat → Int32))) (v16 : Int32 × (Nat → Int32) × (Nat → Int32) × Int32) : Option (Int32 × (Nat → Int32) × (Nat → Int32) × Int32 × Int32 × Int32 × Int32 × (Nat → Int32) × Int32 × (Nat → Int32) × (Nat → Int32)) :=
if v16.1 < 0 then (k11 (v16.2.1, v16.2.2.1, v16.2.2.2, c_at, x13, f12)) else ((fX12_symbol c_rights v3 v16.1).bind fun x18 =>
(as_ v16.2.1 66 v16.2.2.2 x18).bind fun f19 =>
(as_ v16.2.2.1 66 v16.2.2.2 (x7 - (1 : Int32))).bind fun f20 =>
lt_ (v16.2.2.2 + (1 : Int32)) fun x21 =>
lt_ (v16.1 + (-1)) fun x22 =>
rc17 (x22, f19, f20, x21))
def fX12_goes (N : Nat) (c_rules : Int32) (c_lefts : (Nat → Int32)) (c_sizes : (Nat → Int32)) (c_rights : (Nat → Int32)) (c_empties : Int32) (c_firsts : (Nat → Int32)) (c_follows : (Nat → Int32)) (c_input : (Nat → Int32)) (c_inputLong : Int32) (c_stack : (Nat → Int32)) (c_stackParents : (Nat → Int32)) (c_top : Int32) (c_at : Int32) (c_steps : Int32) (c_traced : Int32) (c_traces : (Nat → Int32)) (c_made : Int32) (c_nodeSymbols : (Nat → Int32)) (c_nodeParents : (Nat → Int32)) : Option (Int32 × (Nat → Int32) × (Nat → Int32) × Int32 × Int32 × Int32 × Int32 × (Nat → Int32) × Int32 × (Nat → Int32) × (Nat → Int32)) :=
if c_top = 0 then (some (0, c_stack, c_stackParents, c_top, c_at, c_steps, c_traced, c_traces, c_made, c_nodeSymbols, c_nodeParents)) else ((ag c_stack 66 (c_top - (1 : Int32))).bind fun x1 =>
(ag c_stackParents 66 (c_top - (1 : Int32))).bind fun x2 =>
jn_ (fun (v3 : Int32) => jn_ (fun (v4 : Unit) => (as_ c_nodeSymbols 300 c_made x1).bind fun f5 =>
(as_ c_nodeParents 300 c_made x2).bind fun f6 =>
lt_ (c_made + (1 : Int32)) fun x7 =>
lt_ (c_top - (1 : Int32)) fun x8 =>
jn_ (fun (v9 : (Nat → Int32) × (Nat → Int32) × Int32 × Int32 × Int32 × (Nat → Int32)) => lt_ (c_steps + (1 : Int32)) fun x10 =>
some (1, v9.1, v9.2.1, v9.2.2.1, v9.2.2.2.1, x10, v9.2.2.2.2.1, v9.2.2.2.2.2, x7, f5, f6)) fun k11 =>
if 10 ≤ x1 then ((as_ c_traces 300 c_traced v3).bind fun f12 =>
lt_ (c_traced + (1 : Int32)) fun x13 =>
(ag c_sizes 24 v3).bind fun x14 =>
lt_ (x14 - (1 : Int32)) fun x15 =>
itr (bX12_goes_171 c_rights c_at v3 x7 k11 f12 x13) N (x15, c_stack, c_stackParents, x8)) else (lt_ (c_at + (1 : Int32)) fun x24 =>
k11 (c_stack, c_stackParents, x8, x24, c_traced, c_traces))) fun k25 =>
jn_ (fun (v26 : Unit) => some (0, c_stack, c_stackParents, c_top, c_at, c_steps, c_traced, c_traces, c_made, c_nodeSymbols, c_nodeParents)) fun k27 =>
if 10 ≤ x1 then (if v3 = (-2) then (k27 ()) else (k25 ())) else ((fX12_token c_input c_inputLong c_at).bind fun x28 =>
if x1 = x28 then (k25 ()) else (k27 ()))) fun k29 =>
if x1 < 10 then (k29 (-2)) else ((fX12_token c_input c_inputLong c_at).bind fun x30 =>
(fX12_entry N c_rules c_lefts c_sizes c_rights c_empties c_firsts c_follows (x1 - (10 : Int32)) x30).bind fun x31 =>
k29 x31))
def fX12_isDone (c_input : (Nat → Int32)) (c_inputLong : Int32) (c_top : Int32) (c_at : Int32) : Option (Int32) :=
jn_ (fun (v1 : Int32) => gz v1 (some v1)) fun k2 =>
jn_ (fun (v3 : Unit) => k2 0) fun k4 =>
if c_top = 0 then ((fX12_token c_input c_inputLong c_at).bind fun x5 =>
if x5 = 8 then (k2 1) else (k4 ())) else (k4 ())
def bX12_entries_4 (N : Nat) (p1 : Int32) (c_rules : Int32) (c_lefts : (Nat → Int32)) (c_sizes : (Nat → Int32)) (c_rights : (Nat → Int32)) (c_empties : Int32) (c_firsts : (Nat → Int32)) (c_follows : (Nat → Int32)) (k2 : (Int32 → Option (Int32))) (rc4 : Int32 × Int32 → Option (Int32)) (v3 : Int32 × Int32) : Option (Int32) :=
if 8 < v3.2 then (k2 v3.1) else ((fX12_entry N c_rules c_lefts c_sizes c_rights c_empties c_firsts c_follows p1 v3.2).bind fun x5 =>
jn_ (fun (v6 : Int32) => lt_ (v3.1 + v6) fun x7 =>
lt_ (v3.2 + 1) fun x8 =>
rc4 (x7, x8)) fun k9 =>
if x5 = (-2) then (k9 0) else (k9 1))
def fX12_entries (N : Nat) (c_rules : Int32) (c_lefts : (Nat → Int32)) (c_sizes : (Nat → Int32)) (c_rights : (Nat → Int32)) (c_empties : Int32) (c_firsts : (Nat → Int32)) (c_follows : (Nat → Int32)) (p1 : Int32) : Option (Int32) :=
jn_ (fun (v1 : Int32) => some v1) fun k2 =>
itr (bX12_entries_4 N p1 c_rules c_lefts c_sizes c_rights c_empties c_firsts c_follows k2) N (0, 0)
def bX12_hasRules_2 (p1 : Int32) (c_rules : Int32) (c_lefts : (Nat → Int32)) (k2 : (Unit → Option (Int32))) (rc4 : Int32 → Option (Int32)) (v3 : Int32) : Option (Int32) :=
if c_rules ≤ v3 then (k2 ()) else ((ag c_lefts 24 v3).bind fun x5 =>
if x5 = p1 then (some 1) else (lt_ (v3 + 1) fun x6 =>
rc4 x6))
def fX12_hasRules (N : Nat) (c_rules : Int32) (c_lefts : (Nat → Int32)) (p1 : Int32) : Option (Int32) :=
jn_ (fun (v1 : Unit) => some 0) fun k2 =>
itr (bX12_hasRules_2 p1 c_rules c_lefts k2) N 0
def fX12_stops (c_levels : Int32) (c_codes : (Nat → Int32)) (c_details : (Nat → Int32)) (c_at : Int32) (c_steps : Int32) : Option (Int32 × Int32 × (Nat → Int32) × (Nat → Int32)) :=
(fX12_tells c_levels c_codes c_details 0 1 c_at).bind fun o1 =>
(fX12_tells o1.1 o1.2.1 o1.2.2 1 7 c_steps).bind fun o2 =>
some ((-6), o2.1, o2.2.1, o2.2.2)
def fX12_canGo (N : Nat) (c_rules : Int32) (c_lefts : (Nat → Int32)) (c_sizes : (Nat → Int32)) (c_rights : (Nat → Int32)) (c_empties : Int32) (c_firsts : (Nat → Int32)) (c_follows : (Nat → Int32)) (c_input : (Nat → Int32)) (c_inputLong : Int32) (c_stack : (Nat → Int32)) (c_top : Int32) (c_at : Int32) : Option (Int32) :=
if c_top = 0 then (some 0) else ((ag c_stack 66 (c_top - (1 : Int32))).bind fun x1 =>
jn_ (fun (v2 : Int32) => gz v2 (some v2)) fun k3 =>
if 10 ≤ x1 then ((fX12_token c_input c_inputLong c_at).bind fun x4 =>
(fX12_entry N c_rules c_lefts c_sizes c_rights c_empties c_firsts c_follows (x1 - (10 : Int32)) x4).bind fun x5 =>
if x5 = (-2) then (k3 0) else (k3 1)) else ((fX12_token c_input c_inputLong c_at).bind fun x6 =>
if x1 = x6 then (k3 1) else (k3 0)))
def bX12_parse_4 (N : Nat) (c_rules : Int32) (c_lefts : (Nat → Int32)) (c_sizes : (Nat → Int32)) (c_rights : (Nat → Int32)) (c_levels : Int32) (c_codes : (Nat → Int32)) (c_details : (Nat → Int32)) (c_input : (Nat → Int32)) (c_inputLong : Int32) (o1 : Int32 × Int32 × (Nat → Int32) × (Nat → Int32) × (Nat → Int32) × (Nat → Int32) × (Nat → Int32) × Int32 × (Nat → Int32) × (Nat → Int32) × Int32 × Int32 × Int32 × Int32 × Int32 × Int32) (k3 : ((Nat → Int32) × (Nat → Int32) × Int32 × Int32 × Int32 × Int32 × (Nat → Int32) × Int32 × (Nat → Int32) × (Nat → Int32) → Option (Int32 × Int32 × (Nat → Int32) × (Nat → Int32) × Int32 × Int32 × (Nat → Int32) × (Nat → Int32) × (Nat → Int32) × (Nat → Int32) × (Nat → Int32) × Int32 × (Nat → Int32) × (Nat → Int32) × Int32 × Int32 × Int32 × Int32 × (Nat → Int32) × Int32 × Int32 × (Nat → Int32) × (Nat → Int32)))) (k19 : ((Nat → Int32) × (Nat → Int32) × Int32 × Int32 × Int32 × Int32 × (Nat → Int32) × Int32 × (Nat → Int32) × (Nat → Int32) → Option (Int32 × Int32 × (Nat → Int32) × (Nat → Int32) × Int32 × Int32 × (Nat → Int32) × (Nat → Int32) × (Nat → Int32) × (Nat → Int32) × (Nat → Int32) × Int32 × (Nat → Int32) × (Nat → Int32) × Int32 × Int32 × Int32 × Int32 × (Nat → Int32) × Int32 × Int32 × (Nat → Int32) × (Nat → Int32)))) (rc21 : (Nat → Int32) × (Nat → Int32) × Int32 × Int32 × Int32 × Int32 × (Nat → Int32) × Int32 × (Nat → Int32) × (Nat → Int32) → Option (Int32 × Int32 × (Nat → Int32) × (Nat → Int32) × Int32 × Int32 × (Nat → Int32) × (Nat → Int32) × (Nat → Int32) × (Nat → Int32) × (Nat → Int32) × Int32 × (Nat → Int32) × (Nat → Int32) × Int32 × Int32 × Int32 × Int32 × (Nat → Int32) × Int32 × Int32 × (Nat → Int32) × (Nat → Int32))) (v20 : (Nat → Int32) × (Nat → Int32) × Int32 × Int32 × Int32 × Int32 × (Nat → Int32) × Int32 × (Nat → Int32) × (Nat → Int32)) : Option (Int32 × Int32 × (Nat → Int32) × (Nat → Int32) × Int32 × Int32 × (Nat → Int32) × (Nat → Int32) × (Nat → Int32) × (Nat → Int32) × (Nat → Int32) × Int32 × (Nat → Int32) × (Nat → Int32) × Int32 × Int32 × Int32 × Int32 × (Nat → Int32) × Int32 × Int32 × (Nat → Int32) × (Nat → Int32)) :=
(fX12_isDone c_input c_inputLong v20.2.2.1 v20.2.2.2.1).bind fun x22 =>
if x22 = 0 then ((fX12_canGo N c_rules c_lefts c_sizes c_rights o1.2.1 o1.2.2.1 o1.2.2.2.1 c_input c_inputLong v20.1 v20.2.2.1 v20.2.2.2.1).bind fun x23 =>
jn_ (fun (v24 : Unit) => (fX12_goes N c_rules c_lefts c_sizes c_rights o1.2.1 o1.2.2.1 o1.2.2.2.1 c_input c_inputLong v20.1 v20.2.1 v20.2.2.1 v20.2.2.2.1 v20.2.2.2.2.1 v20.2.2.2.2.2.1 v20.2.2.2.2.2.2.1 v20.2.2.2.2.2.2.2.1 v20.2.2.2.2.2.2.2.2.1 v20.2.2.2.2.2.2.2.2.2).bind fun o25 =>
if o25.1 = 0 then (k19 (o25.2.1, o25.2.2.1, o25.2.2.2.1, o25.2.2.2.2.1, o25.2.2.2.2.2.1, o25.2.2.2.2.2.2.1, o25.2.2.2.2.2.2.2.1, o25.2.2.2.2.2.2.2.2.1, o25.2.2.2.2.2.2.2.2.2.1, o25.2.2.2.2.2.2.2.2.2.2)) else (if o25.2.2.2.1 ≤ 60 then (rc21 (o25.2.1, o25.2.2.1, o25.2.2.2.1, o25.2.2.2.2.1, o25.2.2.2.2.2.1, o25.2.2.2.2.2.2.1, o25.2.2.2.2.2.2.2.1, o25.2.2.2.2.2.2.2.2.1, o25.2.2.2.2.2.2.2.2.2.1, o25.2.2.2.2.2.2.2.2.2.2)) else ((fX12_stops c_levels c_codes c_details o25.2.2.2.2.1 o25.2.2.2.2.2.1).bind fun o26 =>
some (o26.1, o26.2.1, o26.2.2.1, o26.2.2.2, o1.1, o1.2.1, o1.2.2.1, o1.2.2.2.1, o1.2.2.2.2.1, o1.2.2.2.2.2.1, o1.2.2.2.2.2.2.1, o1.2.2.2.2.2.2.2.1, o25.2.1, o25.2.2.1, o25.2.2.2.1, o25.2.2.2.2.1, o25.2.2.2.2.2.1, o25.2.2.2.2.2.2.1, o25.2.2.2.2.2.2.2.1, o1.2.2.2.2.2.2.2.2.2.2.2.2.2.2.1, o25.2.2.2.2.2.2.2.2.1, o25.2.2.2.2.2.2.2.2.2.1, o25.2.2.2.2.2.2.2.2.2.2)))) fun k27 =>
if x23 = 0 then (k27 ()) else (if v20.2.2.2.2.1 = 300 then ((fX12_stops c_levels c_codes c_details v20.2.2.2.1 v20.2.2.2.2.1).bind fun o28 =>
some (o28.1, o28.2.1, o28.2.2.1, o28.2.2.2, o1.1, o1.2.1, o1.2.2.1, o1.2.2.2.1, o1.2.2.2.2.1, o1.2.2.2.2.2.1, o1.2.2.2.2.2.2.1, o1.2.2.2.2.2.2.2.1, v20.1, v20.2.1, v20.2.2.1, v20.2.2.2.1, v20.2.2.2.2.1, v20.2.2.2.2.2.1, v20.2.2.2.2.2.2.1, o1.2.2.2.2.2.2.2.2.2.2.2.2.2.2.1, v20.2.2.2.2.2.2.2.1, v20.2.2.2.2.2.2.2.2.1, v20.2.2.2.2.2.2.2.2.2)) else (k27 ()))) else (k3 (v20.1, v20.2.1, v20.2.2.1, v20.2.2.2.1, v20.2.2.2.2.1, v20.2.2.2.2.2.1, v20.2.2.2.2.2.2.1, v20.2.2.2.2.2.2.2.1, v20.2.2.2.2.2.2.2.2.1, v20.2.2.2.2.2.2.2.2.2))
def fX12_parse (N : Nat) (c_rules : Int32) (c_lefts : (Nat → Int32)) (c_sizes : (Nat → Int32)) (c_rights : (Nat → Int32)) (c_levels : Int32) (c_codes : (Nat → Int32)) (c_details : (Nat → Int32)) (c_isWorked : Int32) (c_empties : Int32) (c_firsts : (Nat → Int32)) (c_follows : (Nat → Int32)) (c_strings : (Nat → Int32)) (c_longs : (Nat → Int32)) (c_trial : (Nat → Int32)) (c_trialLong : Int32) (c_input : (Nat → Int32)) (c_inputLong : Int32) (c_stack : (Nat → Int32)) (c_stackParents : (Nat → Int32)) (c_top : Int32) (c_at : Int32) (c_steps : Int32) (c_traced : Int32) (c_traces : (Nat → Int32)) (c_nodes : Int32) (c_made : Int32) (c_nodeSymbols : (Nat → Int32)) (c_nodeParents : (Nat → Int32)) : Option (Int32 × Int32 × (Nat → Int32) × (Nat → Int32) × Int32 × Int32 × (Nat → Int32) × (Nat → Int32) × (Nat → Int32) × (Nat → Int32) × (Nat → Int32) × Int32 × (Nat → Int32) × (Nat → Int32) × Int32 × Int32 × Int32 × Int32 × (Nat → Int32) × Int32 × Int32 × (Nat → Int32) × (Nat → Int32)) :=
(fX12_starts N c_rules c_lefts c_sizes c_rights c_isWorked c_empties c_firsts c_follows c_strings c_longs c_trial c_trialLong c_stack c_stackParents c_top c_at c_steps c_traced c_nodes c_made).bind fun o1 =>
jn_ (fun (v2 : (Nat → Int32) × (Nat → Int32) × Int32 × Int32 × Int32 × Int32 × (Nat → Int32) × Int32 × (Nat → Int32) × (Nat → Int32)) => some (v2.2.2.2.2.1, c_levels, c_codes, c_details, o1.1, o1.2.1, o1.2.2.1, o1.2.2.2.1, o1.2.2.2.2.1, o1.2.2.2.2.2.1, o1.2.2.2.2.2.2.1, o1.2.2.2.2.2.2.2.1, v2.1, v2.2.1, v2.2.2.1, v2.2.2.2.1, v2.2.2.2.2.1, v2.2.2.2.2.2.1, v2.2.2.2.2.2.2.1, v2.2.2.2.2.2.2.2.1, v2.2.2.2.2.2.2.2.1, v2.2.2.2.2.2.2.2.2.1, v2.2.2.2.2.2.2.2.2.2)) fun k3 =>
jn_ (fun (v4 : (Nat → Int32) × (Nat → Int32) × Int32 × Int32 × Int32 × Int32 × (Nat → Int32) × Int32 × (Nat → Int32) × (Nat → Int32)) => (fX12_tells c_levels c_codes c_details 0 1 v4.2.2.2.1).bind fun o5 =>
jn_ (fun (v6 : Int32 × (Nat → Int32) × (Nat → Int32)) => some ((-5), v6.1, v6.2.1, v6.2.2, o1.1, o1.2.1, o1.2.2.1, o1.2.2.2.1, o1.2.2.2.2.1, o1.2.2.2.2.2.1, o1.2.2.2.2.2.2.1, o1.2.2.2.2.2.2.2.1, v4.1, v4.2.1, v4.2.2.1, v4.2.2.2.1, v4.2.2.2.2.1, v4.2.2.2.2.2.1, v4.2.2.2.2.2.2.1, o1.2.2.2.2.2.2.2.2.2.2.2.2.2.2.1, v4.2.2.2.2.2.2.2.1, v4.2.2.2.2.2.2.2.2.1, v4.2.2.2.2.2.2.2.2.2)) fun k7 =>
if v4.2.2.1 = 0 then ((fX12_tells o5.1 o5.2.1 o5.2.2 1 4 (c_inputLong - v4.2.2.2.1)).bind fun o18 =>
k7 (o18.1, o18.2.1, o18.2.2)) else ((ag v4.1 66 (v4.2.2.1 - (1 : Int32))).bind fun x8 =>
if 10 ≤ x8 then ((ag v4.1 66 (v4.2.2.1 - (1 : Int32))).bind fun x9 =>
lt_ (x9 - (10 : Int32)) fun x10 =>
(fX12_tells o5.1 o5.2.1 o5.2.2 1 3 x10).bind fun o11 =>
(fX12_hasRules N c_rules c_lefts x10).bind fun x12 =>
if x12 = 0 then ((fX12_tells o11.1 o11.2.1 o11.2.2 2 5 x10).bind fun o13 =>
k7 (o13.1, o13.2.1, o13.2.2)) else ((fX12_entries N c_rules c_lefts c_sizes c_rights o1.2.1 o1.2.2.1 o1.2.2.2.1 x10).bind fun x14 =>
(fX12_tells o11.1 o11.2.1 o11.2.2 2 6 x14).bind fun o15 =>
k7 (o15.1, o15.2.1, o15.2.2))) else ((ag v4.1 66 (v4.2.2.1 - (1 : Int32))).bind fun x16 =>
(fX12_tells o5.1 o5.2.1 o5.2.2 1 2 x16).bind fun o17 =>
k7 (o17.1, o17.2.1, o17.2.2)))) fun k19 =>
itr (bX12_parse_4 N c_rules c_lefts c_sizes c_rights c_levels c_codes c_details c_input c_inputLong o1 k3 k19) N (o1.2.2.2.2.2.2.2.2.1, o1.2.2.2.2.2.2.2.2.2.1, o1.2.2.2.2.2.2.2.2.2.2.1, o1.2.2.2.2.2.2.2.2.2.2.2.1, o1.2.2.2.2.2.2.2.2.2.2.2.2.1, o1.2.2.2.2.2.2.2.2.2.2.2.2.2.1, c_traces, o1.2.2.2.2.2.2.2.2.2.2.2.2.2.2.2, c_nodeSymbols, c_nodeParents)
def fX12_errs (c_stack : (Nat → Int32)) (c_top : Int32) (c_at : Int32) (c_steps : Int32) (c_errors : Int32) (c_errorAts : (Nat → Int32)) (c_errorKinds : (Nat → Int32)) (c_errorTops : (Nat → Int32)) (p1 : Int32) : Option (Int32 × Int32 × (Nat → Int32) × (Nat → Int32) × (Nat → Int32)) :=
(as_ c_errorAts 300 c_errors c_at).bind fun f1 =>
(as_ c_errorKinds 300 c_errors p1).bind fun f2 =>
jn_ (fun (v3 : Int32) => (as_ c_errorTops 300 c_errors v3).bind fun f4 =>
lt_ (c_errors + (1 : Int32)) fun x5 =>
lt_ (c_steps + (1 : Int32)) fun x6 =>
some (x6, x5, f1, f2, f4)) fun k7 =>
if p1 = 3 then (k7 (-1)) else ((ag c_stack 66 (c_top - (1 : Int32))).bind fun x8 =>
k7 x8)
def bX12_recover_9 (N : Nat) (c_rules : Int32) (c_lefts : (Nat → Int32)) (c_sizes : (Nat → Int32)) (c_rights : (Nat → Int32)) (c_synchronizing : (Nat → Int32)) (c_input : (Nat → Int32)) (c_inputLong : Int32) (o1 : Int32 × Int32 × (Nat → Int32) × (Nat → Int32) × (Nat → Int32) × (Nat → Int32) × (Nat → Int32) × Int32 × (Nat → Int32) × (Nat → Int32) × Int32 × Int32 × Int32 × Int32 × Int32 × Int32) (k3 : ((Nat → Int32) × (Nat → Int32) × Int32 × Int32 × Int32 × Int32 × (Nat → Int32) × Int32 × (Nat → Int32) × (Nat → Int32) × Int32 × (Nat → Int32) × (Nat → Int32) × (Nat → Int32) → Option (Int32 × Int32 × Int32 × (Nat → Int32) × (Nat → Int32) × (Nat → Int32) × (Nat → Int32) × (Nat → Int32) × Int32 × (Nat → Int32) × (Nat → Int32) × Int32 × Int32 × Int32 × Int32 × (Nat → Int32) × Int32 × Int32 × (Nat → Int32) × (Nat → Int32) × Int32 × (Nat → Int32) × (Nat → Int32) × (Nat → Int32)))) (rc5 : (Nat → Int32) × (Nat → Int32) × Int32 × Int32 × Int32 × Int32 × (Nat → Int32) × Int32 × (Nat → Int32) × (Nat → Int32) × Int32 × (Nat → Int32) × (Nat → Int32) × (Nat → Int32) → Option (Int32 × Int32 × Int32 × (Nat → Int32) × (Nat → Int32) × (Nat → Int32) × (Nat → Int32) × (Nat → Int32) × Int32 × (Nat → Int32) × (Nat → Int32) × Int32 × Int32 × Int32 × Int32 × (Nat → Int32) × Int32 × Int32 × (Nat → Int32) × (Nat → Int32) × Int32 × (Nat → Int32) × (Nat → Int32) × (Nat → Int32))) (v4 : (Nat → Int32) × (Nat → Int32) × Int32 × Int32 × Int32 × Int32 × (Nat → Int32) × Int32 × (Nat → Int32) × (Nat → Int32) × Int32 × (Nat → Int32) × (Nat → Int32) × (Nat → Int32)) : Option (Int32 × Int32 × Int32 × (Nat → Int32) × (Nat → Int32) × (Nat → Int32) × (Nat → Int32) × (Nat → Int32) × Int32 × (Nat → Int32) × (Nat → Int32) × Int32 × Int32 × Int32 × Int32 × (Nat → Int32) × Int32 × Int32 × (Nat → Int32) × (Nat → Int32) × Int32 × (Nat → Int32) × (Nat → Int32) × (Nat → Int32)) :=
(fX12_isDone c_input c_inputLong v4.2.2.1 v4.2.2.2.1).bind fun x6 =>
if x6 = 0 then (if v4.2.2.2.2.1 = 300 then (some ((-6), o1.1, o1.2.1, o1.2.2.1, o1.2.2.2.1, o1.2.2.2.2.1, o1.2.2.2.2.2.1, o1.2.2.2.2.2.2.1, o1.2.2.2.2.2.2.2.1, v4.1, v4.2.1, v4.2.2.1, v4.2.2.2.1, v4.2.2.2.2.1, v4.2.2.2.2.2.1, v4.2.2.2.2.2.2.1, o1.2.2.2.2.2.2.2.2.2.2.2.2.2.2.1, v4.2.2.2.2.2.2.2.1, v4.2.2.2.2.2.2.2.2.1, v4.2.2.2.2.2.2.2.2.2.1, v4.2.2.2.2.2.2.2.2.2.2.1, v4.2.2.2.2.2.2.2.2.2.2.2.1, v4.2.2.2.2.2.2.2.2.2.2.2.2.1, v4.2.2.2.2.2.2.2.2.2.2.2.2.2)) else ((fX12_goes N c_rules c_lefts c_sizes c_rights o1.2.1 o1.2.2.1 o1.2.2.2.1 c_input c_inputLong v4.1 v4.2.1 v4.2.2.1 v4.2.2.2.1 v4.2.2.2.2.1 v4.2.2.2.2.2.1 v4.2.2.2.2.2.2.1 v4.2.2.2.2.2.2.2.1 v4.2.2.2.2.2.2.2.2.1 v4.2.2.2.2.2.2.2.2.2.1).bind fun o7 =>
if o7.1 = 0 then (if o7.2.2.2.1 = 0 then ((fX12_errs o7.2.1 o7.2.2.2.1 o7.2.2.2.2.1 o7.2.2.2.2.2.1 v4.2.2.2.2.2.2.2.2.2.2.1 v4.2.2.2.2.2.2.2.2.2.2.2.1 v4.2.2.2.2.2.2.2.2.2.2.2.2.1 v4.2.2.2.2.2.2.2.2.2.2.2.2.2 3).bind fun o24 =>
rc5 (o7.2.1, o7.2.2.1, o7.2.2.2.1, c_inputLong, o24.1, o7.2.2.2.2.2.2.1, o7.2.2.2.2.2.2.2.1, o7.2.2.2.2.2.2.2.2.1, o7.2.2.2.2.2.2.2.2.2.1, o7.2.2.2.2.2.2.2.2.2.2, o24.2.1, o24.2.2.1, o24.2.2.2.1, o24.2.2.2.2)) else ((ag o7.2.1 66 (o7.2.2.2.1 - (1 : Int32))).bind fun x8 =>
jn_ (fun (v9 : Int32) => jn_ (fun (v10 : Int32) => (fX12_errs o7.2.1 o7.2.2.2.1 o7.2.2.2.2.1 o7.2.2.2.2.2.1 v4.2.2.2.2.2.2.2.2.2.2.1 v4.2.2.2.2.2.2.2.2.2.2.2.1 v4.2.2.2.2.2.2.2.2.2.2.2.2.1 v4.2.2.2.2.2.2.2.2.2.2.2.2.2 v10).bind fun o11 =>
jn_ (fun (v12 : Int32 × Int32) => rc5 (o7.2.1, o7.2.2.1, v12.1, v12.2, o11.1, o7.2.2.2.2.2.2.1, o7.2.2.2.2.2.2.2.1, o7.2.2.2.2.2.2.2.2.1, o7.2.2.2.2.2.2.2.2.2.1, o7.2.2.2.2.2.2.2.2.2.2, o11.2.1, o11.2.2.1, o11.2.2.2.1, o11.2.2.2.2)) fun k13 =>
if v9 = 0 then (lt_ (o7.2.2.2.2.1 + (1 : Int32)) fun x14 =>
k13 (o7.2.2.2.1, x14)) else (lt_ (o7.2.2.2.1 - (1 : Int32)) fun x15 =>
k13 (x15, o7.2.2.2.2.1))) fun k16 =>
if 10 ≤ x8 then (if v9 = 0 then (k16 2) else (k16 1)) else (k16 0)) fun k17 =>
jn_ (fun (v18 : Unit) => k17 1) fun k19 =>
if x8 < 10 then (k19 ()) else ((fX12_token c_input c_inputLong o7.2.2.2.2.1).bind fun x20 =>
if x20 = 8 then (k19 ()) else ((ag o1.2.2.2.1 8 (x8 - (10 : Int32))).bind fun x21 =>
(ag c_synchronizing 8 (x8 - (10 : Int32))).bind fun x22 =>
(fX12_token c_input c_inputLong o7.2.2.2.2.1).bind fun x23 =>
if (((x21 ||| x22) >>> (x23 &&& (31 : Int32))) &&& (1 : Int32)) = 1 then (k19 ()) else (k17 0))))) else (if o7.2.2.2.1 ≤ 60 then (rc5 (o7.2.1, o7.2.2.1, o7.2.2.2.1, o7.2.2.2.2.1, o7.2.2.2.2.2.1, o7.2.2.2.2.2.2.1, o7.2.2.2.2.2.2.2.1, o7.2.2.2.2.2.2.2.2.1, o7.2.2.2.2.2.2.2.2.2.1, o7.2.2.2.2.2.2.2.2.2.2, v4.2.2.2.2.2.2.2.2.2.2.1, v4.2.2.2.2.2.2.2.2.2.2.2.1, v4.2.2.2.2.2.2.2.2.2.2.2.2.1, v4.2.2.2.2.2.2.2.2.2.2.2.2.2)) else (some ((-6), o1.1, o1.2.1, o1.2.2.1, o1.2.2.2.1, o1.2.2.2.2.1, o1.2.2.2.2.2.1, o1.2.2.2.2.2.2.1, o1.2.2.2.2.2.2.2.1, o7.2.1, o7.2.2.1, o7.2.2.2.1, o7.2.2.2.2.1, o7.2.2.2.2.2.1, o7.2.2.2.2.2.2.1, o7.2.2.2.2.2.2.2.1, o1.2.2.2.2.2.2.2.2.2.2.2.2.2.2.1, o7.2.2.2.2.2.2.2.2.1, o7.2.2.2.2.2.2.2.2.2.1, o7.2.2.2.2.2.2.2.2.2.2, v4.2.2.2.2.2.2.2.2.2.2.1, v4.2.2.2.2.2.2.2.2.2.2.2.1, v4.2.2.2.2.2.2.2.2.2.2.2.2.1, v4.2.2.2.2.2.2.2.2.2.2.2.2.2))))) else (k3 (v4.1, v4.2.1, v4.2.2.1, v4.2.2.2.1, v4.2.2.2.2.1, v4.2.2.2.2.2.1, v4.2.2.2.2.2.2.1, v4.2.2.2.2.2.2.2.1, v4.2.2.2.2.2.2.2.2.1, v4.2.2.2.2.2.2.2.2.2.1, v4.2.2.2.2.2.2.2.2.2.2.1, v4.2.2.2.2.2.2.2.2.2.2.2.1, v4.2.2.2.2.2.2.2.2.2.2.2.2.1, v4.2.2.2.2.2.2.2.2.2.2.2.2.2))
def fX12_recover (N : Nat) (c_rules : Int32) (c_lefts : (Nat → Int32)) (c_sizes : (Nat → Int32)) (c_rights : (Nat → Int32)) (c_isWorked : Int32) (c_empties : Int32) (c_firsts : (Nat → Int32)) (c_follows : (Nat → Int32)) (c_strings : (Nat → Int32)) (c_longs : (Nat → Int32)) (c_trial : (Nat → Int32)) (c_trialLong : Int32) (c_synchronizing : (Nat → Int32)) (c_input : (Nat → Int32)) (c_inputLong : Int32) (c_stack : (Nat → Int32)) (c_stackParents : (Nat → Int32)) (c_top : Int32) (c_at : Int32) (c_steps : Int32) (c_traced : Int32) (c_traces : (Nat → Int32)) (c_nodes : Int32) (c_made : Int32) (c_nodeSymbols : (Nat → Int32)) (c_nodeParents : (Nat → Int32)) (c_errors : Int32) (c_errorAts : (Nat → Int32)) (c_errorKinds : (Nat → Int32)) (c_errorTops : (Nat → Int32)) : Option (Int32 × Int32 × Int32 × (Nat → Int32) × (Nat → Int32) × (Nat → Int32) × (Nat → Int32) × (Nat → Int32) × Int32 × (Nat → Int32) × (Nat → Int32) × Int32 × Int32 × Int32 × Int32 × (Nat → Int32) × Int32 × Int32 × (Nat → Int32) × (Nat → Int32) × Int32 × (Nat → Int32) × (Nat → Int32) × (Nat → Int32)) :=
(fX12_starts N c_rules c_lefts c_sizes c_rights c_isWorked c_empties c_firsts c_follows c_strings c_longs c_trial c_trialLong c_stack c_stackParents c_top c_at c_steps c_traced c_nodes c_made).bind fun o1 =>
jn_ (fun (v2 : (Nat → Int32) × (Nat → Int32) × Int32 × Int32 × Int32 × Int32 × (Nat → Int32) × Int32 × (Nat → Int32) × (Nat → Int32) × Int32 × (Nat → Int32) × (Nat → Int32) × (Nat → Int32)) => some (v2.2.2.2.2.2.2.2.2.2.2.1, o1.1, o1.2.1, o1.2.2.1, o1.2.2.2.1, o1.2.2.2.2.1, o1.2.2.2.2.2.1, o1.2.2.2.2.2.2.1, o1.2.2.2.2.2.2.2.1, v2.1, v2.2.1, v2.2.2.1, v2.2.2.2.1, v2.2.2.2.2.1, v2.2.2.2.2.2.1, v2.2.2.2.2.2.2.1, o1.2.2.2.2.2.2.2.2.2.2.2.2.2.2.1, v2.2.2.2.2.2.2.2.1, v2.2.2.2.2.2.2.2.2.1, v2.2.2.2.2.2.2.2.2.2.1, v2.2.2.2.2.2.2.2.2.2.2.1, v2.2.2.2.2.2.2.2.2.2.2.2.1, v2.2.2.2.2.2.2.2.2.2.2.2.2.1, v2.2.2.2.2.2.2.2.2.2.2.2.2.2)) fun k3 =>
itr (bX12_recover_9 N c_rules c_lefts c_sizes c_rights c_synchronizing c_input c_inputLong o1 k3) N (o1.2.2.2.2.2.2.2.2.1, o1.2.2.2.2.2.2.2.2.2.1, o1.2.2.2.2.2.2.2.2.2.2.1, o1.2.2.2.2.2.2.2.2.2.2.2.1, o1.2.2.2.2.2.2.2.2.2.2.2.2.1, o1.2.2.2.2.2.2.2.2.2.2.2.2.2.1, c_traces, o1.2.2.2.2.2.2.2.2.2.2.2.2.2.2.2, c_nodeSymbols, c_nodeParents, 0, c_errorAts, c_errorKinds, c_errorTops)
def fX12_error (c_errors : Int32) (c_errorAts : (Nat → Int32)) (c_errorKinds : (Nat → Int32)) (c_errorTops : (Nat → Int32)) (p1 : Int32) (p2 : Int32) : Option (Int32) :=
(fX12_in p2 0 2).bind fun x1 =>
if x1 = 0 then (some (-1)) else ((fX12_in p1 0 (c_errors - (1 : Int32))).bind fun x2 =>
jn_ (fun (v3 : Int32) => some v3) fun k4 =>
if x2 = 0 then (k4 (-2)) else (if p2 = 0 then ((ag c_errorAts 300 p1).bind fun x7 =>
k4 x7) else (if p2 = 1 then ((ag c_errorKinds 300 p1).bind fun x6 =>
k4 x6) else ((ag c_errorTops 300 p1).bind fun x5 =>
k4 x5))))
def fX12_traceLength (c_traced : Int32) : Option (Int32) :=
some c_traced
def fX12_trace (c_traced : Int32) (c_traces : (Nat → Int32)) (p1 : Int32) : Option (Int32) :=
(fX12_in p1 0 (c_traced - (1 : Int32))).bind fun x1 =>
jn_ (fun (v2 : Int32) => some v2) fun k3 =>
if x1 = 0 then (k3 (-2)) else ((ag c_traces 300 p1).bind fun x4 =>
k3 x4)
def fX12_nodeCount (c_nodes : Int32) : Option (Int32) :=
some c_nodes
def fX12_nodeSymbol (c_nodes : Int32) (c_nodeSymbols : (Nat → Int32)) (p1 : Int32) : Option (Int32) :=
(fX12_in p1 0 (c_nodes - (1 : Int32))).bind fun x1 =>
jn_ (fun (v2 : Int32) => some v2) fun k3 =>
if x1 = 0 then (k3 (-2)) else ((ag c_nodeSymbols 300 p1).bind fun x4 =>
k3 x4)
def fX12_nodeParent (c_nodes : Int32) (c_nodeParents : (Nat → Int32)) (p1 : Int32) : Option (Int32) :=
(fX12_in p1 0 (c_nodes - (1 : Int32))).bind fun x1 =>
jn_ (fun (v2 : Int32) => some v2) fun k3 =>
if x1 = 0 then (k3 (-2)) else ((ag c_nodeParents 300 p1).bind fun x4 =>
k3 x4)
def bX12_nodeHeight_35 (p1 : Int32) (c_nodeParents : (Nat → Int32)) (k12 : (Int32 × Int32 → Option (Int32))) (rc14 : Int32 × Int32 → Option (Int32)) (v13 : Int32 × Int32) : Option (Int32) :=
if v13.1 ≤ p1 then (k12 (v13.1, v13.2)) else ((ag c_nodeParents 300 v13.1).bind fun x15 =>
lt_ (v13.2 + 1) fun x16 =>
rc14 (x15, x16))
def bX12_nodeHeight_21 (N : Nat) (p1 : Int32) (c_nodes : Int32) (c_nodeParents : (Nat → Int32)) (k3 : (Int32 → Option (Int32))) (rc5 : Int32 × Int32 → Option (Int32)) (v4 : Int32 × Int32) : Option (Int32) :=
if c_nodes ≤ v4.2 then (k3 v4.1) else (jn_ (fun (v6 : Int32 × Int32) => jn_ (fun (v7 : Int32) => lt_ (v4.2 + 1) fun x8 =>
rc5 (v7, x8)) fun k9 =>
jn_ (fun (v10 : Unit) => k9 v4.1) fun k11 =>
if v6.1 = p1 then (if v6.2 ≤ v4.1 then (k11 ()) else (k9 v6.2)) else (k11 ())) fun k12 =>
itr (bX12_nodeHeight_35 p1 c_nodeParents k12) N (v4.2, 0))
def fX12_nodeHeight (N : Nat) (c_nodes : Int32) (c_nodeParents : (Nat → Int32)) (p1 : Int32) : Option (Int32) :=
(fX12_in p1 0 (c_nodes - (1 : Int32))).bind fun x1 =>
if x1 = 0 then (some (-2)) else (jn_ (fun (v2 : Int32) => some v2) fun k3 =>
itr (bX12_nodeHeight_21 N p1 c_nodes c_nodeParents k3) N (0, p1))
def fX12_setWeight (c_weights : (Nat → Int32)) (p1 : Int32) (p2 : Int32) : Option (Int32 × (Nat → Int32)) :=
(fX12_in p1 0 7).bind fun x1 =>
jn_ (fun (v2 : Unit) => some ((-1), c_weights)) fun k3 =>
if x1 = 0 then (k3 ()) else ((fX12_in p2 1 9).bind fun x4 =>
if x4 = 0 then (k3 ()) else ((ag c_weights 8 p1).bind fun x5 =>
(as_ c_weights 8 p1 p2).bind fun f6 =>
some (x5, f6)))
def bX12_weighs_trial_6 (p2 : Int32) (p3 : Int32) (c_trial : (Nat → Int32)) (c_weights : (Nat → Int32)) (k2 : (Int32 → Option (Int32))) (rc4 : Int32 × Int32 → Option (Int32)) (v3 : Int32 × Int32) : Option (Int32) :=
if p3 ≤ v3.2 then (k2 v3.1) else ((ag c_trial 40 (p2 + v3.2)).bind fun x5 =>
(ag c_weights 8 x5).bind fun x6 =>
lt_ (v3.1 + x6) fun x7 =>
lt_ (v3.2 + 1) fun x8 =>
rc4 (x7, x8))
def fX12_weighs_trial (N : Nat) (c_trial : (Nat → Int32)) (c_weights : (Nat → Int32)) (p2 : Int32) (p3 : Int32) : Option (Int32) :=
jn_ (fun (v1 : Int32) => some v1) fun k2 =>
itr (bX12_weighs_trial_6 p2 p3 c_trial c_weights k2) N (0, 0)
def bX12_weighs_partly_6 (p2 : Int32) (p3 : Int32) (c_weights : (Nat → Int32)) (c_partly : (Nat → Int32)) (k2 : (Int32 → Option (Int32))) (rc4 : Int32 × Int32 → Option (Int32)) (v3 : Int32 × Int32) : Option (Int32) :=
if p3 ≤ v3.2 then (k2 v3.1) else ((ag c_partly 2160 (p2 + v3.2)).bind fun x5 =>
(ag c_weights 8 x5).bind fun x6 =>
lt_ (v3.1 + x6) fun x7 =>
lt_ (v3.2 + 1) fun x8 =>
rc4 (x7, x8))
def fX12_weighs_partly (N : Nat) (c_weights : (Nat → Int32)) (c_partly : (Nat → Int32)) (p2 : Int32) (p3 : Int32) : Option (Int32) :=
jn_ (fun (v1 : Int32) => some v1) fun k2 =>
itr (bX12_weighs_partly_6 p2 p3 c_weights c_partly k2) N (0, 0)
def bX12_isLess_partly_77 (p2 : Int32) (p3 : Int32) (c_trial : (Nat → Int32)) (c_partly : (Nat → Int32)) (k16 : (Int32 → Option (Int32))) (rc18 : Int32 → Option (Int32)) (v17 : Int32) : Option (Int32) :=
if p3 ≤ v17 then (k16 v17) else ((ag c_trial 40 v17).bind fun x19 =>
(ag c_partly 2160 (p2 + v17)).bind fun x20 =>
if x19 = x20 then (lt_ (v17 + 1) fun x21 =>
rc18 x21) else (k16 v17))
def fX12_isLess_partly (N : Nat) (c_trial : (Nat → Int32)) (c_trialLong : Int32) (c_weights : (Nat → Int32)) (c_partly : (Nat → Int32)) (p2 : Int32) (p3 : Int32) : Option (Int32) :=
jn_ (fun (v1 : Unit) => jn_ (fun (v2 : Int32) => gz v2 (some v2)) fun k3 =>
jn_ (fun (v4 : Unit) => k3 1) fun k5 =>
if p3 < 0 then (k5 ()) else (if p3 ≤ c_trialLong then (k3 0) else (k5 ()))) fun k6 =>
if p3 < 0 then (k6 ()) else (if c_trialLong = p3 then ((fX12_weighs_trial N c_trial c_weights 0 c_trialLong).bind fun x7 =>
(fX12_weighs_partly N c_weights c_partly p2 p3).bind fun x8 =>
if x7 = x8 then (jn_ (fun (v9 : Int32) => jn_ (fun (v10 : Int32) => gz v10 (some v10)) fun k11 =>
jn_ (fun (v12 : Unit) => k11 0) fun k13 =>
if p3 ≤ v9 then (k13 ()) else ((ag c_trial 40 v9).bind fun x14 =>
(ag c_partly 2160 (p2 + v9)).bind fun x15 =>
if x15 ≤ x14 then (k13 ()) else (k11 1))) fun k16 =>
itr (bX12_isLess_partly_77 p2 p3 c_trial c_partly k16) N 0) else (jn_ (fun (v23 : Int32) => gz v23 (some v23)) fun k24 =>
if x8 ≤ x7 then (k24 0) else (k24 1))) else (k6 ()))
def bX12_reaches_49 (c_trial : (Nat → Int32)) (c_trialLong : Int32) (x1 : Int32) (k8 : ((Nat → Int32) → Option ((Nat → Int32) × (Nat → Int32)))) (rc10 : Int32 × (Nat → Int32) → Option ((Nat → Int32) × (Nat → Int32))) (v9 : Int32 × (Nat → Int32)) : Option ((Nat → Int32) × (Nat → Int32)) :=
if c_trialLong ≤ v9.1 then (k8 v9.2) else ((ag c_trial 40 v9.1).bind fun x11 =>
(as_ v9.2 2160 (((40 : Int32) * x1) + v9.1) x11).bind fun f12 =>
lt_ (v9.1 + 1) fun x13 =>
rc10 (x13, f12))
def fX12_reaches (N : Nat) (c_trial : (Nat → Int32)) (c_trialLong : Int32) (c_weights : (Nat → Int32)) (c_partly : (Nat → Int32)) (c_partlyLongs : (Nat → Int32)) (p1 : Int32) (p2 : Int32) : Option ((Nat → Int32) × (Nat → Int32)) :=
lt_ (((9 : Int32) * p1) + p2) fun x1 =>
jn_ (fun (v2 : Unit) => some (c_partly, c_partlyLongs)) fun k3 =>
if c_trialLong < 0 then (k3 ()) else ((ag c_partlyLongs 54 x1).bind fun x4 =>
(fX12_isLess_partly N c_trial c_trialLong c_weights c_partly ((40 : Int32) * x1) x4).bind fun x5 =>
if x5 = 0 then (k3 ()) else ((as_ c_partlyLongs 54 x1 c_trialLong).bind fun f6 =>
jn_ (fun (v7 : (Nat → Int32)) => some (v7, f6)) fun k8 =>
itr (bX12_reaches_49 c_trial c_trialLong x1 k8) N (0, c_partly)))
def bX12_copies_partly_3 (p2 : Int32) (p3 : Int32) (c_partly : (Nat → Int32)) (k2 : ((Nat → Int32) × Int32 → Option ((Nat → Int32) × Int32))) (rc4 : Int32 × (Nat → Int32) × Int32 → Option ((Nat → Int32) × Int32)) (v3 : Int32 × (Nat → Int32) × Int32) : Option ((Nat → Int32) × Int32) :=
if p3 ≤ v3.1 then (k2 (v3.2.1, v3.2.2)) else ((ag c_partly 2160 (p2 + v3.1)).bind fun x5 =>
(fX12_adds v3.2.1 v3.2.2 x5).bind fun o6 =>
lt_ (v3.1 + 1) fun x7 =>
rc4 (x7, o6.1, o6.2))
def fX12_copies_partly (N : Nat) (c_trial : (Nat → Int32)) (c_trialLong : Int32) (c_partly : (Nat → Int32)) (p2 : Int32) (p3 : Int32) : Option ((Nat → Int32) × Int32) :=
jn_ (fun (v1 : (Nat → Int32) × Int32) => some (v1.1, v1.2)) fun k2 =>
itr (bX12_copies_partly_3 p2 p3 c_partly k2) N (0, c_trial, c_trialLong)
def bX12_copies_bests_3 (p2 : Int32) (p3 : Int32) (c_bests : (Nat → Int32)) (k2 : ((Nat → Int32) × Int32 → Option ((Nat → Int32) × Int32))) (rc4 : Int32 × (Nat → Int32) × Int32 → Option ((Nat → Int32) × Int32)) (v3 : Int32 × (Nat → Int32) × Int32) : Option ((Nat → Int32) × Int32) :=
if p3 ≤ v3.1 then (k2 (v3.2.1, v3.2.2)) else ((ag c_bests 25920 (p2 + v3.1)).bind fun x5 =>
(fX12_adds v3.2.1 v3.2.2 x5).bind fun o6 =>
lt_ (v3.1 + 1) fun x7 =>
rc4 (x7, o6.1, o6.2))
def fX12_copies_bests (N : Nat) (c_trial : (Nat → Int32)) (c_trialLong : Int32) (c_bests : (Nat → Int32)) (p2 : Int32) (p3 : Int32) : Option ((Nat → Int32) × Int32) :=
jn_ (fun (v1 : (Nat → Int32) × Int32) => some (v1.1, v1.2)) fun k2 =>
itr (bX12_copies_bests_3 p2 p3 c_bests k2) N (0, c_trial, c_trialLong)
def bX12_extends1_30 (N : Nat) (p2 : Int32) (p3 : Int32) (c_input : (Nat → Int32)) (c_inputLong : Int32) (c_weights : (Nat → Int32)) (c_bests : (Nat → Int32)) (c_bestLongs : (Nat → Int32)) (x1 : Int32) (x3 : Int32) (k5 : ((Nat → Int32) × Int32 × (Nat → Int32) × (Nat → Int32) → Option ((Nat → Int32) × Int32 × (Nat → Int32) × (Nat → Int32)))) (k7 : ((Nat → Int32) × Int32 × (Nat → Int32) × (Nat → Int32) → Option ((Nat → Int32) × Int32 × (Nat → Int32) × (Nat → Int32)))) (rc9 : Int32 × (Nat → Int32) × Int32 × (Nat → Int32) × (Nat → Int32) → Option ((Nat → Int32) × Int32 × (Nat → Int32) × (Nat → Int32))) (v8 : Int32 × (Nat → Int32) × Int32 × (Nat → Int32) × (Nat → Int32)) : Option ((Nat → Int32) × Int32 × (Nat → Int32) × (Nat → Int32)) :=
if c_inputLong < v8.1 then (k5 (v8.2.1, v8.2.2.1, v8.2.2.2.1, v8.2.2.2.2)) else (jn_ (fun (v10 : Unit) => jn_ (fun (v11 : Int32) => jn_ (fun (v12 : (Nat → Int32) × Int32 × (Nat → Int32) × (Nat → Int32)) => lt_ (v8.1 + 1) fun x13 =>
rc9 (x13, v12.1, v12.2.1, v12.2.2.1, v12.2.2.2)) fun k14 =>
jn_ (fun (v15 : Unit) => (fX12_tries v8.2.2.1).bind fun o16 =>
(ag v8.2.2.2.2 54 x1).bind fun x17 =>
(fX12_copies_partly N v8.2.1 o16 v8.2.2.2.1 ((40 : Int32) * x1) x17).bind fun o18 =>
jn_ (fun (v19 : (Nat → Int32) × Int32) => (fX12_reaches N v19.1 v19.2 c_weights v8.2.2.2.1 v8.2.2.2.2 (p2 + (1 : Int32)) v8.1).bind fun o20 =>
k14 (v19.1, v19.2, o20.1, o20.2)) fun k21 =>
if 10 ≤ x3 then ((ag c_bestLongs 648 v11).bind fun x22 =>
(fX12_copies_bests N o18.1 o18.2 c_bests ((40 : Int32) * v11) x22).bind fun o23 =>
k21 (o23.1, o23.2)) else ((fX12_adds o18.1 o18.2 x3).bind fun o24 =>
k21 (o24.1, o24.2))) fun k25 =>
if x3 < 10 then (k25 ()) else ((ag c_bestLongs 648 v11).bind fun x26 =>
if 0 ≤ x26 then (k25 ()) else (k14 (v8.2.1, v8.2.2.1, v8.2.2.2.1, v8.2.2.2.2)))) fun k27 =>
if 10 ≤ x3 then (k27 ((((81 : Int32) * (x3 - (10 : Int32))) + ((9 : Int32) * p3)) + v8.1)) else (k27 0)) fun k28 =>
if 10 ≤ x3 then (k28 ()) else (if (p3 + (1 : Int32)) < v8.1 then (k7 (v8.2.1, v8.2.2.1, v8.2.2.2.1, v8.2.2.2.2)) else (if v8.1 = (p3 + (1 : Int32)) then ((ag c_input 40 p3).bind fun x29 =>
if x29 = x3 then (k28 ()) else (k7 (v8.2.1, v8.2.2.1, v8.2.2.2.1, v8.2.2.2.2))) else (k28 ()))))
def fX12_extends1 (N : Nat) (c_rights : (Nat → Int32)) (c_trial : (Nat → Int32)) (c_trialLong : Int32) (c_input : (Nat → Int32)) (c_inputLong : Int32) (c_weights : (Nat → Int32)) (c_bests : (Nat → Int32)) (c_bestLongs : (Nat → Int32)) (c_partly : (Nat → Int32)) (c_partlyLongs : (Nat → Int32)) (p1 : Int32) (p2 : Int32) (p3 : Int32) : Option ((Nat → Int32) × Int32 × (Nat → Int32) × (Nat → Int32)) :=
lt_ (((9 : Int32) * p2) + p3) fun x1 =>
(ag c_partlyLongs 54 x1).bind fun x2 =>
if 0 ≤ x2 then ((fX12_symbol c_rights p1 p2).bind fun x3 =>
jn_ (fun (v4 : (Nat → Int32) × Int32 × (Nat → Int32) × (Nat → Int32)) => some (v4.1, v4.2.1, v4.2.2.1, v4.2.2.2)) fun k5 =>
jn_ (fun (v6 : (Nat → Int32) × Int32 × (Nat → Int32) × (Nat → Int32)) => some (v6.1, v6.2.1, v6.2.2.1, v6.2.2.2)) fun k7 =>
itr (bX12_extends1_30 N p2 p3 c_input c_inputLong c_weights c_bests c_bestLongs x1 x3 k5 k7) N (p3, c_trial, c_trialLong, c_partly, c_partlyLongs)) else (some (c_trial, c_trialLong, c_partly, c_partlyLongs))
def bX12_weighs_bests_6 (p2 : Int32) (p3 : Int32) (c_weights : (Nat → Int32)) (c_bests : (Nat → Int32)) (k2 : (Int32 → Option (Int32))) (rc4 : Int32 × Int32 → Option (Int32)) (v3 : Int32 × Int32) : Option (Int32) :=
if p3 ≤ v3.2 then (k2 v3.1) else ((ag c_bests 25920 (p2 + v3.2)).bind fun x5 =>
(ag c_weights 8 x5).bind fun x6 =>
lt_ (v3.1 + x6) fun x7 =>
lt_ (v3.2 + 1) fun x8 =>
rc4 (x7, x8))
def fX12_weighs_bests (N : Nat) (c_weights : (Nat → Int32)) (c_bests : (Nat → Int32)) (p2 : Int32) (p3 : Int32) : Option (Int32) :=
jn_ (fun (v1 : Int32) => some v1) fun k2 =>
itr (bX12_weighs_bests_6 p2 p3 c_weights c_bests k2) N (0, 0)
def bX12_isLess_bests_77 (p2 : Int32) (p3 : Int32) (c_trial : (Nat → Int32)) (c_bests : (Nat → Int32)) (k16 : (Int32 → Option (Int32))) (rc18 : Int32 → Option (Int32)) (v17 : Int32) : Option (Int32) :=
if p3 ≤ v17 then (k16 v17) else ((ag c_trial 40 v17).bind fun x19 =>
(ag c_bests 25920 (p2 + v17)).bind fun x20 =>
if x19 = x20 then (lt_ (v17 + 1) fun x21 =>
rc18 x21) else (k16 v17))
def fX12_isLess_bests (N : Nat) (c_trial : (Nat → Int32)) (c_trialLong : Int32) (c_weights : (Nat → Int32)) (c_bests : (Nat → Int32)) (p2 : Int32) (p3 : Int32) : Option (Int32) :=
jn_ (fun (v1 : Unit) => jn_ (fun (v2 : Int32) => gz v2 (some v2)) fun k3 =>
jn_ (fun (v4 : Unit) => k3 1) fun k5 =>
if p3 < 0 then (k5 ()) else (if p3 ≤ c_trialLong then (k3 0) else (k5 ()))) fun k6 =>
if p3 < 0 then (k6 ()) else (if c_trialLong = p3 then ((fX12_weighs_trial N c_trial c_weights 0 c_trialLong).bind fun x7 =>
(fX12_weighs_bests N c_weights c_bests p2 p3).bind fun x8 =>
if x7 = x8 then (jn_ (fun (v9 : Int32) => jn_ (fun (v10 : Int32) => gz v10 (some v10)) fun k11 =>
jn_ (fun (v12 : Unit) => k11 0) fun k13 =>
if p3 ≤ v9 then (k13 ()) else ((ag c_trial 40 v9).bind fun x14 =>
(ag c_bests 25920 (p2 + v9)).bind fun x15 =>
if x15 ≤ x14 then (k13 ()) else (k11 1))) fun k16 =>
itr (bX12_isLess_bests_77 p2 p3 c_trial c_bests k16) N 0) else (jn_ (fun (v23 : Int32) => gz v23 (some v23)) fun k24 =>
if x8 ≤ x7 then (k24 0) else (k24 1))) else (k6 ()))
def bX12_mends_196 (x11 : Int32) (o18 : (Nat → Int32) × Int32) (k23 : ((Nat → Int32) → Option (Int32 × (Nat → Int32) × Int32 × (Nat → Int32) × (Nat → Int32) × (Nat → Int32) × (Nat → Int32)))) (rc25 : Int32 × (Nat → Int32) → Option (Int32 × (Nat → Int32) × Int32 × (Nat → Int32) × (Nat → Int32) × (Nat → Int32) × (Nat → Int32))) (v24 : Int32 × (Nat → Int32)) : Option (Int32 × (Nat → Int32) × Int32 × (Nat → Int32) × (Nat → Int32) × (Nat → Int32) × (Nat → Int32)) :=
if o18.2 ≤ v24.1 then (k23 v24.2) else ((ag o18.1 40 v24.1).bind fun x26 =>
(as_ v24.2 25920 (((40 : Int32) * x11) + v24.1) x26).bind fun f27 =>
lt_ (v24.1 + 1) fun x28 =>
rc25 (x28, f27))
def bX12_mends_77 (N : Nat) (p1 : Int32) (p2 : Int32) (c_lefts : (Nat → Int32)) (c_sizes : (Nat → Int32)) (c_inputLong : Int32) (c_weights : (Nat → Int32)) (v3 : (Nat → Int32) × Int32 × (Nat → Int32) × (Nat → Int32)) (k5 : (Int32 × (Nat → Int32) × Int32 × (Nat → Int32) × (Nat → Int32) → Option (Int32 × (Nat → Int32) × Int32 × (Nat → Int32) × (Nat → Int32) × (Nat → Int32) × (Nat → Int32)))) (rc7 : Int32 × Int32 × (Nat → Int32) × Int32 × (Nat → Int32) × (Nat → Int32) → Option (Int32 × (Nat → Int32) × Int32 × (Nat → Int32) × (Nat → Int32) × (Nat → Int32) × (Nat → Int32))) (v6 : Int32 × Int32 × (Nat → Int32) × Int32 × (Nat → Int32) × (Nat → Int32)) : Option (Int32 × (Nat → Int32) × Int32 × (Nat → Int32) × (Nat → Int32) × (Nat → Int32) × (Nat → Int32)) :=
if c_inputLong < v6.2.1 then (k5 (v6.1, v6.2.2.1, v6.2.2.2.1, v6.2.2.2.2.1, v6.2.2.2.2.2)) else ((ag c_sizes 24 p1).bind fun x8 =>
lt_ (((9 : Int32) * x8) + v6.2.1) fun x9 =>
(ag c_lefts 24 p1).bind fun x10 =>
lt_ ((((81 : Int32) * x10) + ((9 : Int32) * p2)) + v6.2.1) fun x11 =>
(ag v3.2.2.2 54 x9).bind fun x12 =>
jn_ (fun (v13 : Int32 × (Nat → Int32) × Int32 × (Nat → Int32) × (Nat → Int32)) => lt_ (v6.2.1 + 1) fun x14 =>
rc7 (v13.1, x14, v13.2.1, v13.2.2.1, v13.2.2.2.1, v13.2.2.2.2)) fun k15 =>
if 0 ≤ x12 then ((fX12_tries v6.2.2.2.1).bind fun o16 =>
(ag v3.2.2.2 54 x9).bind fun x17 =>
(fX12_copies_partly N v6.2.2.1 o16 v3.2.2.1 ((40 : Int32) * x9) x17).bind fun o18 =>
(ag v6.2.2.2.2.2 648 x11).bind fun x19 =>
(fX12_isLess_bests N o18.1 o18.2 c_weights v6.2.2.2.2.1 ((40 : Int32) * x11) x19).bind fun x20 =>
if x20 = 0 then (k15 (v6.1, o18.1, o18.2, v6.2.2.2.2.1, v6.2.2.2.2.2)) else ((as_ v6.2.2.2.2.2 648 x11 o18.2).bind fun f21 =>
jn_ (fun (v22 : (Nat → Int32)) => k15 (1, o18.1, o18.2, v22, f21)) fun k23 =>
itr (bX12_mends_196 x11 o18 k23) N (0, v6.2.2.2.2.1))) else (k15 (v6.1, v6.2.2.1, v6.2.2.2.1, v6.2.2.2.2.1, v6.2.2.2.2.2)))
def bX12_mends_43 (N : Nat) (p1 : Int32) (c_rights : (Nat → Int32)) (c_input : (Nat → Int32)) (c_inputLong : Int32) (c_weights : (Nat → Int32)) (c_bests : (Nat → Int32)) (c_bestLongs : (Nat → Int32)) (v32 : Int32 × (Nat → Int32) × Int32 × (Nat → Int32) × (Nat → Int32)) (k37 : ((Nat → Int32) × Int32 × (Nat → Int32) × (Nat → Int32) → Option (Int32 × (Nat → Int32) × Int32 × (Nat → Int32) × (Nat → Int32) × (Nat → Int32) × (Nat → Int32)))) (rc39 : Int32 × (Nat → Int32) × Int32 × (Nat → Int32) × (Nat → Int32) → Option (Int32 × (Nat → Int32) × Int32 × (Nat → Int32) × (Nat → Int32) × (Nat → Int32) × (Nat → Int32))) (v38 : Int32 × (Nat → Int32) × Int32 × (Nat → Int32) × (Nat → Int32)) : Option (Int32 × (Nat → Int32) × Int32 × (Nat → Int32) × (Nat → Int32) × (Nat → Int32) × (Nat → Int32)) :=
if c_inputLong < v38.1 then (k37 (v38.2.1, v38.2.2.1, v38.2.2.2.1, v38.2.2.2.2)) else ((fX12_extends1 N c_rights v38.2.1 v38.2.2.1 c_input c_inputLong c_weights c_bests c_bestLongs v38.2.2.2.1 v38.2.2.2.2 p1 v32.1 v38.1).bind fun o40 =>
lt_ (v38.1 + 1) fun x41 =>
rc39 (x41, o40.1, o40.2.1, o40.2.2.1, o40.2.2.2))
def bX12_mends_30 (N : Nat) (p1 : Int32) (p2 : Int32) (c_sizes : (Nat → Int32)) (c_rights : (Nat → Int32)) (c_input : (Nat → Int32)) (c_inputLong : Int32) (c_weights : (Nat → Int32)) (c_bests : (Nat → Int32)) (c_bestLongs : (Nat → Int32)) (k31 : ((Nat → Int32) × Int32 × (Nat → Int32) × (Nat → Int32) → Option (Int32 × (Nat → Int32) × Int32 × (Nat → Int32) × (Nat → Int32) × (Nat → Int32) × (Nat → Int32)))) (rc33 : Int32 × (Nat → Int32) × Int32 × (Nat → Int32) × (Nat → Int32) → Option (Int32 × (Nat → Int32) × Int32 × (Nat → Int32) × (Nat → Int32) × (Nat → Int32) × (Nat → Int32))) (v32 : Int32 × (Nat → Int32) × Int32 × (Nat → Int32) × (Nat → Int32)) : Option (Int32 × (Nat → Int32) × Int32 × (Nat → Int32) × (Nat → Int32) × (Nat → Int32) × (Nat → Int32)) :=
(ag c_sizes 24 p1).bind fun x34 =>
if x34 ≤ v32.1 then (k31 (v32.2.1, v32.2.2.1, v32.2.2.2.1, v32.2.2.2.2)) else (jn_ (fun (v35 : (Nat → Int32) × Int32 × (Nat → Int32) × (Nat → Int32)) => lt_ (v32.1 + 1) fun x36 =>
rc33 (x36, v35.1, v35.2.1, v35.2.2.1, v35.2.2.2)) fun k37 =>
itr (bX12_mends_43 N p1 c_rights c_input c_inputLong c_weights c_bests c_bestLongs v32 k37) N (p2, v32.2.1, v32.2.2.1, v32.2.2.2.1, v32.2.2.2.2))
def bX12_mends_2 (k44 : ((Nat → Int32) → Option (Int32 × (Nat → Int32) × Int32 × (Nat → Int32) × (Nat → Int32) × (Nat → Int32) × (Nat → Int32)))) (rc46 : Int32 × (Nat → Int32) → Option (Int32 × (Nat → Int32) × Int32 × (Nat → Int32) × (Nat → Int32) × (Nat → Int32) × (Nat → Int32))) (v45 : Int32 × (Nat → Int32)) : Option (Int32 × (Nat → Int32) × Int32 × (Nat → Int32) × (Nat → Int32) × (Nat → Int32) × (Nat → Int32)) :=
if 54 ≤ v45.1 then (k44 v45.2) else ((as_ v45.2 54 v45.1 (-1)).bind fun f47 =>
lt_ (v45.1 + 1) fun x48 =>
rc46 (x48, f47))
def fX12_mends (N : Nat) (c_lefts : (Nat → Int32)) (c_sizes : (Nat → Int32)) (c_rights : (Nat → Int32)) (c_trial : (Nat → Int32)) (c_trialLong : Int32) (c_input : (Nat → Int32)) (c_inputLong : Int32) (c_weights : (Nat → Int32)) (c_bests : (Nat → Int32)) (c_bestLongs : (Nat → Int32)) (c_partly : (Nat → Int32)) (c_partlyLongs : (Nat → Int32)) (p1 : Int32) (p2 : Int32) : Option (Int32 × (Nat → Int32) × Int32 × (Nat → Int32) × (Nat → Int32) × (Nat → Int32) × (Nat → Int32)) :=
jn_ (fun (v1 : (Nat → Int32)) => (as_ v1 54 p2 0).bind fun f2 =>
jn_ (fun (v3 : (Nat → Int32) × Int32 × (Nat → Int32) × (Nat → Int32)) => jn_ (fun (v4 : Int32 × (Nat → Int32) × Int32 × (Nat → Int32) × (Nat → Int32)) => gz v4.1 (some (v4.1, v4.2.1, v4.2.2.1, v4.2.2.2.1, v4.2.2.2.2, v3.2.2.1, v3.2.2.2))) fun k5 =>
itr (bX12_mends_77 N p1 p2 c_lefts c_sizes c_inputLong c_weights v3 k5) N (0, p2, v3.1, v3.2.1, c_bests, c_bestLongs)) fun k31 =>
itr (bX12_mends_30 N p1 p2 c_sizes c_rights c_input c_inputLong c_weights c_bests c_bestLongs k31) N (0, c_trial, c_trialLong, c_partly, f2)) fun k44 =>
itr (bX12_mends_2 k44) N (0, c_partlyLongs)
def bX12_repair_126 (c_inputLong : Int32) (v2 : (Nat → Int32) × Int32 × (Nat → Int32) × (Nat → Int32) × (Nat → Int32) × (Nat → Int32)) (x4 : Int32) (k6 : ((Nat → Int32) → Option (Int32 × (Nat → Int32) × Int32 × (Nat → Int32) × (Nat → Int32) × (Nat → Int32) × (Nat → Int32) × (Nat → Int32) × Int32))) (rc8 : Int32 × (Nat → Int32) → Option (Int32 × (Nat → Int32) × Int32 × (Nat → Int32) × (Nat → Int32) × (Nat → Int32) × (Nat → Int32) × (Nat → Int32) × Int32)) (v7 : Int32 × (Nat → Int32)) : Option (Int32 × (Nat → Int32) × Int32 × (Nat → Int32) × (Nat → Int32) × (Nat → Int32) × (Nat → Int32) × (Nat → Int32) × Int32) :=
if x4 ≤ v7.1 then (k6 v7.2) else ((ag v2.2.2.1 25920 (((40 : Int32) * c_inputLong) + v7.1)).bind fun x9 =>
(as_ v7.2 40 v7.1 x9).bind fun f10 =>
lt_ (v7.1 + 1) fun x11 =>
rc8 (x11, f10))
def bX12_repair_54 (N : Nat) (c_lefts : (Nat → Int32)) (c_sizes : (Nat → Int32)) (c_rights : (Nat → Int32)) (c_input : (Nat → Int32)) (c_inputLong : Int32) (c_weights : (Nat → Int32)) (v18 : Int32 × Int32 × (Nat → Int32) × Int32 × (Nat → Int32) × (Nat → Int32) × (Nat → Int32) × (Nat → Int32)) (k22 : (Int32 × (Nat → Int32) × Int32 × (Nat → Int32) × (Nat → Int32) × (Nat → Int32) × (Nat → Int32) → Option (Int32 × (Nat → Int32) × Int32 × (Nat → Int32) × (Nat → Int32) × (Nat → Int32) × (Nat → Int32) × (Nat → Int32) × Int32))) (rc24 : Int32 × Int32 × (Nat → Int32) × Int32 × (Nat → Int32) × (Nat → Int32) × (Nat → Int32) × (Nat → Int32) → Option (Int32 × (Nat → Int32) × Int32 × (Nat → Int32) × (Nat → Int32) × (Nat → Int32) × (Nat → Int32) × (Nat → Int32) × Int32)) (v23 : Int32 × Int32 × (Nat → Int32) × Int32 × (Nat → Int32) × (Nat → Int32) × (Nat → Int32) × (Nat → Int32)) : Option (Int32 × (Nat → Int32) × Int32 × (Nat → Int32) × (Nat → Int32) × (Nat → Int32) × (Nat → Int32) × (Nat → Int32) × Int32) :=
if c_inputLong < v23.2.1 then (k22 (v23.1, v23.2.2.1, v23.2.2.2.1, v23.2.2.2.2.1, v23.2.2.2.2.2.1, v23.2.2.2.2.2.2.1, v23.2.2.2.2.2.2.2)) else ((fX12_mends N c_lefts c_sizes c_rights v23.2.2.1 v23.2.2.2.1 c_input c_inputLong c_weights v23.2.2.2.2.1 v23.2.2.2.2.2.1 v23.2.2.2.2.2.2.1 v23.2.2.2.2.2.2.2 v18.2.1 v23.2.1).bind fun o25 =>
jn_ (fun (v26 : Int32) => lt_ (v23.2.1 + 1) fun x27 =>
rc24 (v26, x27, o25.2.1, o25.2.2.1, o25.2.2.2.1, o25.2.2.2.2.1, o25.2.2.2.2.2.1, o25.2.2.2.2.2.2)) fun k28 =>
jn_ (fun (v29 : Unit) => k28 1) fun k30 =>
if o25.1 = 0 then (if v23.1 = 0 then (k28 0) else (k30 ())) else (k30 ()))
def bX12_repair_44 (N : Nat) (c_rules : Int32) (c_lefts : (Nat → Int32)) (c_sizes : (Nat → Int32)) (c_rights : (Nat → Int32)) (c_input : (Nat → Int32)) (c_inputLong : Int32) (c_weights : (Nat → Int32)) (k17 : (Int32 × (Nat → Int32) × Int32 × (Nat → Int32) × (Nat → Int32) × (Nat → Int32) × (Nat → Int32) → Option (Int32 × (Nat → Int32) × Int32 × (Nat → Int32) × (Nat → Int32) × (Nat → Int32) × (Nat → Int32) × (Nat → Int32) × Int32))) (rc19 : Int32 × Int32 × (Nat → Int32) × Int32 × (Nat → Int32) × (Nat → Int32) × (Nat → Int32) × (Nat → Int32) → Option (Int32 × (Nat → Int32) × Int32 × (Nat → Int32) × (Nat → Int32) × (Nat → Int32) × (Nat → Int32) × (Nat → Int32) × Int32)) (v18 : Int32 × Int32 × (Nat → Int32) × Int32 × (Nat → Int32) × (Nat → Int32) × (Nat → Int32) × (Nat → Int32)) : Option (Int32 × (Nat → Int32) × Int32 × (Nat → Int32) × (Nat → Int32) × (Nat → Int32) × (Nat → Int32) × (Nat → Int32) × Int32) :=
if c_rules ≤ v18.2.1 then (k17 (v18.1, v18.2.2.1, v18.2.2.2.1, v18.2.2.2.2.1, v18.2.2.2.2.2.1, v18.2.2.2.2.2.2.1, v18.2.2.2.2.2.2.2)) else (jn_ (fun (v20 : Int32 × (Nat → Int32) × Int32 × (Nat → Int32) × (Nat → Int32) × (Nat → Int32) × (Nat → Int32)) => lt_ (v18.2.1 + 1) fun x21 =>
rc19 (v20.1, x21, v20.2.1, v20.2.2.1, v20.2.2.2.1, v20.2.2.2.2.1, v20.2.2.2.2.2.1, v20.2.2.2.2.2.2)) fun k22 =>
itr (bX12_repair_54 N c_lefts c_sizes c_rights c_input c_inputLong c_weights v18 k22) N (v18.1, 0, v18.2.2.1, v18.2.2.2.1, v18.2.2.2.2.1, v18.2.2.2.2.2.1, v18.2.2.2.2.2.2.1, v18.2.2.2.2.2.2.2))
def bX12_repair_36 (N : Nat) (c_rules : Int32) (c_lefts : (Nat → Int32)) (c_sizes : (Nat → Int32)) (c_rights : (Nat → Int32)) (c_input : (Nat → Int32)) (c_inputLong : Int32) (c_weights : (Nat → Int32)) (k13 : ((Nat → Int32) × Int32 × (Nat → Int32) × (Nat → Int32) × (Nat → Int32) × (Nat → Int32) → Option (Int32 × (Nat → Int32) × Int32 × (Nat → Int32) × (Nat → Int32) × (Nat → Int32) × (Nat → Int32) × (Nat → Int32) × Int32))) (rc15 : Int32 × (Nat → Int32) × Int32 × (Nat → Int32) × (Nat → Int32) × (Nat → Int32) × (Nat → Int32) → Option (Int32 × (Nat → Int32) × Int32 × (Nat → Int32) × (Nat → Int32) × (Nat → Int32) × (Nat → Int32) × (Nat → Int32) × Int32)) (v14 : Int32 × (Nat → Int32) × Int32 × (Nat → Int32) × (Nat → Int32) × (Nat → Int32) × (Nat → Int32)) : Option (Int32 × (Nat → Int32) × Int32 × (Nat → Int32) × (Nat → Int32) × (Nat → Int32) × (Nat → Int32) × (Nat → Int32) × Int32) :=
if v14.1 = 0 then (k13 (v14.2.1, v14.2.2.1, v14.2.2.2.1, v14.2.2.2.2.1, v14.2.2.2.2.2.1, v14.2.2.2.2.2.2)) else (jn_ (fun (v16 : Int32 × (Nat → Int32) × Int32 × (Nat → Int32) × (Nat → Int32) × (Nat → Int32) × (Nat → Int32)) => rc15 (v16.1, v16.2.1, v16.2.2.1, v16.2.2.2.1, v16.2.2.2.2.1, v16.2.2.2.2.2.1, v16.2.2.2.2.2.2)) fun k17 =>
itr (bX12_repair_44 N c_rules c_lefts c_sizes c_rights c_input c_inputLong c_weights k17) N (0, 0, v14.2.1, v14.2.2.1, v14.2.2.2.1, v14.2.2.2.2.1, v14.2.2.2.2.2.1, v14.2.2.2.2.2.2))
def bX12_repair_14 (k34 : ((Nat → Int32) → Option (Int32 × (Nat → Int32) × Int32 × (Nat → Int32) × (Nat → Int32) × (Nat → Int32) × (Nat → Int32) × (Nat → Int32) × Int32))) (rc36 : Int32 × (Nat → Int32) → Option (Int32 × (Nat → Int32) × Int32 × (Nat → Int32) × (Nat → Int32) × (Nat → Int32) × (Nat → Int32) × (Nat → Int32) × Int32)) (v35 : Int32 × (Nat → Int32)) : Option (Int32 × (Nat → Int32) × Int32 × (Nat → Int32) × (Nat → Int32) × (Nat → Int32) × (Nat → Int32) × (Nat → Int32) × Int32) :=
if 648 ≤ v35.1 then (k34 v35.2) else ((as_ v35.2 648 v35.1 (-1)).bind fun f37 =>
lt_ (v35.1 + 1) fun x38 =>
rc36 (x38, f37))
def fX12_repair (N : Nat) (c_rules : Int32) (c_lefts : (Nat → Int32)) (c_sizes : (Nat → Int32)) (c_rights : (Nat → Int32)) (c_trial : (Nat → Int32)) (c_trialLong : Int32) (c_input : (Nat → Int32)) (c_inputLong : Int32) (c_weights : (Nat → Int32)) (c_bests : (Nat → Int32)) (c_bestLongs : (Nat → Int32)) (c_partly : (Nat → Int32)) (c_partlyLongs : (Nat → Int32)) (c_repaired : (Nat → Int32)) (c_repairedLong : Int32) : Option (Int32 × (Nat → Int32) × Int32 × (Nat → Int32) × (Nat → Int32) × (Nat → Int32) × (Nat → Int32) × (Nat → Int32) × Int32) :=
if c_inputLong ≤ 8 then (jn_ (fun (v1 : (Nat → Int32)) => jn_ (fun (v2 : (Nat → Int32) × Int32 × (Nat → Int32) × (Nat → Int32) × (Nat → Int32) × (Nat → Int32)) => (ag v2.2.2.2.1 648 c_inputLong).bind fun x3 =>
if 0 ≤ x3 then ((ag v2.2.2.2.1 648 c_inputLong).bind fun x4 =>
jn_ (fun (v5 : (Nat → Int32)) => some ((x4 - c_inputLong), v2.1, v2.2.1, v2.2.2.1, v2.2.2.2.1, v2.2.2.2.2.1, v2.2.2.2.2.2, v5, x4)) fun k6 =>
itr (bX12_repair_126 c_inputLong v2 x4 k6) N (0, c_repaired)) else (some ((-2), v2.1, v2.2.1, v2.2.2.1, v2.2.2.2.1, v2.2.2.2.2.1, v2.2.2.2.2.2, c_repaired, c_repairedLong))) fun k13 =>
itr (bX12_repair_36 N c_rules c_lefts c_sizes c_rights c_input c_inputLong c_weights k13) N (1, c_trial, c_trialLong, c_bests, v1, c_partly, c_partlyLongs)) fun k34 =>
itr (bX12_repair_14 k34) N (0, c_bestLongs)) else (some ((-6), c_trial, c_trialLong, c_bests, c_bestLongs, c_partly, c_partlyLongs, c_repaired, c_repairedLong))
def fX12_repairedTerminal (c_repaired : (Nat → Int32)) (c_repairedLong : Int32) (p1 : Int32) : Option (Int32) :=
(fX12_in p1 0 (c_repairedLong - (1 : Int32))).bind fun x1 =>
jn_ (fun (v2 : Int32) => some v2) fun k3 =>
if x1 = 0 then (k3 (-2)) else ((ag c_repaired 40 p1).bind fun x4 =>
k3 x4)
