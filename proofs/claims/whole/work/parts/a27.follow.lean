/-! FOLLOW SETS, the class's way -/
/-- what stands behind a place: of the rest r of a right side whose left side is followed by b -/
def bh (E : Int32) (F : Nat → Int32) (b : Int32) : List Nat → Int32
  | [] => b
  | s :: r => if nb E s = true then bh E F b r ||| fo F s else fo F s
theorem bh_eq (E : Int32) (F : Nat → Int32) (b : Int32) : ∀ r, bh E F b r = frst E F r ||| (if van E r = true then b else 0)
  | [] => by simp [bh, frst, van]
  | s :: r => by
    have ih := bh_eq E F b r
    simp only [bh, frst]
    have hv : van E (s :: r) = (nb E s && van E r) := by simp [van]
    cases hb : nb E s with
    | false => rw [hv, hb]; simp
    | true =>
      rw [hv, hb, if_pos rfl, if_pos rfl, ih, Bool.true_and]
      rw [Int32.or_comm, ← Int32.or_assoc]
/-- one production: the symbols from the end to place i on, from i = length down -/
def spI (E : Int32) (F : Nat → Int32) (w : List Nat) (b : Int32) (i : Nat) (W : Nat → Int32) : Nat → Int32 := if sy w i < 10 then W else upd W (sy w i - 10) (W (sy w i - 10) ||| bh E F b (w.drop (i + 1)))
def spD (E : Int32) (F : Nat → Int32) (w : List Nat) (b : Int32) (i : Nat) (W : Nat → Int32) : Bool := !(decide (sy w i < 10)) && !(decide (W (sy w i - 10) ||| bh E F b (w.drop (i + 1)) = W (sy w i - 10)))
def spN (E : Int32) (F : Nat → Int32) (w : List Nat) (b : Int32) (W : Nat → Int32) : Nat → (Nat → Int32)
  | 0 => W
  | j + 1 => spI E F w b (w.length - (j + 1)) (spN E F w b W j)
def spC (E : Int32) (F : Nat → Int32) (w : List Nat) (b : Int32) (W : Nat → Int32) : Nat → Bool
  | 0 => false
  | j + 1 => spC E F w b W j || spD E F w b (w.length - (j + 1)) (spN E F w b W j)
theorem and_not_zero_iff (x y : Int32) : (x &&& (y ^^^ ((-1) : Int32))) = 0 ↔ y ||| x = y := by
  rw [Int32.xor_neg_one]
  have e1 : (x &&& ~~~y = 0) ↔ (x.toBitVec &&& ~~~y.toBitVec = 0#32) := by rw [← Int32.toBitVec_inj]; rfl
  have e2 : (y ||| x = y) ↔ (y.toBitVec ||| x.toBitVec = y.toBitVec) := by rw [← Int32.toBitVec_inj]; rfl
  rw [e1, e2]
  constructor
  · intro h
    apply BitVec.eq_of_getLsbD_eq
    intro i hi
    have h1 := congrArg (fun z : BitVec 32 => z.getLsbD i) h
    simp only [BitVec.getLsbD_and, BitVec.getLsbD_not, BitVec.getLsbD_zero] at h1
    rw [BitVec.getLsbD_or]
    cases hx : x.toBitVec.getLsbD i <;> cases hy : y.toBitVec.getLsbD i <;> simp_all
  · intro h
    apply BitVec.eq_of_getLsbD_eq
    intro i hi
    have h1 := congrArg (fun z : BitVec 32 => z.getLsbD i) h
    simp only [BitVec.getLsbD_or] at h1
    rw [BitVec.getLsbD_and, BitVec.getLsbD_not, BitVec.getLsbD_zero]
    cases hx : x.toBitVec.getLsbD i <;> cases hy : y.toBitVec.getLsbD i <;> simp_all
theorem c_spreadStep {q : gP} (hq : okP q) (E : Int32) (F W : Nat → Int32) {i : Nat} (hi : i < q.2.length) (c : Bool) (b : Int32) (k : Int32 → (Nat → Int32) → Option (Int32 × (Nat → Int32))) (rc : Int32 → Int32 → Int32 → (Nat → Int32) → Option (Int32 × (Nat → Int32))) : bX7_spreadFollow_20 (nI (enc q)) E F k rc (b01 c) b (nI i) W = rc (b01 (c || (!(decide (sy q.2 i < 10)) && !(decide (W (sy q.2 i - 10) ||| b = W (sy q.2 i - 10)))))) (if nb E (sy q.2 i) = true then b ||| fo F (sy q.2 i) else fo F (sy q.2 i)) (nI i + (-1)) (if sy q.2 i < 10 then W else upd W (sy q.2 i - 10) (W (sy q.2 i - 10) ||| b)) := by
  have hl := hq.2.1
  have hok := okP_sy hq hi
  have h18 := okS_lt hok
  simp only [bX7_spreadFollow_20]
  rw [if_neg (nI_pos (by omega)), c_symbolOf hq hi]
  simp only [obs, jn_, jn2, lt_, c_isNullable E h18, c_firstOf F hok]
  generalize sy q.2 i = s at *
  have fin : ∀ (c' : Int32) (W' : Nat → Int32), (if b01 (nb E s) = 0 then rc c' (fo F s) (nI i + (-1)) W' else rc c' (b ||| fo F s) (nI i + (-1)) W') = rc c' (if nb E s = true then b ||| fo F s else fo F s) (nI i + (-1)) W' := by
    intro c' W'
    cases nb E s <;> rfl
  simp only [fin]
  by_cases h10 : s < 10
  · rw [if_pos (lt10 h10), if_pos h10]
    simp [h10]
  · rw [if_neg (nlt10 h10 h18), if_neg h10, sub10 h10]
    simp only [ag_ok (show s - 10 < 8 by omega), as_ok (show s - 10 < 8 by omega), obs]
    cases c with
    | true => simp [b01]
    | false =>
      rw [if_pos (by rfl)]
      by_cases e : W (s - 10) ||| b = W (s - 10)
      · rw [if_pos ((and_not_zero_iff _ _).mpr e)]
        simp [e, b01]
      · rw [if_neg (fun h => e ((and_not_zero_iff _ _).mp h))]
        simp [e, h10, b01]
theorem nI_m1 {n j : Nat} : nI n - nI (j + 1) + (-1) = nI n - nI (j + 1 + 1) := by
  have e : nI (j + 1 + 1) = nI (j + 1) + 1 := nI_succ _
  rw [e]
  generalize nI n = a
  generalize nI (j + 1) = b
  rw [Int32.sub_eq_add_neg, Int32.sub_eq_add_neg, Int32.neg_add, Int32.sub_eq_add_neg, Int32.add_assoc]
theorem c_spread {q : gP} (hq : okP q) (E : Int32) (F W : Nat → Int32) {N : Nat} (hN : 30 < N) : fX7_spreadFollow N E F W (nI (enc q)) = some (b01 (spC E F q.2 (W q.1) W q.2.length), spN E F q.2 (W q.1) W q.2.length) := by
  have hl := hq.2.1
  have h8 := hq.1
  simp only [fX7_spreadFollow, c_leftOf hq, obs, ag_ok h8, c_lengthOf hq, lt_, jn2]
  have hs := itr4_seq (B := bX7_spreadFollow_20 (nI (enc q)) E F (fun v5 v6 => gz v5 (some (v5, v6)))) (fun j => b01 (spC E F q.2 (W q.1) W j)) (fun j => bh E F (W q.1) (q.2.drop (q.2.length - j))) (fun j => nI q.2.length - nI (j + 1)) (fun j => spN E F q.2 (W q.1) W j) q.2.length N (by omega) ?_ (r := some (b01 (spC E F q.2 (W q.1) W q.2.length), spN E F q.2 (W q.1) W q.2.length)) ?_
  · have z0 : b01 (spC E F q.2 (W q.1) W 0) = 0 := rfl
    have z1 : bh E F (W q.1) (q.2.drop (q.2.length - 0)) = W q.1 := by rw [Nat.sub_zero, List.drop_length]; rfl
    have z2 : nI q.2.length - nI (0 + 1) = nI q.2.length - 1 := rfl
    have z3 : spN E F q.2 (W q.1) W 0 = W := rfl
    simp only [z0, z1, z2, z3] at hs
    exact hs
  · intro j hj rc
    have e1 : nI q.2.length - nI (j + 1) = nI (q.2.length - (j + 1)) := pk_sub (by omega)
    have hi : q.2.length - (j + 1) < q.2.length := by omega
    have hd : q.2.drop (q.2.length - (j + 1)) = sy q.2 (q.2.length - (j + 1)) :: q.2.drop (q.2.length - j) := by
      rw [drop_cons hi]; congr 2; omega
    have hd2 : q.2.length - (j + 1) + 1 = q.2.length - j := by omega
    show bX7_spreadFollow_20 (nI (enc q)) E F (fun v5 v6 => gz v5 (some (v5, v6))) rc (b01 (spC E F q.2 (W q.1) W j)) (bh E F (W q.1) (q.2.drop (q.2.length - j))) (nI q.2.length - nI (j + 1)) (spN E F q.2 (W q.1) W j) = _
    rw [e1, c_spreadStep hq E F _ hi, ← e1, nI_m1]
    simp only [spC, spN, spD, spI, hd2, hd, bh]
  · intro rc
    show bX7_spreadFollow_20 (nI (enc q)) E F (fun v5 v6 => gz v5 (some (v5, v6))) rc (b01 (spC E F q.2 (W q.1) W q.2.length)) (bh E F (W q.1) (q.2.drop (q.2.length - q.2.length))) (nI q.2.length - nI (q.2.length + 1)) (spN E F q.2 (W q.1) W q.2.length) = _
    have e1 : nI q.2.length - nI (q.2.length + 1) < 0 := pk_sneg (by omega) (by omega)
    simp only [bX7_spreadFollow_20]
    rw [if_pos e1]
    unfold gz
    rw [if_pos (b01_01 _)]
