def lP32 (N : Nat) (xs : Nat → Int32) (rc : Int32 × LC × LM → Option Unit) (i : Int32) (a : LC) (m : LM) : Option Unit :=
  (fX11_recover N (LC.codes a) (LC.count a) (LC.W a) (LC.ps a) (LC.lo a) (LC.tm a) (LC.il a) (LC.sy0 a) (LC.ta a) (LC.tn a) (LC.tc0 a) (LC.ep a) (LC.en a) (LC.sk a) (LC.br a) (LC.dp a) (LC.ix a) (LC.sp a)).bind fun o =>
  (fX12_recover N (LM.rules m) (LM.lefts m) (LM.sizes m) (LM.rights m) (LM.iw m) (LM.e m) (LM.f m) (LM.w m) (LM.st m) (LM.lg m) (LM.tr m) (LM.tl m) (LM.ms m) (LM.mi m) (LM.ml m) (LM.ks m) (LM.kp m) (LM.top m) (LM.at0 m) (LM.stp m) (LM.trd m) (LM.trs m) (LM.nds m) (LM.mde m) (LM.nsy m) (LM.npa m) (LM.ers m) (LM.era m) (LM.erk m) (LM.ert m)).bind fun o' =>
  if o.1 = o'.1 then rc (i + 7, LC.mk (LC.count a) (LC.codes a) (LC.nw a) (LC.sz a) (LC.sn a) (LC.sc a) (LC.E a) (LC.F a) (LC.W a) (LC.bg a) (LC.E0 a) (LC.F0 a) (LC.W0 a) (LC.cf a) (LC.se a) (LC.ps a) (LC.lo a) (LC.fl a) (LC.fc a) (LC.fd a) (LC.il a) (LC.tm a) o.2.2.1 o.2.2.2.2.2.1 o.2.2.2.2.2.2.2.2.1 o.2.2.2.2.2.2.2.2.2.1 o.2.2.2.2.2.2.2.2.2.2 (LC.sy0 a) o.2.1 o.2.2.2.1 (LC.ts a) (LC.tp a) (LC.th a) o.2.2.2.2.1 o.2.2.2.2.2.2.1 o.2.2.2.2.2.2.2.1 (LC.pk a) (LC.key a) (LC.c a) (LC.h a) (LC.l a) (LC.cw a) (LC.rc0 a) (LC.rh a) (LC.rl a), LM.mk (LM.rules m) (LM.ed m) (LM.lv m) o'.2.1 o'.2.2.1 (LM.ik m) (LM.ke m) o'.2.2.2.2.2.2.2.2.1 (LM.fn0 m) (LM.ft0 m) (LM.fp0 m) (LM.fq0 m) (LM.ml m) o'.2.2.2.2.2.2.2.2.2.2.2.1 o'.2.2.2.2.2.2.2.2.2.2.2.2.1 o'.2.2.2.2.2.2.2.2.2.2.2.2.2.1 o'.2.2.2.2.2.2.2.2.2.2.2.2.2.2.1 o'.2.2.2.2.2.2.2.2.2.2.2.2.2.2.2.2.1 o'.2.2.2.2.2.2.2.2.2.2.2.2.2.2.2.2.2.1 o'.2.2.2.2.2.2.2.2.2.2.2.2.2.2.2.2.2.2.2.2.1 (LM.rlg m) (LM.lefts m) (LM.sizes m) (LM.rights m) (LM.pr m) (LM.pl m) (LM.pz m) (LM.pg m) (LM.mc m) (LM.md m) (LM.asked m) o'.2.2.2.1 o'.2.2.2.2.1 (LM.kf m) (LM.kw m) o'.2.2.2.2.2.1 o'.2.2.2.2.2.2.1 o'.2.2.2.2.2.2.2.1 (LM.mv m) (LM.mz m) (LM.ms m) (LM.mi m) o'.2.2.2.2.2.2.2.2.2.1 o'.2.2.2.2.2.2.2.2.2.2.1 o'.2.2.2.2.2.2.2.2.2.2.2.2.2.2.2.1 o'.2.2.2.2.2.2.2.2.2.2.2.2.2.2.2.2.2.2.1 o'.2.2.2.2.2.2.2.2.2.2.2.2.2.2.2.2.2.2.2.1 o'.2.2.2.2.2.2.2.2.2.2.2.2.2.2.2.2.2.2.2.2.2.1 o'.2.2.2.2.2.2.2.2.2.2.2.2.2.2.2.2.2.2.2.2.2.2.1 o'.2.2.2.2.2.2.2.2.2.2.2.2.2.2.2.2.2.2.2.2.2.2.2 (LM.mw m) (LM.be m) (LM.bl m) (LM.pt m) (LM.pl0 m) (LM.rp m)) else none
set_option maxHeartbeats 4000000 in
set_option maxRecDepth 100000 in
/-- the law's case 32: recover -/
theorem lc32 (X : jC) {tc : jTC} {b L N : Nat} {xs : Nat → Int32} {q : Nat → Nat} (C : jx X cL_law 4 RL ret tc room_1) (hX : lwX X b L xs) {Q : Unit → State → Prop} (rc : Int32 × LC × LM → Option Unit) (hrc : ∀ i a m, jo X 4 (99, 42625) Q (rc (i, a, m)) (wL tc q a m) 18 [(0, .ref b), (1, .ref (q 0)), (2, .ref (q 63)), (3, .int i)] []) (i : Int32) (hi : lwI i L) (a : LC) (m : LM) : jo X 4 (99, 42625) Q (lP32 N xs rc i a m) (wL tc q a m) 1020 [(0, .ref b), (1, .ref (q 0)), (2, .ref (q 63)), (3, .int i)] [] := by
  unfold lP32
  refine j_aload C dL_1020 1 rfl ?_
  refine j_callVIk (As := []) C dL_1021 mvL_146 (kX11_recover _ _ tc N (q 0) (q 1) (q 2) (q 25) (q 27) (q 33) (q 35) (q 36) (q 40) (q 41) (q 42) (q 43) (q 44) (q 45) (q 49) (q 50) (q 51) (.ref (q 3)) (.ref (q 29)) (.ref (q 37)) (.ref (q 52)) (.ref (q 57)) (.int (LC.E a)) (.ref (q 26)) (.ref (q 28)) (.ref (q 34)) (.int (LC.cf a)) (.ref (q 46)) (.ref (q 47)) (.ref (q 48)) (LC.codes a) (LC.count a) (LC.W a) (LC.ps a) (LC.lo a) (LC.tm a) (LC.il a) (LC.sy0 a) (LC.ta a) (LC.tn a) (LC.tc0 a) (LC.ep a) (LC.en a) (LC.sk a) (LC.br a) (LC.dp a) (LC.ix a) (LC.sp a)) ⟨rfl, rfl, (Nat.le_of_ble_eq_true rfl), (Nat.le_of_ble_eq_true rfl)⟩ rfl 0 rfl [0, 1, 2, 25, 27, 33, 35, 36, 40, 41, 42, 43, 44, 45, 49, 50, 51] rfl rfl rfl (Nat.le_of_ble_eq_true rfl) ⟨(Nat.le_of_ble_eq_true rfl), (Nat.le_of_ble_eq_true rfl)⟩ (fun u => wL tc q (LC.mk (LC.count a) (LC.codes a) (LC.nw a) (LC.sz a) (LC.sn a) (LC.sc a) (LC.E a) (LC.F a) (LC.W a) (LC.bg a) (LC.E0 a) (LC.F0 a) (LC.W0 a) (LC.cf a) (LC.se a) (LC.ps a) (LC.lo a) (LC.fl a) (LC.fc a) (LC.fd a) (LC.il a) (LC.tm a) u.2.1 u.2.2.2.2.1 u.2.2.2.2.2.2.2.1 u.2.2.2.2.2.2.2.2.1 u.2.2.2.2.2.2.2.2.2 (LC.sy0 a) u.1 u.2.2.1 (LC.ts a) (LC.tp a) (LC.th a) u.2.2.2.1 u.2.2.2.2.2.1 u.2.2.2.2.2.2.1 (LC.pk a) (LC.key a) (LC.c a) (LC.h a) (LC.l a) (LC.cw a) (LC.rc0 a) (LC.rh a) (LC.rl a)) m) [(true, 0), (true, 1), (true, 2), (false, 3), (false, 4), (false, 5), (false, 6), (false, 7), (false, 8), (false, 9), (false, 10), (false, 11), (false, 12), (false, 13), (false, 14), (false, 15), (false, 16), (false, 17), (false, 18), (false, 19), (false, 20), (false, 21), (false, 22), (false, 23), (false, 24), (true, 3), (false, 26), (true, 4), (false, 28), (false, 29), (false, 30), (false, 31), (false, 32), (true, 5), (false, 34), (true, 6), (true, 7), (false, 37), (false, 38), (false, 39), (true, 8), (true, 9), (true, 10), (true, 11), (true, 12), (true, 13), (false, 46), (false, 47), (false, 48), (true, 14), (true, 15), (true, 16), (false, 52), (false, 53), (false, 54), (false, 55), (false, 56), (false, 57), (false, 58), (false, 59), (false, 60), (false, 61), (false, 62), (false, 63), (false, 64), (false, 65), (false, 66), (false, 67), (false, 68), (false, 69), (false, 70), (false, 71), (false, 72), (false, 73), (false, 74), (false, 75), (false, 76), (false, 77), (false, 78), (false, 79), (false, 80), (false, 81), (false, 82), (false, 83), (false, 84), (false, 85), (false, 86), (false, 87), (false, 88), (false, 89), (false, 90), (false, 91), (false, 92), (false, 93), (false, 94), (false, 95), (false, 96), (false, 97), (false, 98)] (fun _ => rfl) rfl (fun o => ?_)
  refine j_aload C dL_1024 2 rfl ?_
  refine j_callVIk (As := []) C dL_1025 mvL_149 (kX12_recover _ _ tc N (q 63) (q 64) (q 65) (q 66) (q 74) (q 75) (q 78) (q 79) (q 80) (q 83) (q 84) (q 85) (q 86) (q 87) (q 88) (q 89) (q 90) (q 91) (q 92) (.int (LM.ed m)) (.ref (q 67)) (.ref (q 68)) (.ref (q 69)) (.ref (q 70)) (.int (LM.lv m)) (.ref (q 71)) (.ref (q 72)) (.ref (q 73)) (.int (LM.ik m)) (.int (LM.ke m)) (.ref (q 76)) (.ref (q 77)) (.int (LM.fn0 m)) (.int (LM.ft0 m)) (.int (LM.fp0 m)) (.int (LM.fq0 m)) (.ref (q 81)) (.ref (q 82)) (.ref (q 93)) (.ref (q 94)) (.ref (q 95)) (.ref (q 96)) (.ref (q 97)) (.ref (q 98)) (.int (LM.rlg m)) (LM.rules m) (LM.lefts m) (LM.sizes m) (LM.rights m) (LM.iw m) (LM.e m) (LM.f m) (LM.w m) (LM.st m) (LM.lg m) (LM.tr m) (LM.tl m) (LM.ms m) (LM.mi m) (LM.ml m) (LM.ks m) (LM.kp m) (LM.top m) (LM.at0 m) (LM.stp m) (LM.trd m) (LM.trs m) (LM.nds m) (LM.mde m) (LM.nsy m) (LM.npa m) (LM.ers m) (LM.era m) (LM.erk m) (LM.ert m)) ⟨rfl, rfl, (Nat.le_of_ble_eq_true rfl), (Nat.le_of_ble_eq_true rfl)⟩ rfl 63 rfl [63, 64, 65, 66, 74, 75, 78, 79, 80, 83, 84, 85, 86, 87, 88, 89, 90, 91, 92] rfl rfl rfl (Nat.le_of_ble_eq_true rfl) ⟨(Nat.le_of_ble_eq_true rfl), (Nat.le_of_ble_eq_true rfl)⟩ (fun u => wL tc q (LC.mk (LC.count a) (LC.codes a) (LC.nw a) (LC.sz a) (LC.sn a) (LC.sc a) (LC.E a) (LC.F a) (LC.W a) (LC.bg a) (LC.E0 a) (LC.F0 a) (LC.W0 a) (LC.cf a) (LC.se a) (LC.ps a) (LC.lo a) (LC.fl a) (LC.fc a) (LC.fd a) (LC.il a) (LC.tm a) o.2.2.1 o.2.2.2.2.2.1 o.2.2.2.2.2.2.2.2.1 o.2.2.2.2.2.2.2.2.2.1 o.2.2.2.2.2.2.2.2.2.2 (LC.sy0 a) o.2.1 o.2.2.2.1 (LC.ts a) (LC.tp a) (LC.th a) o.2.2.2.2.1 o.2.2.2.2.2.2.1 o.2.2.2.2.2.2.2.1 (LC.pk a) (LC.key a) (LC.c a) (LC.h a) (LC.l a) (LC.cw a) (LC.rc0 a) (LC.rh a) (LC.rl a)) (LM.mk (LM.rules m) (LM.ed m) (LM.lv m) u.1 u.2.1 (LM.ik m) (LM.ke m) u.2.2.2.2.2.2.2.1 (LM.fn0 m) (LM.ft0 m) (LM.fp0 m) (LM.fq0 m) (LM.ml m) u.2.2.2.2.2.2.2.2.2.2.1 u.2.2.2.2.2.2.2.2.2.2.2.1 u.2.2.2.2.2.2.2.2.2.2.2.2.1 u.2.2.2.2.2.2.2.2.2.2.2.2.2.1 u.2.2.2.2.2.2.2.2.2.2.2.2.2.2.2.1 u.2.2.2.2.2.2.2.2.2.2.2.2.2.2.2.2.1 u.2.2.2.2.2.2.2.2.2.2.2.2.2.2.2.2.2.2.2.1 (LM.rlg m) (LM.lefts m) (LM.sizes m) (LM.rights m) (LM.pr m) (LM.pl m) (LM.pz m) (LM.pg m) (LM.mc m) (LM.md m) (LM.asked m) u.2.2.1 u.2.2.2.1 (LM.kf m) (LM.kw m) u.2.2.2.2.1 u.2.2.2.2.2.1 u.2.2.2.2.2.2.1 (LM.mv m) (LM.mz m) (LM.ms m) (LM.mi m) u.2.2.2.2.2.2.2.2.1 u.2.2.2.2.2.2.2.2.2.1 u.2.2.2.2.2.2.2.2.2.2.2.2.2.2.1 u.2.2.2.2.2.2.2.2.2.2.2.2.2.2.2.2.2.1 u.2.2.2.2.2.2.2.2.2.2.2.2.2.2.2.2.2.2.1 u.2.2.2.2.2.2.2.2.2.2.2.2.2.2.2.2.2.2.2.2.1 u.2.2.2.2.2.2.2.2.2.2.2.2.2.2.2.2.2.2.2.2.2.1 u.2.2.2.2.2.2.2.2.2.2.2.2.2.2.2.2.2.2.2.2.2.2 (LM.mw m) (LM.be m) (LM.bl m) (LM.pt m) (LM.pl0 m) (LM.rp m))) [(false, 0), (false, 1), (false, 2), (false, 3), (false, 4), (false, 5), (false, 6), (false, 7), (false, 8), (false, 9), (false, 10), (false, 11), (false, 12), (false, 13), (false, 14), (false, 15), (false, 16), (false, 17), (false, 18), (false, 19), (false, 20), (false, 21), (false, 22), (false, 23), (false, 24), (false, 25), (false, 26), (false, 27), (false, 28), (false, 29), (false, 30), (false, 31), (false, 32), (false, 33), (false, 34), (false, 35), (false, 36), (false, 37), (false, 38), (false, 39), (false, 40), (false, 41), (false, 42), (false, 43), (false, 44), (false, 45), (false, 46), (false, 47), (false, 48), (false, 49), (false, 50), (false, 51), (false, 52), (false, 53), (false, 54), (false, 55), (false, 56), (false, 57), (false, 58), (false, 59), (false, 60), (false, 61), (false, 62), (true, 0), (true, 1), (true, 2), (true, 3), (false, 67), (false, 68), (false, 69), (false, 70), (false, 71), (false, 72), (false, 73), (true, 4), (true, 5), (false, 76), (false, 77), (true, 6), (true, 7), (true, 8), (false, 81), (false, 82), (true, 9), (true, 10), (true, 11), (true, 12), (true, 13), (true, 14), (true, 15), (true, 16), (true, 17), (true, 18), (false, 93), (false, 94), (false, 95), (false, 96), (false, 97), (false, 98)] (fun _ => rfl) rfl (fun o' => ?_)
  refine j_icmp_eq C dL_1028 ?_ ?_
  · exact j_lnext C (hrc _ _ _)
  · exact j_none
def lP33 (N : Nat) (xs : Nat → Int32) (rc : Int32 × LC × LM → Option Unit) (i : Int32) (a : LC) (m : LM) : Option Unit :=
  (fX11_error (LC.ep a) (LC.en a) (xs (i + 1).toNatClampNeg) (xs (i + 2).toNatClampNeg)).bind fun o =>
  (fX12_error (LM.ers m) (LM.era m) (LM.erk m) (LM.ert m) (xs (i + 1).toNatClampNeg) (xs (i + 2).toNatClampNeg)).bind fun o' =>
  if o = o' then rc (i + 7, a, m) else none
set_option maxHeartbeats 4000000 in
set_option maxRecDepth 100000 in
/-- the law's case 33: error -/
theorem lc33 (X : jC) {tc : jTC} {b L N : Nat} {xs : Nat → Int32} {q : Nat → Nat} (C : jx X cL_law 4 RL ret tc room_1) (hX : lwX X b L xs) {Q : Unit → State → Prop} (rc : Int32 × LC × LM → Option Unit) (hrc : ∀ i a m, jo X 4 (99, 42625) Q (rc (i, a, m)) (wL tc q a m) 18 [(0, .ref b), (1, .ref (q 0)), (2, .ref (q 63)), (3, .int i)] []) (i : Int32) (hi : lwI i L) (a : LC) (m : LM) : jo X 4 (99, 42625) Q (lP33 N xs rc i a m) (wL tc q a m) 1033 [(0, .ref b), (1, .ref (q 0)), (2, .ref (q 63)), (3, .int i)] [] := by
  unfold lP33
  refine j_aload C dL_1033 1 rfl ?_
  refine j_aload C dL_1034 0 rfl ?_
  refine j_iload C dL_1035 3 rfl ?_
  refine j_const C dL_1036 ?_
  refine j_iadd C dL_1037 ?_
  refine j_sld C hX dL_1038 hi.2.1 ?_
  refine j_aload C dL_1039 0 rfl ?_
  refine j_iload C dL_1040 3 rfl ?_
  refine j_const C dL_1041 ?_
  refine j_iadd C dL_1042 ?_
  refine j_sld C hX dL_1043 hi.2.2.1 ?_
  refine j_callVI0k (As := [.int (xs (i + 1).toNatClampNeg), .int (xs (i + 2).toNatClampNeg)]) C dL_1044 mvL_150 (kX11_error _ _ tc (q 0) (q 42) (q 49) (.ref (q 1)) (.ref (q 3)) (.ref (q 25)) (.ref (q 29)) (.ref (q 33)) (.ref (q 37)) (.ref (q 40)) (.ref (q 52)) (.ref (q 57)) (.ref (q 1)) (.ref (q 25)) (.ref (q 33)) (.ref (q 40)) (.ref (q 43)) (.ref (q 44)) (.int (LC.tn a)) (.ref (q 45)) (.ref (q 50)) (.ref (q 51)) (.int (LC.dp a)) (.int (LC.ix a)) (.int (LC.sp a)) (LC.ep a) (LC.en a) (xs (i + 1).toNatClampNeg) (xs (i + 2).toNatClampNeg)) ⟨rfl, rfl, (Nat.le_of_ble_eq_true rfl), (Nat.le_of_ble_eq_true rfl)⟩ rfl 0 rfl [0, 42, 49] rfl rfl rfl (Nat.le_of_ble_eq_true rfl) ⟨(Nat.le_of_ble_eq_true rfl), (Nat.le_of_ble_eq_true rfl)⟩ (fun o => ?_)
  refine j_aload C dL_1047 2 rfl ?_
  refine j_aload C dL_1048 0 rfl ?_
  refine j_iload C dL_1049 3 rfl ?_
  refine j_const C dL_1050 ?_
  refine j_iadd C dL_1051 ?_
  refine j_sld C hX dL_1052 hi.2.1 ?_
  refine j_aload C dL_1053 0 rfl ?_
  refine j_iload C dL_1054 3 rfl ?_
  refine j_const C dL_1055 ?_
  refine j_iadd C dL_1056 ?_
  refine j_sld C hX dL_1057 hi.2.2.1 ?_
  refine j_callVI0k (As := [.int (xs (i + 1).toNatClampNeg), .int (xs (i + 2).toNatClampNeg)]) C dL_1058 mvL_153 (kX12_error _ _ tc (q 63) (q 90) (q 91) (q 92) (.int (LM.rules m)) (.ref (q 64)) (.ref (q 65)) (.ref (q 66)) (.int (LM.ed m)) (.ref (q 67)) (.ref (q 68)) (.ref (q 69)) (.ref (q 70)) (.int (LM.lv m)) (.ref (q 71)) (.ref (q 72)) (.ref (q 73)) (.int (LM.iw m)) (.int (LM.e m)) (.ref (q 74)) (.ref (q 75)) (.int (LM.ik m)) (.int (LM.ke m)) (.ref (q 76)) (.ref (q 77)) (.ref (q 78)) (.ref (q 79)) (.ref (q 80)) (.int (LM.tl m)) (.int (LM.fn0 m)) (.int (LM.ft0 m)) (.int (LM.fp0 m)) (.int (LM.fq0 m)) (.ref (q 81)) (.ref (q 82)) (.ref (q 83)) (.ref (q 84)) (.int (LM.ml m)) (.ref (q 85)) (.ref (q 86)) (.int (LM.top m)) (.int (LM.at0 m)) (.int (LM.stp m)) (.int (LM.trd m)) (.ref (q 87)) (.int (LM.nds m)) (.int (LM.mde m)) (.ref (q 88)) (.ref (q 89)) (.ref (q 93)) (.ref (q 94)) (.ref (q 95)) (.ref (q 96)) (.ref (q 97)) (.ref (q 98)) (.int (LM.rlg m)) (LM.ers m) (LM.era m) (LM.erk m) (LM.ert m) (xs (i + 1).toNatClampNeg) (xs (i + 2).toNatClampNeg)) ⟨rfl, rfl, (Nat.le_of_ble_eq_true rfl), (Nat.le_of_ble_eq_true rfl)⟩ rfl 63 rfl [63, 90, 91, 92] rfl rfl rfl (Nat.le_of_ble_eq_true rfl) ⟨(Nat.le_of_ble_eq_true rfl), (Nat.le_of_ble_eq_true rfl)⟩ (fun o' => ?_)
  refine j_icmp_eq C dL_1061 ?_ ?_
  · exact j_lnext C (hrc _ _ _)
  · exact j_none
def lP34 (N : Nat) (xs : Nat → Int32) (rc : Int32 × LC × LM → Option Unit) (i : Int32) (a : LC) (m : LM) : Option Unit :=
  (fX11_traceLength (LC.tn a)).bind fun o =>
  (fX12_traceLength (LM.trd m)).bind fun o' =>
  if o = o' then rc (i + 7, a, m) else none
set_option maxHeartbeats 4000000 in
set_option maxRecDepth 100000 in
/-- the law's case 34: traceLength -/
theorem lc34 (X : jC) {tc : jTC} {b L N : Nat} {xs : Nat → Int32} {q : Nat → Nat} (C : jx X cL_law 4 RL ret tc room_1) (hX : lwX X b L xs) {Q : Unit → State → Prop} (rc : Int32 × LC × LM → Option Unit) (hrc : ∀ i a m, jo X 4 (99, 42625) Q (rc (i, a, m)) (wL tc q a m) 18 [(0, .ref b), (1, .ref (q 0)), (2, .ref (q 63)), (3, .int i)] []) (i : Int32) (hi : lwI i L) (a : LC) (m : LM) : jo X 4 (99, 42625) Q (lP34 N xs rc i a m) (wL tc q a m) 1066 [(0, .ref b), (1, .ref (q 0)), (2, .ref (q 63)), (3, .int i)] [] := by
  unfold lP34
  refine j_aload C dL_1066 1 rfl ?_
  refine j_callVI0k (As := []) C dL_1067 mvL_154 (kX11_traceLength _ _ tc (q 0) (q 42) (.ref (q 1)) (.ref (q 3)) (.ref (q 25)) (.ref (q 29)) (.ref (q 33)) (.ref (q 37)) (.ref (q 40)) (.ref (q 52)) (.ref (q 57)) (.ref (q 1)) (.ref (q 25)) (.ref (q 33)) (.ref (q 40)) (.ref (q 43)) (.ref (q 44)) (.ref (q 45)) (.ref (q 49)) (.int (LC.en a)) (.ref (q 50)) (.ref (q 51)) (.int (LC.dp a)) (.int (LC.ix a)) (.int (LC.sp a)) (LC.tn a)) ⟨rfl, rfl, (Nat.le_of_ble_eq_true rfl), (Nat.le_of_ble_eq_true rfl)⟩ rfl 0 rfl [0, 42] rfl rfl rfl (Nat.le_of_ble_eq_true rfl) ⟨(Nat.le_of_ble_eq_true rfl), (Nat.le_of_ble_eq_true rfl)⟩ (fun o => ?_)
  refine j_aload C dL_1070 2 rfl ?_
  refine j_callVI0k (As := []) C dL_1071 mvL_157 (kX12_traceLength _ _ tc (q 63) (.int (LM.rules m)) (.ref (q 64)) (.ref (q 65)) (.ref (q 66)) (.int (LM.ed m)) (.ref (q 67)) (.ref (q 68)) (.ref (q 69)) (.ref (q 70)) (.int (LM.lv m)) (.ref (q 71)) (.ref (q 72)) (.ref (q 73)) (.int (LM.iw m)) (.int (LM.e m)) (.ref (q 74)) (.ref (q 75)) (.int (LM.ik m)) (.int (LM.ke m)) (.ref (q 76)) (.ref (q 77)) (.ref (q 78)) (.ref (q 79)) (.ref (q 80)) (.int (LM.tl m)) (.int (LM.fn0 m)) (.int (LM.ft0 m)) (.int (LM.fp0 m)) (.int (LM.fq0 m)) (.ref (q 81)) (.ref (q 82)) (.ref (q 83)) (.ref (q 84)) (.int (LM.ml m)) (.ref (q 85)) (.ref (q 86)) (.int (LM.top m)) (.int (LM.at0 m)) (.int (LM.stp m)) (.ref (q 87)) (.int (LM.nds m)) (.int (LM.mde m)) (.ref (q 88)) (.ref (q 89)) (.int (LM.ers m)) (.ref (q 90)) (.ref (q 91)) (.ref (q 92)) (.ref (q 93)) (.ref (q 94)) (.ref (q 95)) (.ref (q 96)) (.ref (q 97)) (.ref (q 98)) (.int (LM.rlg m)) (LM.trd m)) ⟨rfl, rfl, (Nat.le_of_ble_eq_true rfl), (Nat.le_of_ble_eq_true rfl)⟩ rfl 63 rfl [63] rfl rfl rfl (Nat.le_of_ble_eq_true rfl) ⟨(Nat.le_of_ble_eq_true rfl), (Nat.le_of_ble_eq_true rfl)⟩ (fun o' => ?_)
  refine j_icmp_eq C dL_1074 ?_ ?_
  · exact j_lnext C (hrc _ _ _)
  · exact j_none
def lP35 (N : Nat) (xs : Nat → Int32) (rc : Int32 × LC × LM → Option Unit) (i : Int32) (a : LC) (m : LM) : Option Unit :=
  (fX11_trace (LC.ta a) (LC.tn a) (xs (i + 1).toNatClampNeg)).bind fun o =>
  (fX12_trace (LM.trd m) (LM.trs m) (xs (i + 1).toNatClampNeg)).bind fun o' =>
  if o = o' then rc (i + 7, a, m) else none
set_option maxHeartbeats 4000000 in
set_option maxRecDepth 100000 in
/-- the law's case 35: trace -/
theorem lc35 (X : jC) {tc : jTC} {b L N : Nat} {xs : Nat → Int32} {q : Nat → Nat} (C : jx X cL_law 4 RL ret tc room_1) (hX : lwX X b L xs) {Q : Unit → State → Prop} (rc : Int32 × LC × LM → Option Unit) (hrc : ∀ i a m, jo X 4 (99, 42625) Q (rc (i, a, m)) (wL tc q a m) 18 [(0, .ref b), (1, .ref (q 0)), (2, .ref (q 63)), (3, .int i)] []) (i : Int32) (hi : lwI i L) (a : LC) (m : LM) : jo X 4 (99, 42625) Q (lP35 N xs rc i a m) (wL tc q a m) 1079 [(0, .ref b), (1, .ref (q 0)), (2, .ref (q 63)), (3, .int i)] [] := by
  unfold lP35
  refine j_aload C dL_1079 1 rfl ?_
  refine j_aload C dL_1080 0 rfl ?_
  refine j_iload C dL_1081 3 rfl ?_
  refine j_const C dL_1082 ?_
  refine j_iadd C dL_1083 ?_
  refine j_sld C hX dL_1084 hi.2.1 ?_
  refine j_callVI0k (As := [.int (xs (i + 1).toNatClampNeg)]) C dL_1085 mvL_158 (kX11_trace _ _ tc (q 0) (q 42) (q 44) (.ref (q 1)) (.ref (q 3)) (.ref (q 25)) (.ref (q 29)) (.ref (q 33)) (.ref (q 37)) (.ref (q 40)) (.ref (q 52)) (.ref (q 57)) (.ref (q 1)) (.ref (q 25)) (.ref (q 33)) (.ref (q 40)) (.ref (q 43)) (.ref (q 45)) (.ref (q 49)) (.int (LC.en a)) (.ref (q 50)) (.ref (q 51)) (.int (LC.dp a)) (.int (LC.ix a)) (.int (LC.sp a)) (LC.ta a) (LC.tn a) (xs (i + 1).toNatClampNeg)) ⟨rfl, rfl, (Nat.le_of_ble_eq_true rfl), (Nat.le_of_ble_eq_true rfl)⟩ rfl 0 rfl [0, 42, 44] rfl rfl rfl (Nat.le_of_ble_eq_true rfl) ⟨(Nat.le_of_ble_eq_true rfl), (Nat.le_of_ble_eq_true rfl)⟩ (fun o => ?_)
  refine j_aload C dL_1088 2 rfl ?_
  refine j_aload C dL_1089 0 rfl ?_
  refine j_iload C dL_1090 3 rfl ?_
  refine j_const C dL_1091 ?_
  refine j_iadd C dL_1092 ?_
  refine j_sld C hX dL_1093 hi.2.1 ?_
  refine j_callVI0k (As := [.int (xs (i + 1).toNatClampNeg)]) C dL_1094 mvL_161 (kX12_trace _ _ tc (q 63) (q 87) (.int (LM.rules m)) (.ref (q 64)) (.ref (q 65)) (.ref (q 66)) (.int (LM.ed m)) (.ref (q 67)) (.ref (q 68)) (.ref (q 69)) (.ref (q 70)) (.int (LM.lv m)) (.ref (q 71)) (.ref (q 72)) (.ref (q 73)) (.int (LM.iw m)) (.int (LM.e m)) (.ref (q 74)) (.ref (q 75)) (.int (LM.ik m)) (.int (LM.ke m)) (.ref (q 76)) (.ref (q 77)) (.ref (q 78)) (.ref (q 79)) (.ref (q 80)) (.int (LM.tl m)) (.int (LM.fn0 m)) (.int (LM.ft0 m)) (.int (LM.fp0 m)) (.int (LM.fq0 m)) (.ref (q 81)) (.ref (q 82)) (.ref (q 83)) (.ref (q 84)) (.int (LM.ml m)) (.ref (q 85)) (.ref (q 86)) (.int (LM.top m)) (.int (LM.at0 m)) (.int (LM.stp m)) (.int (LM.nds m)) (.int (LM.mde m)) (.ref (q 88)) (.ref (q 89)) (.int (LM.ers m)) (.ref (q 90)) (.ref (q 91)) (.ref (q 92)) (.ref (q 93)) (.ref (q 94)) (.ref (q 95)) (.ref (q 96)) (.ref (q 97)) (.ref (q 98)) (.int (LM.rlg m)) (LM.trd m) (LM.trs m) (xs (i + 1).toNatClampNeg)) ⟨rfl, rfl, (Nat.le_of_ble_eq_true rfl), (Nat.le_of_ble_eq_true rfl)⟩ rfl 63 rfl [63, 87] rfl rfl rfl (Nat.le_of_ble_eq_true rfl) ⟨(Nat.le_of_ble_eq_true rfl), (Nat.le_of_ble_eq_true rfl)⟩ (fun o' => ?_)
  refine j_icmp_eq C dL_1097 ?_ ?_
  · exact j_lnext C (hrc _ _ _)
  · exact j_none
def lP36 (N : Nat) (xs : Nat → Int32) (rc : Int32 × LC × LM → Option Unit) (i : Int32) (a : LC) (m : LM) : Option Unit :=
  (fX11_nodeCount (LC.tc0 a)).bind fun o =>
  (fX12_nodeCount (LM.nds m)).bind fun o' =>
  if o = o' then rc (i + 7, a, m) else none
set_option maxHeartbeats 4000000 in
set_option maxRecDepth 100000 in
/-- the law's case 36: nodeCount -/
theorem lc36 (X : jC) {tc : jTC} {b L N : Nat} {xs : Nat → Int32} {q : Nat → Nat} (C : jx X cL_law 4 RL ret tc room_1) (hX : lwX X b L xs) {Q : Unit → State → Prop} (rc : Int32 × LC × LM → Option Unit) (hrc : ∀ i a m, jo X 4 (99, 42625) Q (rc (i, a, m)) (wL tc q a m) 18 [(0, .ref b), (1, .ref (q 0)), (2, .ref (q 63)), (3, .int i)] []) (i : Int32) (hi : lwI i L) (a : LC) (m : LM) : jo X 4 (99, 42625) Q (lP36 N xs rc i a m) (wL tc q a m) 1102 [(0, .ref b), (1, .ref (q 0)), (2, .ref (q 63)), (3, .int i)] [] := by
  unfold lP36
  refine j_aload C dL_1102 1 rfl ?_
  refine j_callVI0k (As := []) C dL_1103 mvL_162 (kX11_nodeCount _ _ tc (q 0) (q 42) (q 45) (.ref (q 1)) (.ref (q 3)) (.ref (q 25)) (.ref (q 29)) (.ref (q 33)) (.ref (q 37)) (.ref (q 40)) (.ref (q 52)) (.ref (q 57)) (.ref (q 1)) (.ref (q 25)) (.ref (q 33)) (.ref (q 40)) (.ref (q 43)) (.ref (q 44)) (.int (LC.tn a)) (.ref (q 49)) (.int (LC.en a)) (.ref (q 50)) (.ref (q 51)) (.int (LC.dp a)) (.int (LC.ix a)) (.int (LC.sp a)) (.ref (q 46)) (.ref (q 47)) (.ref (q 48)) (LC.tc0 a)) ⟨rfl, rfl, (Nat.le_of_ble_eq_true rfl), (Nat.le_of_ble_eq_true rfl)⟩ rfl 0 rfl [0, 42, 45] rfl rfl rfl (Nat.le_of_ble_eq_true rfl) ⟨(Nat.le_of_ble_eq_true rfl), (Nat.le_of_ble_eq_true rfl)⟩ (fun o => ?_)
  refine j_aload C dL_1106 2 rfl ?_
  refine j_callVI0k (As := []) C dL_1107 mvL_165 (kX12_nodeCount _ _ tc (q 63) (.int (LM.rules m)) (.ref (q 64)) (.ref (q 65)) (.ref (q 66)) (.int (LM.ed m)) (.ref (q 67)) (.ref (q 68)) (.ref (q 69)) (.ref (q 70)) (.int (LM.lv m)) (.ref (q 71)) (.ref (q 72)) (.ref (q 73)) (.int (LM.iw m)) (.int (LM.e m)) (.ref (q 74)) (.ref (q 75)) (.int (LM.ik m)) (.int (LM.ke m)) (.ref (q 76)) (.ref (q 77)) (.ref (q 78)) (.ref (q 79)) (.ref (q 80)) (.int (LM.tl m)) (.int (LM.fn0 m)) (.int (LM.ft0 m)) (.int (LM.fp0 m)) (.int (LM.fq0 m)) (.ref (q 81)) (.ref (q 82)) (.ref (q 83)) (.ref (q 84)) (.int (LM.ml m)) (.ref (q 85)) (.ref (q 86)) (.int (LM.top m)) (.int (LM.at0 m)) (.int (LM.stp m)) (.int (LM.trd m)) (.ref (q 87)) (.int (LM.mde m)) (.ref (q 88)) (.ref (q 89)) (.int (LM.ers m)) (.ref (q 90)) (.ref (q 91)) (.ref (q 92)) (.ref (q 93)) (.ref (q 94)) (.ref (q 95)) (.ref (q 96)) (.ref (q 97)) (.ref (q 98)) (.int (LM.rlg m)) (LM.nds m)) ⟨rfl, rfl, (Nat.le_of_ble_eq_true rfl), (Nat.le_of_ble_eq_true rfl)⟩ rfl 63 rfl [63] rfl rfl rfl (Nat.le_of_ble_eq_true rfl) ⟨(Nat.le_of_ble_eq_true rfl), (Nat.le_of_ble_eq_true rfl)⟩ (fun o' => ?_)
  refine j_icmp_eq C dL_1110 ?_ ?_
  · exact j_lnext C (hrc _ _ _)
  · exact j_none
def lP37 (N : Nat) (xs : Nat → Int32) (rc : Int32 × LC × LM → Option Unit) (i : Int32) (a : LC) (m : LM) : Option Unit :=
  (fX11_nodeSymbol (LC.ts a) (LC.tc0 a) (xs (i + 1).toNatClampNeg)).bind fun o =>
  (fX12_nodeSymbol (LM.nds m) (LM.nsy m) (xs (i + 1).toNatClampNeg)).bind fun o' =>
  if o = o' then rc (i + 7, a, m) else none
set_option maxHeartbeats 4000000 in
set_option maxRecDepth 100000 in
/-- the law's case 37: nodeSymbol -/
theorem lc37 (X : jC) {tc : jTC} {b L N : Nat} {xs : Nat → Int32} {q : Nat → Nat} (C : jx X cL_law 4 RL ret tc room_1) (hX : lwX X b L xs) {Q : Unit → State → Prop} (rc : Int32 × LC × LM → Option Unit) (hrc : ∀ i a m, jo X 4 (99, 42625) Q (rc (i, a, m)) (wL tc q a m) 18 [(0, .ref b), (1, .ref (q 0)), (2, .ref (q 63)), (3, .int i)] []) (i : Int32) (hi : lwI i L) (a : LC) (m : LM) : jo X 4 (99, 42625) Q (lP37 N xs rc i a m) (wL tc q a m) 1115 [(0, .ref b), (1, .ref (q 0)), (2, .ref (q 63)), (3, .int i)] [] := by
  unfold lP37
  refine j_aload C dL_1115 1 rfl ?_
  refine j_aload C dL_1116 0 rfl ?_
  refine j_iload C dL_1117 3 rfl ?_
  refine j_const C dL_1118 ?_
  refine j_iadd C dL_1119 ?_
  refine j_sld C hX dL_1120 hi.2.1 ?_
  refine j_callVI0k (As := [.int (xs (i + 1).toNatClampNeg)]) C dL_1121 mvL_166 (kX11_nodeSymbol _ _ tc (q 0) (q 42) (q 45) (q 46) (.ref (q 1)) (.ref (q 3)) (.ref (q 25)) (.ref (q 29)) (.ref (q 33)) (.ref (q 37)) (.ref (q 40)) (.ref (q 52)) (.ref (q 57)) (.ref (q 1)) (.ref (q 25)) (.ref (q 33)) (.ref (q 40)) (.ref (q 43)) (.ref (q 44)) (.int (LC.tn a)) (.ref (q 49)) (.int (LC.en a)) (.ref (q 50)) (.ref (q 51)) (.int (LC.dp a)) (.int (LC.ix a)) (.int (LC.sp a)) (.ref (q 47)) (.ref (q 48)) (LC.ts a) (LC.tc0 a) (xs (i + 1).toNatClampNeg)) ⟨rfl, rfl, (Nat.le_of_ble_eq_true rfl), (Nat.le_of_ble_eq_true rfl)⟩ rfl 0 rfl [0, 42, 45, 46] rfl rfl rfl (Nat.le_of_ble_eq_true rfl) ⟨(Nat.le_of_ble_eq_true rfl), (Nat.le_of_ble_eq_true rfl)⟩ (fun o => ?_)
  refine j_aload C dL_1124 2 rfl ?_
  refine j_aload C dL_1125 0 rfl ?_
  refine j_iload C dL_1126 3 rfl ?_
  refine j_const C dL_1127 ?_
  refine j_iadd C dL_1128 ?_
  refine j_sld C hX dL_1129 hi.2.1 ?_
  refine j_callVI0k (As := [.int (xs (i + 1).toNatClampNeg)]) C dL_1130 mvL_169 (kX12_nodeSymbol _ _ tc (q 63) (q 88) (.int (LM.rules m)) (.ref (q 64)) (.ref (q 65)) (.ref (q 66)) (.int (LM.ed m)) (.ref (q 67)) (.ref (q 68)) (.ref (q 69)) (.ref (q 70)) (.int (LM.lv m)) (.ref (q 71)) (.ref (q 72)) (.ref (q 73)) (.int (LM.iw m)) (.int (LM.e m)) (.ref (q 74)) (.ref (q 75)) (.int (LM.ik m)) (.int (LM.ke m)) (.ref (q 76)) (.ref (q 77)) (.ref (q 78)) (.ref (q 79)) (.ref (q 80)) (.int (LM.tl m)) (.int (LM.fn0 m)) (.int (LM.ft0 m)) (.int (LM.fp0 m)) (.int (LM.fq0 m)) (.ref (q 81)) (.ref (q 82)) (.ref (q 83)) (.ref (q 84)) (.int (LM.ml m)) (.ref (q 85)) (.ref (q 86)) (.int (LM.top m)) (.int (LM.at0 m)) (.int (LM.stp m)) (.int (LM.trd m)) (.ref (q 87)) (.int (LM.mde m)) (.ref (q 89)) (.int (LM.ers m)) (.ref (q 90)) (.ref (q 91)) (.ref (q 92)) (.ref (q 93)) (.ref (q 94)) (.ref (q 95)) (.ref (q 96)) (.ref (q 97)) (.ref (q 98)) (.int (LM.rlg m)) (LM.nds m) (LM.nsy m) (xs (i + 1).toNatClampNeg)) ⟨rfl, rfl, (Nat.le_of_ble_eq_true rfl), (Nat.le_of_ble_eq_true rfl)⟩ rfl 63 rfl [63, 88] rfl rfl rfl (Nat.le_of_ble_eq_true rfl) ⟨(Nat.le_of_ble_eq_true rfl), (Nat.le_of_ble_eq_true rfl)⟩ (fun o' => ?_)
  refine j_icmp_eq C dL_1133 ?_ ?_
  · exact j_lnext C (hrc _ _ _)
  · exact j_none
def lP38 (N : Nat) (xs : Nat → Int32) (rc : Int32 × LC × LM → Option Unit) (i : Int32) (a : LC) (m : LM) : Option Unit :=
  (fX11_nodeParent (LC.tp a) (LC.tc0 a) (xs (i + 1).toNatClampNeg)).bind fun o =>
  (fX12_nodeParent (LM.nds m) (LM.npa m) (xs (i + 1).toNatClampNeg)).bind fun o' =>
  if o = o' then rc (i + 7, a, m) else none
set_option maxHeartbeats 4000000 in
set_option maxRecDepth 100000 in
/-- the law's case 38: nodeParent -/
theorem lc38 (X : jC) {tc : jTC} {b L N : Nat} {xs : Nat → Int32} {q : Nat → Nat} (C : jx X cL_law 4 RL ret tc room_1) (hX : lwX X b L xs) {Q : Unit → State → Prop} (rc : Int32 × LC × LM → Option Unit) (hrc : ∀ i a m, jo X 4 (99, 42625) Q (rc (i, a, m)) (wL tc q a m) 18 [(0, .ref b), (1, .ref (q 0)), (2, .ref (q 63)), (3, .int i)] []) (i : Int32) (hi : lwI i L) (a : LC) (m : LM) : jo X 4 (99, 42625) Q (lP38 N xs rc i a m) (wL tc q a m) 1138 [(0, .ref b), (1, .ref (q 0)), (2, .ref (q 63)), (3, .int i)] [] := by
  unfold lP38
  refine j_aload C dL_1138 1 rfl ?_
  refine j_aload C dL_1139 0 rfl ?_
  refine j_iload C dL_1140 3 rfl ?_
  refine j_const C dL_1141 ?_
  refine j_iadd C dL_1142 ?_
  refine j_sld C hX dL_1143 hi.2.1 ?_
  refine j_callVI0k (As := [.int (xs (i + 1).toNatClampNeg)]) C dL_1144 mvL_170 (kX11_nodeParent _ _ tc (q 0) (q 42) (q 45) (q 47) (.ref (q 1)) (.ref (q 3)) (.ref (q 25)) (.ref (q 29)) (.ref (q 33)) (.ref (q 37)) (.ref (q 40)) (.ref (q 52)) (.ref (q 57)) (.ref (q 1)) (.ref (q 25)) (.ref (q 33)) (.ref (q 40)) (.ref (q 43)) (.ref (q 44)) (.int (LC.tn a)) (.ref (q 49)) (.int (LC.en a)) (.ref (q 50)) (.ref (q 51)) (.int (LC.dp a)) (.int (LC.ix a)) (.int (LC.sp a)) (.ref (q 46)) (.ref (q 48)) (LC.tp a) (LC.tc0 a) (xs (i + 1).toNatClampNeg)) ⟨rfl, rfl, (Nat.le_of_ble_eq_true rfl), (Nat.le_of_ble_eq_true rfl)⟩ rfl 0 rfl [0, 42, 45, 47] rfl rfl rfl (Nat.le_of_ble_eq_true rfl) ⟨(Nat.le_of_ble_eq_true rfl), (Nat.le_of_ble_eq_true rfl)⟩ (fun o => ?_)
  refine j_aload C dL_1147 2 rfl ?_
  refine j_aload C dL_1148 0 rfl ?_
  refine j_iload C dL_1149 3 rfl ?_
  refine j_const C dL_1150 ?_
  refine j_iadd C dL_1151 ?_
  refine j_sld C hX dL_1152 hi.2.1 ?_
  refine j_callVI0k (As := [.int (xs (i + 1).toNatClampNeg)]) C dL_1153 mvL_173 (kX12_nodeParent _ _ tc (q 63) (q 89) (.int (LM.rules m)) (.ref (q 64)) (.ref (q 65)) (.ref (q 66)) (.int (LM.ed m)) (.ref (q 67)) (.ref (q 68)) (.ref (q 69)) (.ref (q 70)) (.int (LM.lv m)) (.ref (q 71)) (.ref (q 72)) (.ref (q 73)) (.int (LM.iw m)) (.int (LM.e m)) (.ref (q 74)) (.ref (q 75)) (.int (LM.ik m)) (.int (LM.ke m)) (.ref (q 76)) (.ref (q 77)) (.ref (q 78)) (.ref (q 79)) (.ref (q 80)) (.int (LM.tl m)) (.int (LM.fn0 m)) (.int (LM.ft0 m)) (.int (LM.fp0 m)) (.int (LM.fq0 m)) (.ref (q 81)) (.ref (q 82)) (.ref (q 83)) (.ref (q 84)) (.int (LM.ml m)) (.ref (q 85)) (.ref (q 86)) (.int (LM.top m)) (.int (LM.at0 m)) (.int (LM.stp m)) (.int (LM.trd m)) (.ref (q 87)) (.int (LM.mde m)) (.ref (q 88)) (.int (LM.ers m)) (.ref (q 90)) (.ref (q 91)) (.ref (q 92)) (.ref (q 93)) (.ref (q 94)) (.ref (q 95)) (.ref (q 96)) (.ref (q 97)) (.ref (q 98)) (.int (LM.rlg m)) (LM.nds m) (LM.npa m) (xs (i + 1).toNatClampNeg)) ⟨rfl, rfl, (Nat.le_of_ble_eq_true rfl), (Nat.le_of_ble_eq_true rfl)⟩ rfl 63 rfl [63, 89] rfl rfl rfl (Nat.le_of_ble_eq_true rfl) ⟨(Nat.le_of_ble_eq_true rfl), (Nat.le_of_ble_eq_true rfl)⟩ (fun o' => ?_)
  refine j_icmp_eq C dL_1156 ?_ ?_
  · exact j_lnext C (hrc _ _ _)
  · exact j_none
def lP39 (N : Nat) (xs : Nat → Int32) (rc : Int32 × LC × LM → Option Unit) (i : Int32) (a : LC) (m : LM) : Option Unit :=
  (fX11_nodeHeight (LC.th a) (LC.tc0 a) (xs (i + 1).toNatClampNeg)).bind fun o =>
  (fX12_nodeHeight N (LM.nds m) (LM.npa m) (xs (i + 1).toNatClampNeg)).bind fun o' =>
  if o = o' then rc (i + 7, a, m) else none
set_option maxHeartbeats 4000000 in
set_option maxRecDepth 100000 in
/-- the law's case 39: nodeHeight -/
theorem lc39 (X : jC) {tc : jTC} {b L N : Nat} {xs : Nat → Int32} {q : Nat → Nat} (C : jx X cL_law 4 RL ret tc room_1) (hX : lwX X b L xs) {Q : Unit → State → Prop} (rc : Int32 × LC × LM → Option Unit) (hrc : ∀ i a m, jo X 4 (99, 42625) Q (rc (i, a, m)) (wL tc q a m) 18 [(0, .ref b), (1, .ref (q 0)), (2, .ref (q 63)), (3, .int i)] []) (i : Int32) (hi : lwI i L) (a : LC) (m : LM) : jo X 4 (99, 42625) Q (lP39 N xs rc i a m) (wL tc q a m) 1161 [(0, .ref b), (1, .ref (q 0)), (2, .ref (q 63)), (3, .int i)] [] := by
  unfold lP39
  refine j_aload C dL_1161 1 rfl ?_
  refine j_aload C dL_1162 0 rfl ?_
  refine j_iload C dL_1163 3 rfl ?_
  refine j_const C dL_1164 ?_
  refine j_iadd C dL_1165 ?_
  refine j_sld C hX dL_1166 hi.2.1 ?_
  refine j_callVI0k (As := [.int (xs (i + 1).toNatClampNeg)]) C dL_1167 mvL_174 (kX11_nodeHeight _ _ tc (q 0) (q 42) (q 45) (q 48) (.ref (q 1)) (.ref (q 3)) (.ref (q 25)) (.ref (q 29)) (.ref (q 33)) (.ref (q 37)) (.ref (q 40)) (.ref (q 52)) (.ref (q 57)) (.ref (q 1)) (.ref (q 25)) (.ref (q 33)) (.ref (q 40)) (.ref (q 43)) (.ref (q 44)) (.int (LC.tn a)) (.ref (q 49)) (.int (LC.en a)) (.ref (q 50)) (.ref (q 51)) (.int (LC.dp a)) (.int (LC.ix a)) (.int (LC.sp a)) (.ref (q 46)) (.ref (q 47)) (LC.th a) (LC.tc0 a) (xs (i + 1).toNatClampNeg)) ⟨rfl, rfl, (Nat.le_of_ble_eq_true rfl), (Nat.le_of_ble_eq_true rfl)⟩ rfl 0 rfl [0, 42, 45, 48] rfl rfl rfl (Nat.le_of_ble_eq_true rfl) ⟨(Nat.le_of_ble_eq_true rfl), (Nat.le_of_ble_eq_true rfl)⟩ (fun o => ?_)
  refine j_aload C dL_1170 2 rfl ?_
  refine j_aload C dL_1171 0 rfl ?_
  refine j_iload C dL_1172 3 rfl ?_
  refine j_const C dL_1173 ?_
  refine j_iadd C dL_1174 ?_
  refine j_sld C hX dL_1175 hi.2.1 ?_
  refine j_callVI0k (As := [.int (xs (i + 1).toNatClampNeg)]) C dL_1176 mvL_177 (kX12_nodeHeight _ _ tc N (q 63) (q 89) (.int (LM.rules m)) (.ref (q 64)) (.ref (q 65)) (.ref (q 66)) (.int (LM.ed m)) (.ref (q 67)) (.ref (q 68)) (.ref (q 69)) (.ref (q 70)) (.int (LM.lv m)) (.ref (q 71)) (.ref (q 72)) (.ref (q 73)) (.int (LM.iw m)) (.int (LM.e m)) (.ref (q 74)) (.ref (q 75)) (.int (LM.ik m)) (.int (LM.ke m)) (.ref (q 76)) (.ref (q 77)) (.ref (q 78)) (.ref (q 79)) (.ref (q 80)) (.int (LM.tl m)) (.int (LM.fn0 m)) (.int (LM.ft0 m)) (.int (LM.fp0 m)) (.int (LM.fq0 m)) (.ref (q 81)) (.ref (q 82)) (.ref (q 83)) (.ref (q 84)) (.int (LM.ml m)) (.ref (q 85)) (.ref (q 86)) (.int (LM.top m)) (.int (LM.at0 m)) (.int (LM.stp m)) (.int (LM.trd m)) (.ref (q 87)) (.int (LM.mde m)) (.ref (q 88)) (.int (LM.ers m)) (.ref (q 90)) (.ref (q 91)) (.ref (q 92)) (.ref (q 93)) (.ref (q 94)) (.ref (q 95)) (.ref (q 96)) (.ref (q 97)) (.ref (q 98)) (.int (LM.rlg m)) (LM.nds m) (LM.npa m) (xs (i + 1).toNatClampNeg)) ⟨rfl, rfl, (Nat.le_of_ble_eq_true rfl), (Nat.le_of_ble_eq_true rfl)⟩ rfl 63 rfl [63, 89] rfl rfl rfl (Nat.le_of_ble_eq_true rfl) ⟨(Nat.le_of_ble_eq_true rfl), (Nat.le_of_ble_eq_true rfl)⟩ (fun o' => ?_)
  refine j_icmp_eq C dL_1179 ?_ ?_
  · exact j_lnext C (hrc _ _ _)
  · exact j_none
