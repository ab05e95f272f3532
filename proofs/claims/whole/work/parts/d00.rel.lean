def ERs (a : LC) (m : LM) : Prop := ∃ G hs L, ER G hs L (LC.codes a) (LC.count a) (LC.sc a) (LC.sn a) (LC.nw a) (LC.sz a) (LC.E a) (LC.F a) (LC.W a) (LC.E0 a) (LC.F0 a) (LC.W0 a) (LC.se a) (LC.ps a) (LC.lo a) (LC.cf a) (LC.fc a) (LC.fd a) (LC.fl a) (LC.c a) (LC.h a) (LC.l a) (LC.pk a) (LC.key a) (LM.rules m) (LM.lefts m) (LM.sizes m) (LM.rights m) (LM.ed m) (LM.pr m) (LM.pl m) (LM.pz m) (LM.pg m) (LM.lv m) (LM.mc m) (LM.md m) (LM.iw m) (LM.e m) (LM.f m) (LM.w m) (LM.ik m) (LM.ke m) (LM.kf m) (LM.kw m) (LM.st m) (LM.lg m)
def REL (a : LC) (m : LM) : Prop := ERs a m ∧ PIN (LC.tm a) (LC.il a) (LM.mi m) (LM.ml m) ∧ PSY (LC.sy0 a) (LM.ms m) ∧ PWT (LC.cw a) (LM.mw m) ∧ PRP (LC.rc0 a) (LC.rh a) (LC.rl a) (LM.rp m) (LM.rlg m) ∧ PPS (LC.ta a) (LC.tn a) (LC.ts a) (LC.tp a) (LC.th a) (LC.tc0 a) (LC.ep a) (LC.en a) (LM.trd m) (LM.trs m) (LM.nds m) (LM.nsy m) (LM.npa m) (LM.ers m) (LM.era m) (LM.erk m) (LM.ert m)
set_option maxHeartbeats 2000000 in
theorem z0 {N : Nat} (hN : 2000 < N) (xs : Nat → Int32) (i : Int32) {a : LC} {m : LM} (h : REL a m) : ∃ a' m', REL a' m' ∧ ∀ rc, lP0 N xs rc i a m = rc (i + 7, a', m') := by
  obtain ⟨⟨G, hs, L, H⟩, hI, hY, hW, hR, hP⟩ := h
  obtain ⟨o, o', e1, e2, e3, r1⟩ := k_add H (LM.asked m) (LM.tr m) (LM.tl m) (xs (i + 1).toNatClampNeg) (xs (i + 2).toNatClampNeg) (xs (i + 3).toNatClampNeg) (xs (i + 4).toNatClampNeg) (xs (i + 5).toNatClampNeg) (xs (i + 6).toNatClampNeg) hN
  refine ⟨LC.mk o.2.2.1 o.2.1 o.2.2.2.2.2.1 o.2.2.2.2.2.2.1 o.2.2.2.2.1 o.2.2.2.1 o.2.2.2.2.2.2.2.1 o.2.2.2.2.2.2.2.2.1 o.2.2.2.2.2.2.2.2.2.1 (LC.bg a) o.2.2.2.2.2.2.2.2.2.2.1 o.2.2.2.2.2.2.2.2.2.2.2.1 o.2.2.2.2.2.2.2.2.2.2.2.2.1 o.2.2.2.2.2.2.2.2.2.2.2.2.2.2.2.2.1 o.2.2.2.2.2.2.2.2.2.2.2.2.2.1 o.2.2.2.2.2.2.2.2.2.2.2.2.2.2.1 o.2.2.2.2.2.2.2.2.2.2.2.2.2.2.2.1 o.2.2.2.2.2.2.2.2.2.2.2.2.2.2.2.2.2.2.2.1 o.2.2.2.2.2.2.2.2.2.2.2.2.2.2.2.2.2.1 o.2.2.2.2.2.2.2.2.2.2.2.2.2.2.2.2.2.2.1 (LC.il a) (LC.tm a) (LC.tn a) (LC.en a) (LC.dp a) (LC.ix a) (LC.sp a) (LC.sy0 a) (LC.ta a) (LC.tc0 a) (LC.ts a) (LC.tp a) (LC.th a) (LC.ep a) (LC.sk a) (LC.br a) o.2.2.2.2.2.2.2.2.2.2.2.2.2.2.2.2.2.2.2.2.1 o.2.2.2.2.2.2.2.2.2.2.2.2.2.2.2.2.2.2.2.2.2 (LC.c a) (LC.h a) (LC.l a) (LC.cw a) (LC.rc0 a) (LC.rh a) (LC.rl a), LM.mk o'.2.1 o'.2.2.2.2.2.1 o'.2.2.2.2.2.2.2.2.2.2.1 o'.2.2.2.2.2.2.2.2.2.2.2.2.2.2.1 o'.2.2.2.2.2.2.2.2.2.2.2.2.2.2.2.1 o'.2.2.2.2.2.2.2.2.2.2.2.2.2.2.2.2.2.2.1 o'.2.2.2.2.2.2.2.2.2.2.2.2.2.2.2.2.2.2.2.1 o'.2.2.2.2.2.2.2.2.2.2.2.2.2.2.2.2.2.2.2.2.2.2.2.2.2 (LM.fn0 m) (LM.ft0 m) (LM.fp0 m) (LM.fq0 m) (LM.ml m) (LM.top m) (LM.at0 m) (LM.stp m) (LM.trd m) (LM.nds m) (LM.mde m) (LM.ers m) (LM.rlg m) o'.2.2.1 o'.2.2.2.1 o'.2.2.2.2.1 o'.2.2.2.2.2.2.1 o'.2.2.2.2.2.2.2.1 o'.2.2.2.2.2.2.2.2.1 o'.2.2.2.2.2.2.2.2.2.1 o'.2.2.2.2.2.2.2.2.2.2.2.1 o'.2.2.2.2.2.2.2.2.2.2.2.2.1 o'.2.2.2.2.2.2.2.2.2.2.2.2.2.1 o'.2.2.2.2.2.2.2.2.2.2.2.2.2.2.2.2.1 o'.2.2.2.2.2.2.2.2.2.2.2.2.2.2.2.2.2.1 o'.2.2.2.2.2.2.2.2.2.2.2.2.2.2.2.2.2.2.2.2.1 o'.2.2.2.2.2.2.2.2.2.2.2.2.2.2.2.2.2.2.2.2.2.1 o'.2.2.2.2.2.2.2.2.2.2.2.2.2.2.2.2.2.2.2.2.2.2.1 o'.2.2.2.2.2.2.2.2.2.2.2.2.2.2.2.2.2.2.2.2.2.2.2.1 o'.2.2.2.2.2.2.2.2.2.2.2.2.2.2.2.2.2.2.2.2.2.2.2.2.1 (LM.mv m) (LM.mz m) (LM.ms m) (LM.mi m) (LM.ks m) (LM.kp m) (LM.trs m) (LM.nsy m) (LM.npa m) (LM.era m) (LM.erk m) (LM.ert m) (LM.mw m) (LM.be m) (LM.bl m) (LM.pt m) (LM.pl0 m) (LM.rp m), ⟨r1, hI, hY, hW, hR, hP⟩, fun rc => ?_⟩
  unfold lP0
  rw [e1, Option.bind_some, e2, Option.bind_some, if_pos e3]
set_option maxHeartbeats 2000000 in
theorem z1 {N : Nat} (hN : 2000 < N) (xs : Nat → Int32) (i : Int32) {a : LC} {m : LM} (h : REL a m) : ∃ a' m', REL a' m' ∧ ∀ rc, lP1 N xs rc i a m = rc (i + 7, a', m') := by
  obtain ⟨⟨G, hs, L, H⟩, hI, hY, hW, hR, hP⟩ := h
  obtain ⟨o, o', e1, e2, e3, r1⟩ := k_remove H (LM.tr m) (LM.tl m) (xs (i + 1).toNatClampNeg) hN
  refine ⟨LC.mk o.2.2.1 o.2.1 o.2.2.2.2.2.1 o.2.2.2.2.2.2.1 o.2.2.2.2.1 o.2.2.2.1 o.2.2.2.2.2.2.2.1 o.2.2.2.2.2.2.2.2.1 o.2.2.2.2.2.2.2.2.2.1 (LC.bg a) o.2.2.2.2.2.2.2.2.2.2.1 o.2.2.2.2.2.2.2.2.2.2.2.1 o.2.2.2.2.2.2.2.2.2.2.2.2.1 o.2.2.2.2.2.2.2.2.2.2.2.2.2.2.2.2.1 o.2.2.2.2.2.2.2.2.2.2.2.2.2.1 o.2.2.2.2.2.2.2.2.2.2.2.2.2.2.1 o.2.2.2.2.2.2.2.2.2.2.2.2.2.2.2.1 (LC.fl a) (LC.fc a) (LC.fd a) (LC.il a) (LC.tm a) (LC.tn a) (LC.en a) (LC.dp a) (LC.ix a) (LC.sp a) (LC.sy0 a) (LC.ta a) (LC.tc0 a) (LC.ts a) (LC.tp a) (LC.th a) (LC.ep a) (LC.sk a) (LC.br a) o.2.2.2.2.2.2.2.2.2.2.2.2.2.2.2.2.2.1 o.2.2.2.2.2.2.2.2.2.2.2.2.2.2.2.2.2.2 (LC.c a) (LC.h a) (LC.l a) (LC.cw a) (LC.rc0 a) (LC.rh a) (LC.rl a), LM.mk o'.2.1 o'.2.2.2.2.2.1 (LM.lv m) o'.2.2.2.2.2.2.2.2.2.2.1 o'.2.2.2.2.2.2.2.2.2.2.2.1 o'.2.2.2.2.2.2.2.2.2.2.2.2.2.2.1 o'.2.2.2.2.2.2.2.2.2.2.2.2.2.2.2.1 o'.2.2.2.2.2.2.2.2.2.2.2.2.2.2.2.2.2.2.2.2.2 (LM.fn0 m) (LM.ft0 m) (LM.fp0 m) (LM.fq0 m) (LM.ml m) (LM.top m) (LM.at0 m) (LM.stp m) (LM.trd m) (LM.nds m) (LM.mde m) (LM.ers m) (LM.rlg m) o'.2.2.1 o'.2.2.2.1 o'.2.2.2.2.1 o'.2.2.2.2.2.2.1 o'.2.2.2.2.2.2.2.1 o'.2.2.2.2.2.2.2.2.1 o'.2.2.2.2.2.2.2.2.2.1 (LM.mc m) (LM.md m) (LM.asked m) o'.2.2.2.2.2.2.2.2.2.2.2.2.1 o'.2.2.2.2.2.2.2.2.2.2.2.2.2.1 o'.2.2.2.2.2.2.2.2.2.2.2.2.2.2.2.2.1 o'.2.2.2.2.2.2.2.2.2.2.2.2.2.2.2.2.2.1 o'.2.2.2.2.2.2.2.2.2.2.2.2.2.2.2.2.2.2.1 o'.2.2.2.2.2.2.2.2.2.2.2.2.2.2.2.2.2.2.2.1 o'.2.2.2.2.2.2.2.2.2.2.2.2.2.2.2.2.2.2.2.2.1 (LM.mv m) (LM.mz m) (LM.ms m) (LM.mi m) (LM.ks m) (LM.kp m) (LM.trs m) (LM.nsy m) (LM.npa m) (LM.era m) (LM.erk m) (LM.ert m) (LM.mw m) (LM.be m) (LM.bl m) (LM.pt m) (LM.pl0 m) (LM.rp m), ⟨r1, hI, hY, hW, hR, hP⟩, fun rc => ?_⟩
  unfold lP1
  rw [e1, Option.bind_some, e2, Option.bind_some, if_pos e3]
set_option maxHeartbeats 2000000 in
theorem z2 {N : Nat} (hN : 2000 < N) (xs : Nat → Int32) (i : Int32) {a : LC} {m : LM} (h : REL a m) : ∃ a' m', REL a' m' ∧ ∀ rc, lP2 N xs rc i a m = rc (i + 7, a', m') := by
  obtain ⟨⟨G, hs, L, H⟩, hI, hY, hW, hR, hP⟩ := h
  obtain ⟨o, o', e1, e2, e3, r1⟩ := k_clear H (LM.tr m) (LM.tl m) hN
  refine ⟨LC.mk o.2.1 (LC.codes a) o.2.2.2.2.1 o.2.2.2.2.2.1 o.2.2.2.1 o.2.2.1 o.2.2.2.2.2.2.1 o.2.2.2.2.2.2.2.1 o.2.2.2.2.2.2.2.2.1 (LC.bg a) o.2.2.2.2.2.2.2.2.2.1 o.2.2.2.2.2.2.2.2.2.2.1 o.2.2.2.2.2.2.2.2.2.2.2.1 o.2.2.2.2.2.2.2.2.2.2.2.2.2.2.2.1 o.2.2.2.2.2.2.2.2.2.2.2.2.1 o.2.2.2.2.2.2.2.2.2.2.2.2.2.1 o.2.2.2.2.2.2.2.2.2.2.2.2.2.2.1 (LC.fl a) (LC.fc a) (LC.fd a) (LC.il a) (LC.tm a) (LC.tn a) (LC.en a) (LC.dp a) (LC.ix a) (LC.sp a) (LC.sy0 a) (LC.ta a) (LC.tc0 a) (LC.ts a) (LC.tp a) (LC.th a) (LC.ep a) (LC.sk a) (LC.br a) o.2.2.2.2.2.2.2.2.2.2.2.2.2.2.2.2.1 o.2.2.2.2.2.2.2.2.2.2.2.2.2.2.2.2.2 (LC.c a) (LC.h a) (LC.l a) (LC.cw a) (LC.rc0 a) (LC.rh a) (LC.rl a), LM.mk o'.2.1 o'.2.2.1 (LM.lv m) o'.2.2.2.2.2.2.2.1 o'.2.2.2.2.2.2.2.2.1 o'.2.2.2.2.2.2.2.2.2.2.2.1 o'.2.2.2.2.2.2.2.2.2.2.2.2.1 o'.2.2.2.2.2.2.2.2.2.2.2.2.2.2.2.2.2.2 (LM.fn0 m) (LM.ft0 m) (LM.fp0 m) (LM.fq0 m) (LM.ml m) (LM.top m) (LM.at0 m) (LM.stp m) (LM.trd m) (LM.nds m) (LM.mde m) (LM.ers m) (LM.rlg m) (LM.lefts m) (LM.sizes m) (LM.rights m) o'.2.2.2.1 o'.2.2.2.2.1 o'.2.2.2.2.2.1 o'.2.2.2.2.2.2.1 (LM.mc m) (LM.md m) (LM.asked m) o'.2.2.2.2.2.2.2.2.2.1 o'.2.2.2.2.2.2.2.2.2.2.1 o'.2.2.2.2.2.2.2.2.2.2.2.2.2.1 o'.2.2.2.2.2.2.2.2.2.2.2.2.2.2.1 o'.2.2.2.2.2.2.2.2.2.2.2.2.2.2.2.1 o'.2.2.2.2.2.2.2.2.2.2.2.2.2.2.2.2.1 o'.2.2.2.2.2.2.2.2.2.2.2.2.2.2.2.2.2.1 (LM.mv m) (LM.mz m) (LM.ms m) (LM.mi m) (LM.ks m) (LM.kp m) (LM.trs m) (LM.nsy m) (LM.npa m) (LM.era m) (LM.erk m) (LM.ert m) (LM.mw m) (LM.be m) (LM.bl m) (LM.pt m) (LM.pl0 m) (LM.rp m), ⟨r1, hI, hY, hW, hR, hP⟩, fun rc => ?_⟩
  unfold lP2
  rw [e1, Option.bind_some, e2, Option.bind_some, if_pos e3]
set_option maxHeartbeats 2000000 in
theorem z3 {N : Nat} (hN : 2000 < N) (xs : Nat → Int32) (i : Int32) {a : LC} {m : LM} (h : REL a m) : ∃ a' m', REL a' m' ∧ ∀ rc, lP3 N xs rc i a m = rc (i + 7, a', m') := by
  obtain ⟨⟨G, hs, L, H⟩, hI, hY, hW, hR, hP⟩ := h
  obtain ⟨o, o', e1, e2, e3, r1⟩ := k_count H hN
  refine ⟨a, m, ⟨r1, hI, hY, hW, hR, hP⟩, fun rc => ?_⟩
  unfold lP3
  rw [e1, Option.bind_some, e2, Option.bind_some, if_pos e3]
set_option maxHeartbeats 2000000 in
theorem z4 {N : Nat} (hN : 2000 < N) (xs : Nat → Int32) (i : Int32) {a : LC} {m : LM} (h : REL a m) : ∃ a' m', REL a' m' ∧ ∀ rc, lP4 N xs rc i a m = rc (i + 7, a', m') := by
  obtain ⟨⟨G, hs, L, H⟩, hI, hY, hW, hR, hP⟩ := h
  obtain ⟨o, o', e1, e2, e3, r1⟩ := k_leftSide H (xs (i + 1).toNatClampNeg) hN
  refine ⟨a, m, ⟨r1, hI, hY, hW, hR, hP⟩, fun rc => ?_⟩
  unfold lP4
  rw [e1, Option.bind_some, e2, Option.bind_some, if_pos e3]
set_option maxHeartbeats 2000000 in
theorem z5 {N : Nat} (hN : 2000 < N) (xs : Nat → Int32) (i : Int32) {a : LC} {m : LM} (h : REL a m) : ∃ a' m', REL a' m' ∧ ∀ rc, lP5 N xs rc i a m = rc (i + 7, a', m') := by
  obtain ⟨⟨G, hs, L, H⟩, hI, hY, hW, hR, hP⟩ := h
  obtain ⟨o, o', e1, e2, e3, r1⟩ := k_rightLength H (xs (i + 1).toNatClampNeg) hN
  refine ⟨a, m, ⟨r1, hI, hY, hW, hR, hP⟩, fun rc => ?_⟩
  unfold lP5
  rw [e1, Option.bind_some, e2, Option.bind_some, if_pos e3]
set_option maxHeartbeats 2000000 in
theorem z6 {N : Nat} (hN : 2000 < N) (xs : Nat → Int32) (i : Int32) {a : LC} {m : LM} (h : REL a m) : ∃ a' m', REL a' m' ∧ ∀ rc, lP6 N xs rc i a m = rc (i + 7, a', m') := by
  obtain ⟨⟨G, hs, L, H⟩, hI, hY, hW, hR, hP⟩ := h
  obtain ⟨o, o', e1, e2, e3, r1⟩ := k_rightSymbol H (xs (i + 1).toNatClampNeg) (xs (i + 2).toNatClampNeg) hN
  refine ⟨a, m, ⟨r1, hI, hY, hW, hR, hP⟩, fun rc => ?_⟩
  unfold lP6
  rw [e1, Option.bind_some, e2, Option.bind_some, if_pos e3]
set_option maxHeartbeats 2000000 in
theorem z7 {N : Nat} (hN : 2000 < N) (xs : Nat → Int32) (i : Int32) {a : LC} {m : LM} (h : REL a m) : ∃ a' m', REL a' m' ∧ ∀ rc, lP7 N xs rc i a m = rc (i + 7, a', m') := by
  obtain ⟨⟨G, hs, L, H⟩, hI, hY, hW, hR, hP⟩ := h
  obtain ⟨o, o', e1, e2, e3, r1⟩ := k_nullable H (LM.tr m) (LM.tl m) (xs (i + 1).toNatClampNeg) hN
  refine ⟨a, LM.mk (LM.rules m) (LM.ed m) (LM.lv m) o'.2.1 o'.2.2.1 (LM.ik m) (LM.ke m) o'.2.2.2.2.2.2.2.2 (LM.fn0 m) (LM.ft0 m) (LM.fp0 m) (LM.fq0 m) (LM.ml m) (LM.top m) (LM.at0 m) (LM.stp m) (LM.trd m) (LM.nds m) (LM.mde m) (LM.ers m) (LM.rlg m) (LM.lefts m) (LM.sizes m) (LM.rights m) (LM.pr m) (LM.pl m) (LM.pz m) (LM.pg m) (LM.mc m) (LM.md m) (LM.asked m) o'.2.2.2.1 o'.2.2.2.2.1 (LM.kf m) (LM.kw m) o'.2.2.2.2.2.1 o'.2.2.2.2.2.2.1 o'.2.2.2.2.2.2.2.1 (LM.mv m) (LM.mz m) (LM.ms m) (LM.mi m) (LM.ks m) (LM.kp m) (LM.trs m) (LM.nsy m) (LM.npa m) (LM.era m) (LM.erk m) (LM.ert m) (LM.mw m) (LM.be m) (LM.bl m) (LM.pt m) (LM.pl0 m) (LM.rp m), ⟨r1, hI, hY, hW, hR, hP⟩, fun rc => ?_⟩
  unfold lP7
  rw [e1, Option.bind_some, e2, Option.bind_some, if_pos e3]
set_option maxHeartbeats 2000000 in
theorem z8 {N : Nat} (hN : 2000 < N) (xs : Nat → Int32) (i : Int32) {a : LC} {m : LM} (h : REL a m) : ∃ a' m', REL a' m' ∧ ∀ rc, lP8 N xs rc i a m = rc (i + 7, a', m') := by
  obtain ⟨⟨G, hs, L, H⟩, hI, hY, hW, hR, hP⟩ := h
  obtain ⟨o, o', e1, e2, e3, r1⟩ := k_firstSet H (LM.tr m) (LM.tl m) (xs (i + 1).toNatClampNeg) hN
  refine ⟨a, LM.mk (LM.rules m) (LM.ed m) (LM.lv m) o'.2.1 o'.2.2.1 (LM.ik m) (LM.ke m) o'.2.2.2.2.2.2.2.2 (LM.fn0 m) (LM.ft0 m) (LM.fp0 m) (LM.fq0 m) (LM.ml m) (LM.top m) (LM.at0 m) (LM.stp m) (LM.trd m) (LM.nds m) (LM.mde m) (LM.ers m) (LM.rlg m) (LM.lefts m) (LM.sizes m) (LM.rights m) (LM.pr m) (LM.pl m) (LM.pz m) (LM.pg m) (LM.mc m) (LM.md m) (LM.asked m) o'.2.2.2.1 o'.2.2.2.2.1 (LM.kf m) (LM.kw m) o'.2.2.2.2.2.1 o'.2.2.2.2.2.2.1 o'.2.2.2.2.2.2.2.1 (LM.mv m) (LM.mz m) (LM.ms m) (LM.mi m) (LM.ks m) (LM.kp m) (LM.trs m) (LM.nsy m) (LM.npa m) (LM.era m) (LM.erk m) (LM.ert m) (LM.mw m) (LM.be m) (LM.bl m) (LM.pt m) (LM.pl0 m) (LM.rp m), ⟨r1, hI, hY, hW, hR, hP⟩, fun rc => ?_⟩
  unfold lP8
  rw [e1, Option.bind_some, e2, Option.bind_some, if_pos e3]
set_option maxHeartbeats 2000000 in
theorem z9 {N : Nat} (hN : 2000 < N) (xs : Nat → Int32) (i : Int32) {a : LC} {m : LM} (h : REL a m) : ∃ a' m', REL a' m' ∧ ∀ rc, lP9 N xs rc i a m = rc (i + 7, a', m') := by
  obtain ⟨⟨G, hs, L, H⟩, hI, hY, hW, hR, hP⟩ := h
  obtain ⟨o, o', e1, e2, e3, r1⟩ := k_followSet H (LM.tr m) (LM.tl m) (xs (i + 1).toNatClampNeg) hN
  refine ⟨a, LM.mk (LM.rules m) (LM.ed m) (LM.lv m) o'.2.1 o'.2.2.1 (LM.ik m) (LM.ke m) o'.2.2.2.2.2.2.2.2 (LM.fn0 m) (LM.ft0 m) (LM.fp0 m) (LM.fq0 m) (LM.ml m) (LM.top m) (LM.at0 m) (LM.stp m) (LM.trd m) (LM.nds m) (LM.mde m) (LM.ers m) (LM.rlg m) (LM.lefts m) (LM.sizes m) (LM.rights m) (LM.pr m) (LM.pl m) (LM.pz m) (LM.pg m) (LM.mc m) (LM.md m) (LM.asked m) o'.2.2.2.1 o'.2.2.2.2.1 (LM.kf m) (LM.kw m) o'.2.2.2.2.2.1 o'.2.2.2.2.2.2.1 o'.2.2.2.2.2.2.2.1 (LM.mv m) (LM.mz m) (LM.ms m) (LM.mi m) (LM.ks m) (LM.kp m) (LM.trs m) (LM.nsy m) (LM.npa m) (LM.era m) (LM.erk m) (LM.ert m) (LM.mw m) (LM.be m) (LM.bl m) (LM.pt m) (LM.pl0 m) (LM.rp m), ⟨r1, hI, hY, hW, hR, hP⟩, fun rc => ?_⟩
  unfold lP9
  rw [e1, Option.bind_some, e2, Option.bind_some, if_pos e3]
set_option maxHeartbeats 2000000 in
theorem z10 {N : Nat} (hN : 2000 < N) (xs : Nat → Int32) (i : Int32) {a : LC} {m : LM} (h : REL a m) : ∃ a' m', REL a' m' ∧ ∀ rc, lP10 N xs rc i a m = rc (i + 7, a', m') := by
  obtain ⟨⟨G, hs, L, H⟩, hI, hY, hW, hR, hP⟩ := h
  obtain ⟨o, o', e1, e2, e3, r1⟩ := k_selectSet H (LM.tr m) (LM.tl m) (xs (i + 1).toNatClampNeg) hN
  refine ⟨a, LM.mk (LM.rules m) (LM.ed m) (LM.lv m) o'.2.1 o'.2.2.1 (LM.ik m) (LM.ke m) o'.2.2.2.2.2.2.2.2 (LM.fn0 m) (LM.ft0 m) (LM.fp0 m) (LM.fq0 m) (LM.ml m) (LM.top m) (LM.at0 m) (LM.stp m) (LM.trd m) (LM.nds m) (LM.mde m) (LM.ers m) (LM.rlg m) (LM.lefts m) (LM.sizes m) (LM.rights m) (LM.pr m) (LM.pl m) (LM.pz m) (LM.pg m) (LM.mc m) (LM.md m) (LM.asked m) o'.2.2.2.1 o'.2.2.2.2.1 (LM.kf m) (LM.kw m) o'.2.2.2.2.2.1 o'.2.2.2.2.2.2.1 o'.2.2.2.2.2.2.2.1 (LM.mv m) (LM.mz m) (LM.ms m) (LM.mi m) (LM.ks m) (LM.kp m) (LM.trs m) (LM.nsy m) (LM.npa m) (LM.era m) (LM.erk m) (LM.ert m) (LM.mw m) (LM.be m) (LM.bl m) (LM.pt m) (LM.pl0 m) (LM.rp m), ⟨r1, hI, hY, hW, hR, hP⟩, fun rc => ?_⟩
  unfold lP10
  rw [e1, Option.bind_some, e2, Option.bind_some, if_pos e3]
set_option maxHeartbeats 2000000 in
theorem z11 {N : Nat} (hN : 2000 < N) (xs : Nat → Int32) (i : Int32) {a : LC} {m : LM} (h : REL a m) : ∃ a' m', REL a' m' ∧ ∀ rc, lP11 N xs rc i a m = rc (i + 7, a', m') := by
  obtain ⟨⟨G, hs, L, H⟩, hI, hY, hW, hR, hP⟩ := h
  obtain ⟨o, o', e1, e2, e3, r1⟩ := k_changed H (LM.tr m) (LM.tl m) hN
  refine ⟨a, LM.mk (LM.rules m) (LM.ed m) (LM.lv m) o'.2.1 o'.2.2.1 (LM.ik m) (LM.ke m) o'.2.2.2.2.2.2.2.2 (LM.fn0 m) (LM.ft0 m) (LM.fp0 m) (LM.fq0 m) (LM.ml m) (LM.top m) (LM.at0 m) (LM.stp m) (LM.trd m) (LM.nds m) (LM.mde m) (LM.ers m) (LM.rlg m) (LM.lefts m) (LM.sizes m) (LM.rights m) (LM.pr m) (LM.pl m) (LM.pz m) (LM.pg m) (LM.mc m) (LM.md m) (LM.asked m) o'.2.2.2.1 o'.2.2.2.2.1 (LM.kf m) (LM.kw m) o'.2.2.2.2.2.1 o'.2.2.2.2.2.2.1 o'.2.2.2.2.2.2.2.1 (LM.mv m) (LM.mz m) (LM.ms m) (LM.mi m) (LM.ks m) (LM.kp m) (LM.trs m) (LM.nsy m) (LM.npa m) (LM.era m) (LM.erk m) (LM.ert m) (LM.mw m) (LM.be m) (LM.bl m) (LM.pt m) (LM.pl0 m) (LM.rp m), ⟨r1, hI, hY, hW, hR, hP⟩, fun rc => ?_⟩
  unfold lP11
  rw [e1, Option.bind_some, e2, Option.bind_some, if_pos e3]
set_option maxHeartbeats 2000000 in
theorem z12 {N : Nat} (hN : 2000 < N) (xs : Nat → Int32) (i : Int32) {a : LC} {m : LM} (h : REL a m) : ∃ a' m', REL a' m' ∧ ∀ rc, lP12 N xs rc i a m = rc (i + 7, a', m') := by
  obtain ⟨⟨G, hs, L, H⟩, hI, hY, hW, hR, hP⟩ := h
  obtain ⟨o, o', e1, e2, e3, r1⟩ := k_productive H (xs (i + 1).toNatClampNeg) hN
  refine ⟨a, m, ⟨r1, hI, hY, hW, hR, hP⟩, fun rc => ?_⟩
  unfold lP12
  rw [e1, Option.bind_some, e2, Option.bind_some, if_pos e3]
set_option maxHeartbeats 2000000 in
theorem z13 {N : Nat} (hN : 2000 < N) (xs : Nat → Int32) (i : Int32) {a : LC} {m : LM} (h : REL a m) : ∃ a' m', REL a' m' ∧ ∀ rc, lP13 N xs rc i a m = rc (i + 7, a', m') := by
  obtain ⟨⟨G, hs, L, H⟩, hI, hY, hW, hR, hP⟩ := h
  obtain ⟨o, o', e1, e2, e3, r1⟩ := k_reachable H (xs (i + 1).toNatClampNeg) hN
  refine ⟨a, m, ⟨r1, hI, hY, hW, hR, hP⟩, fun rc => ?_⟩
  unfold lP13
  rw [e1, Option.bind_some, e2, Option.bind_some, if_pos e3]
set_option maxHeartbeats 2000000 in
theorem z14 {N : Nat} (hN : 2000 < N) (xs : Nat → Int32) (i : Int32) {a : LC} {m : LM} (h : REL a m) : ∃ a' m', REL a' m' ∧ ∀ rc, lP14 N xs rc i a m = rc (i + 7, a', m') := by
  obtain ⟨⟨G, hs, L, H⟩, hI, hY, hW, hR, hP⟩ := h
  obtain ⟨o, o', e1, e2, e3, r1⟩ := k_leftRec H (LC.bg a) (LM.tr m) (LM.tl m) (xs (i + 1).toNatClampNeg) hN
  refine ⟨LC.mk (LC.count a) (LC.codes a) (LC.nw a) (LC.sz a) (LC.sn a) (LC.sc a) (LC.E a) (LC.F a) (LC.W a) o.2 (LC.E0 a) (LC.F0 a) (LC.W0 a) (LC.cf a) (LC.se a) (LC.ps a) (LC.lo a) (LC.fl a) (LC.fc a) (LC.fd a) (LC.il a) (LC.tm a) (LC.tn a) (LC.en a) (LC.dp a) (LC.ix a) (LC.sp a) (LC.sy0 a) (LC.ta a) (LC.tc0 a) (LC.ts a) (LC.tp a) (LC.th a) (LC.ep a) (LC.sk a) (LC.br a) (LC.pk a) (LC.key a) (LC.c a) (LC.h a) (LC.l a) (LC.cw a) (LC.rc0 a) (LC.rh a) (LC.rl a), LM.mk (LM.rules m) (LM.ed m) (LM.lv m) o'.2.1 o'.2.2.1 (LM.ik m) (LM.ke m) o'.2.2.2.2.2.2.2.2 (LM.fn0 m) (LM.ft0 m) (LM.fp0 m) (LM.fq0 m) (LM.ml m) (LM.top m) (LM.at0 m) (LM.stp m) (LM.trd m) (LM.nds m) (LM.mde m) (LM.ers m) (LM.rlg m) (LM.lefts m) (LM.sizes m) (LM.rights m) (LM.pr m) (LM.pl m) (LM.pz m) (LM.pg m) (LM.mc m) (LM.md m) (LM.asked m) o'.2.2.2.1 o'.2.2.2.2.1 (LM.kf m) (LM.kw m) o'.2.2.2.2.2.1 o'.2.2.2.2.2.2.1 o'.2.2.2.2.2.2.2.1 (LM.mv m) (LM.mz m) (LM.ms m) (LM.mi m) (LM.ks m) (LM.kp m) (LM.trs m) (LM.nsy m) (LM.npa m) (LM.era m) (LM.erk m) (LM.ert m) (LM.mw m) (LM.be m) (LM.bl m) (LM.pt m) (LM.pl0 m) (LM.rp m), ⟨r1, hI, hY, hW, hR, hP⟩, fun rc => ?_⟩
  unfold lP14
  rw [e1, Option.bind_some, e2, Option.bind_some, if_pos e3]
set_option maxHeartbeats 2000000 in
theorem z15 {N : Nat} (hN : 2000 < N) (xs : Nat → Int32) (i : Int32) {a : LC} {m : LM} (h : REL a m) : ∃ a' m', REL a' m' ∧ ∀ rc, lP15 N xs rc i a m = rc (i + 7, a', m') := by
  obtain ⟨⟨G, hs, L, H⟩, hI, hY, hW, hR, hP⟩ := h
  obtain ⟨o, o', e1, e2, e3, r1⟩ := k_shLen H (LM.tr m) (LM.tl m) (xs (i + 1).toNatClampNeg) hN
  refine ⟨LC.mk (LC.count a) (LC.codes a) (LC.nw a) (LC.sz a) (LC.sn a) (LC.sc a) (LC.E a) (LC.F a) (LC.W a) (LC.bg a) (LC.E0 a) (LC.F0 a) (LC.W0 a) (LC.cf a) (LC.se a) (LC.ps a) (LC.lo a) (LC.fl a) (LC.fc a) (LC.fd a) (LC.il a) (LC.tm a) (LC.tn a) (LC.en a) (LC.dp a) (LC.ix a) (LC.sp a) (LC.sy0 a) (LC.ta a) (LC.tc0 a) (LC.ts a) (LC.tp a) (LC.th a) (LC.ep a) (LC.sk a) (LC.br a) o.2.2.2.2 (LC.key a) o.2.1 o.2.2.1 o.2.2.2.1 (LC.cw a) (LC.rc0 a) (LC.rh a) (LC.rl a), LM.mk (LM.rules m) (LM.ed m) (LM.lv m) o'.2.1 o'.2.2.1 (LM.ik m) (LM.ke m) o'.2.2.2.2.2.2.2.2 (LM.fn0 m) (LM.ft0 m) (LM.fp0 m) (LM.fq0 m) (LM.ml m) (LM.top m) (LM.at0 m) (LM.stp m) (LM.trd m) (LM.nds m) (LM.mde m) (LM.ers m) (LM.rlg m) (LM.lefts m) (LM.sizes m) (LM.rights m) (LM.pr m) (LM.pl m) (LM.pz m) (LM.pg m) (LM.mc m) (LM.md m) (LM.asked m) o'.2.2.2.1 o'.2.2.2.2.1 (LM.kf m) (LM.kw m) o'.2.2.2.2.2.1 o'.2.2.2.2.2.2.1 o'.2.2.2.2.2.2.2.1 (LM.mv m) (LM.mz m) (LM.ms m) (LM.mi m) (LM.ks m) (LM.kp m) (LM.trs m) (LM.nsy m) (LM.npa m) (LM.era m) (LM.erk m) (LM.ert m) (LM.mw m) (LM.be m) (LM.bl m) (LM.pt m) (LM.pl0 m) (LM.rp m), ⟨r1, hI, hY, hW, hR, hP⟩, fun rc => ?_⟩
  unfold lP15
  rw [e1, Option.bind_some, e2, Option.bind_some, if_pos e3]
set_option maxHeartbeats 2000000 in
theorem z16 {N : Nat} (hN : 2000 < N) (xs : Nat → Int32) (i : Int32) {a : LC} {m : LM} (h : REL a m) : ∃ a' m', REL a' m' ∧ ∀ rc, lP16 N xs rc i a m = rc (i + 7, a', m') := by
  obtain ⟨⟨G, hs, L, H⟩, hI, hY, hW, hR, hP⟩ := h
  obtain ⟨o, o', e1, e2, e3, r1⟩ := k_shTerm H (LM.tr m) (LM.tl m) (xs (i + 1).toNatClampNeg) (xs (i + 2).toNatClampNeg) hN
  refine ⟨LC.mk (LC.count a) (LC.codes a) (LC.nw a) (LC.sz a) (LC.sn a) (LC.sc a) (LC.E a) (LC.F a) (LC.W a) (LC.bg a) (LC.E0 a) (LC.F0 a) (LC.W0 a) (LC.cf a) (LC.se a) (LC.ps a) (LC.lo a) (LC.fl a) (LC.fc a) (LC.fd a) (LC.il a) (LC.tm a) (LC.tn a) (LC.en a) (LC.dp a) (LC.ix a) (LC.sp a) (LC.sy0 a) (LC.ta a) (LC.tc0 a) (LC.ts a) (LC.tp a) (LC.th a) (LC.ep a) (LC.sk a) (LC.br a) o.2.2.2.2 (LC.key a) o.2.1 o.2.2.1 o.2.2.2.1 (LC.cw a) (LC.rc0 a) (LC.rh a) (LC.rl a), LM.mk (LM.rules m) (LM.ed m) (LM.lv m) o'.2.1 o'.2.2.1 (LM.ik m) (LM.ke m) o'.2.2.2.2.2.2.2.2 (LM.fn0 m) (LM.ft0 m) (LM.fp0 m) (LM.fq0 m) (LM.ml m) (LM.top m) (LM.at0 m) (LM.stp m) (LM.trd m) (LM.nds m) (LM.mde m) (LM.ers m) (LM.rlg m) (LM.lefts m) (LM.sizes m) (LM.rights m) (LM.pr m) (LM.pl m) (LM.pz m) (LM.pg m) (LM.mc m) (LM.md m) (LM.asked m) o'.2.2.2.1 o'.2.2.2.2.1 (LM.kf m) (LM.kw m) o'.2.2.2.2.2.1 o'.2.2.2.2.2.2.1 o'.2.2.2.2.2.2.2.1 (LM.mv m) (LM.mz m) (LM.ms m) (LM.mi m) (LM.ks m) (LM.kp m) (LM.trs m) (LM.nsy m) (LM.npa m) (LM.era m) (LM.erk m) (LM.ert m) (LM.mw m) (LM.be m) (LM.bl m) (LM.pt m) (LM.pl0 m) (LM.rp m), ⟨r1, hI, hY, hW, hR, hP⟩, fun rc => ?_⟩
  unfold lP16
  rw [e1, Option.bind_some, e2, Option.bind_some, if_pos e3]
set_option maxHeartbeats 2000000 in
theorem z17 {N : Nat} (hN : 2000 < N) (xs : Nat → Int32) (i : Int32) {a : LC} {m : LM} (h : REL a m) : ∃ a' m', REL a' m' ∧ ∀ rc, lP17 N xs rc i a m = rc (i + 7, a', m') := by
  obtain ⟨⟨G, hs, L, H⟩, hI, hY, hW, hR, hP⟩ := h
  obtain ⟨o, o', e1, e2, e3, r1⟩ := k_table H (LM.tr m) (LM.tl m) (xs (i + 1).toNatClampNeg) (xs (i + 2).toNatClampNeg) hN
  refine ⟨a, LM.mk (LM.rules m) (LM.ed m) (LM.lv m) o'.2.1 o'.2.2.1 (LM.ik m) (LM.ke m) o'.2.2.2.2.2.2.2.2 (LM.fn0 m) (LM.ft0 m) (LM.fp0 m) (LM.fq0 m) (LM.ml m) (LM.top m) (LM.at0 m) (LM.stp m) (LM.trd m) (LM.nds m) (LM.mde m) (LM.ers m) (LM.rlg m) (LM.lefts m) (LM.sizes m) (LM.rights m) (LM.pr m) (LM.pl m) (LM.pz m) (LM.pg m) (LM.mc m) (LM.md m) (LM.asked m) o'.2.2.2.1 o'.2.2.2.2.1 (LM.kf m) (LM.kw m) o'.2.2.2.2.2.1 o'.2.2.2.2.2.2.1 o'.2.2.2.2.2.2.2.1 (LM.mv m) (LM.mz m) (LM.ms m) (LM.mi m) (LM.ks m) (LM.kp m) (LM.trs m) (LM.nsy m) (LM.npa m) (LM.era m) (LM.erk m) (LM.ert m) (LM.mw m) (LM.be m) (LM.bl m) (LM.pt m) (LM.pl0 m) (LM.rp m), ⟨r1, hI, hY, hW, hR, hP⟩, fun rc => ?_⟩
  unfold lP17
  rw [e1, Option.bind_some, e2, Option.bind_some, if_pos e3]
set_option maxHeartbeats 2000000 in
theorem z18 {N : Nat} (hN : 2000 < N) (xs : Nat → Int32) (i : Int32) {a : LC} {m : LM} (h : REL a m) : ∃ a' m', REL a' m' ∧ ∀ rc, lP18 N xs rc i a m = rc (i + 7, a', m') := by
  obtain ⟨⟨G, hs, L, H⟩, hI, hY, hW, hR, hP⟩ := h
  obtain ⟨o, o', e1, e2, e3, r1⟩ := k_confCount H (LM.tr m) (LM.tl m) (LM.fn0 m) (LM.ft0 m) (LM.fp0 m) (LM.fq0 m) hN
  refine ⟨a, LM.mk (LM.rules m) (LM.ed m) (LM.lv m) o'.2.1 o'.2.2.1 (LM.ik m) (LM.ke m) o'.2.2.2.2.2.2.2.2.1 o'.2.2.2.2.2.2.2.2.2.1 o'.2.2.2.2.2.2.2.2.2.2.1 o'.2.2.2.2.2.2.2.2.2.2.2.1 o'.2.2.2.2.2.2.2.2.2.2.2.2 (LM.ml m) (LM.top m) (LM.at0 m) (LM.stp m) (LM.trd m) (LM.nds m) (LM.mde m) (LM.ers m) (LM.rlg m) (LM.lefts m) (LM.sizes m) (LM.rights m) (LM.pr m) (LM.pl m) (LM.pz m) (LM.pg m) (LM.mc m) (LM.md m) (LM.asked m) o'.2.2.2.1 o'.2.2.2.2.1 (LM.kf m) (LM.kw m) o'.2.2.2.2.2.1 o'.2.2.2.2.2.2.1 o'.2.2.2.2.2.2.2.1 (LM.mv m) (LM.mz m) (LM.ms m) (LM.mi m) (LM.ks m) (LM.kp m) (LM.trs m) (LM.nsy m) (LM.npa m) (LM.era m) (LM.erk m) (LM.ert m) (LM.mw m) (LM.be m) (LM.bl m) (LM.pt m) (LM.pl0 m) (LM.rp m), ⟨r1, hI, hY, hW, hR, hP⟩, fun rc => ?_⟩
  unfold lP18
  rw [e1, Option.bind_some, e2, Option.bind_some, if_pos e3]
set_option maxHeartbeats 2000000 in
theorem z19 {N : Nat} (hN : 2000 < N) (xs : Nat → Int32) (i : Int32) {a : LC} {m : LM} (h : REL a m) : ∃ a' m', REL a' m' ∧ ∀ rc, lP19 N xs rc i a m = rc (i + 7, a', m') := by
  obtain ⟨⟨G, hs, L, H⟩, hI, hY, hW, hR, hP⟩ := h
  obtain ⟨o, o', e1, e2, e3, r1⟩ := k_conflict H (LM.tr m) (LM.tl m) (LM.fn0 m) (LM.ft0 m) (LM.fp0 m) (LM.fq0 m) (xs (i + 1).toNatClampNeg) (xs (i + 2).toNatClampNeg) hN
  refine ⟨a, LM.mk (LM.rules m) (LM.ed m) (LM.lv m) o'.2.1 o'.2.2.1 (LM.ik m) (LM.ke m) o'.2.2.2.2.2.2.2.2.1 o'.2.2.2.2.2.2.2.2.2.1 o'.2.2.2.2.2.2.2.2.2.2.1 o'.2.2.2.2.2.2.2.2.2.2.2.1 o'.2.2.2.2.2.2.2.2.2.2.2.2 (LM.ml m) (LM.top m) (LM.at0 m) (LM.stp m) (LM.trd m) (LM.nds m) (LM.mde m) (LM.ers m) (LM.rlg m) (LM.lefts m) (LM.sizes m) (LM.rights m) (LM.pr m) (LM.pl m) (LM.pz m) (LM.pg m) (LM.mc m) (LM.md m) (LM.asked m) o'.2.2.2.1 o'.2.2.2.2.1 (LM.kf m) (LM.kw m) o'.2.2.2.2.2.1 o'.2.2.2.2.2.2.1 o'.2.2.2.2.2.2.2.1 (LM.mv m) (LM.mz m) (LM.ms m) (LM.mi m) (LM.ks m) (LM.kp m) (LM.trs m) (LM.nsy m) (LM.npa m) (LM.era m) (LM.erk m) (LM.ert m) (LM.mw m) (LM.be m) (LM.bl m) (LM.pt m) (LM.pl0 m) (LM.rp m), ⟨r1, hI, hY, hW, hR, hP⟩, fun rc => ?_⟩
  unfold lP19
  rw [e1, Option.bind_some, e2, Option.bind_some, if_pos e3]
set_option maxHeartbeats 2000000 in
theorem z20 {N : Nat} (hN : 2000 < N) (xs : Nat → Int32) (i : Int32) {a : LC} {m : LM} (h : REL a m) : ∃ a' m', REL a' m' ∧ ∀ rc, lP20 N xs rc i a m = rc (i + 7, a', m') := by
  obtain ⟨⟨G, hs, L, H⟩, hI, hY, hW, hR, hP⟩ := h
  obtain ⟨o, o', e1, e2, e3, r1⟩ := k_confKind H (LM.tr m) (LM.tl m) (LM.fn0 m) (LM.ft0 m) (LM.fp0 m) (LM.fq0 m) (xs (i + 1).toNatClampNeg) hN
  refine ⟨a, LM.mk (LM.rules m) (LM.ed m) (LM.lv m) o'.2.1 o'.2.2.1 (LM.ik m) (LM.ke m) o'.2.2.2.2.2.2.2.2.1 o'.2.2.2.2.2.2.2.2.2.1 o'.2.2.2.2.2.2.2.2.2.2.1 o'.2.2.2.2.2.2.2.2.2.2.2.1 o'.2.2.2.2.2.2.2.2.2.2.2.2 (LM.ml m) (LM.top m) (LM.at0 m) (LM.stp m) (LM.trd m) (LM.nds m) (LM.mde m) (LM.ers m) (LM.rlg m) (LM.lefts m) (LM.sizes m) (LM.rights m) (LM.pr m) (LM.pl m) (LM.pz m) (LM.pg m) (LM.mc m) (LM.md m) (LM.asked m) o'.2.2.2.1 o'.2.2.2.2.1 (LM.kf m) (LM.kw m) o'.2.2.2.2.2.1 o'.2.2.2.2.2.2.1 o'.2.2.2.2.2.2.2.1 (LM.mv m) (LM.mz m) (LM.ms m) (LM.mi m) (LM.ks m) (LM.kp m) (LM.trs m) (LM.nsy m) (LM.npa m) (LM.era m) (LM.erk m) (LM.ert m) (LM.mw m) (LM.be m) (LM.bl m) (LM.pt m) (LM.pl0 m) (LM.rp m), ⟨r1, hI, hY, hW, hR, hP⟩, fun rc => ?_⟩
  unfold lP20
  rw [e1, Option.bind_some, e2, Option.bind_some, if_pos e3]
set_option maxHeartbeats 2000000 in
theorem z21 {N : Nat} (hN : 2000 < N) (xs : Nat → Int32) (i : Int32) {a : LC} {m : LM} (h : REL a m) : ∃ a' m', REL a' m' ∧ ∀ rc, lP21 N xs rc i a m = rc (i + 7, a', m') := by
  obtain ⟨⟨G, hs, L, H⟩, hI, hY, hW, hR, hP⟩ := h
  obtain ⟨o, o', e1, e2, e3, r1⟩ := k_exLen H (LM.tr m) (LM.tl m) (LM.fn0 m) (LM.ft0 m) (LM.fp0 m) (LM.fq0 m) (xs (i + 1).toNatClampNeg) (xs (i + 2).toNatClampNeg) hN
  refine ⟨LC.mk (LC.count a) (LC.codes a) (LC.nw a) (LC.sz a) (LC.sn a) (LC.sc a) (LC.E a) (LC.F a) (LC.W a) (LC.bg a) (LC.E0 a) (LC.F0 a) (LC.W0 a) (LC.cf a) (LC.se a) (LC.ps a) (LC.lo a) (LC.fl a) (LC.fc a) (LC.fd a) (LC.il a) (LC.tm a) (LC.tn a) (LC.en a) (LC.dp a) (LC.ix a) (LC.sp a) (LC.sy0 a) (LC.ta a) (LC.tc0 a) (LC.ts a) (LC.tp a) (LC.th a) (LC.ep a) (LC.sk a) (LC.br a) o.2.2.2.2.1 o.2.2.2.2.2 o.2.1 o.2.2.1 o.2.2.2.1 (LC.cw a) (LC.rc0 a) (LC.rh a) (LC.rl a), LM.mk (LM.rules m) (LM.ed m) (LM.lv m) o'.2.1 o'.2.2.1 (LM.ik m) (LM.ke m) o'.2.2.2.2.2.2.2.2.1 o'.2.2.2.2.2.2.2.2.2.1 o'.2.2.2.2.2.2.2.2.2.2.1 o'.2.2.2.2.2.2.2.2.2.2.2.1 o'.2.2.2.2.2.2.2.2.2.2.2.2 (LM.ml m) (LM.top m) (LM.at0 m) (LM.stp m) (LM.trd m) (LM.nds m) (LM.mde m) (LM.ers m) (LM.rlg m) (LM.lefts m) (LM.sizes m) (LM.rights m) (LM.pr m) (LM.pl m) (LM.pz m) (LM.pg m) (LM.mc m) (LM.md m) (LM.asked m) o'.2.2.2.1 o'.2.2.2.2.1 (LM.kf m) (LM.kw m) o'.2.2.2.2.2.1 o'.2.2.2.2.2.2.1 o'.2.2.2.2.2.2.2.1 (LM.mv m) (LM.mz m) (LM.ms m) (LM.mi m) (LM.ks m) (LM.kp m) (LM.trs m) (LM.nsy m) (LM.npa m) (LM.era m) (LM.erk m) (LM.ert m) (LM.mw m) (LM.be m) (LM.bl m) (LM.pt m) (LM.pl0 m) (LM.rp m), ⟨r1, hI, hY, hW, hR, hP⟩, fun rc => ?_⟩
  unfold lP21
  rw [e1, Option.bind_some, e2, Option.bind_some, if_pos e3]
set_option maxHeartbeats 2000000 in
theorem z22 {N : Nat} (hN : 2000 < N) (xs : Nat → Int32) (i : Int32) {a : LC} {m : LM} (h : REL a m) : ∃ a' m', REL a' m' ∧ ∀ rc, lP22 N xs rc i a m = rc (i + 7, a', m') := by
  obtain ⟨⟨G, hs, L, H⟩, hI, hY, hW, hR, hP⟩ := h
  obtain ⟨o, o', e1, e2, e3, r1⟩ := k_exTerm H (LM.tr m) (LM.tl m) (LM.fn0 m) (LM.ft0 m) (LM.fp0 m) (LM.fq0 m) (xs (i + 1).toNatClampNeg) (xs (i + 2).toNatClampNeg) (xs (i + 3).toNatClampNeg) hN
  refine ⟨LC.mk (LC.count a) (LC.codes a) (LC.nw a) (LC.sz a) (LC.sn a) (LC.sc a) (LC.E a) (LC.F a) (LC.W a) (LC.bg a) (LC.E0 a) (LC.F0 a) (LC.W0 a) (LC.cf a) (LC.se a) (LC.ps a) (LC.lo a) (LC.fl a) (LC.fc a) (LC.fd a) (LC.il a) (LC.tm a) (LC.tn a) (LC.en a) (LC.dp a) (LC.ix a) (LC.sp a) (LC.sy0 a) (LC.ta a) (LC.tc0 a) (LC.ts a) (LC.tp a) (LC.th a) (LC.ep a) (LC.sk a) (LC.br a) o.2.2.2.2.1 o.2.2.2.2.2 o.2.1 o.2.2.1 o.2.2.2.1 (LC.cw a) (LC.rc0 a) (LC.rh a) (LC.rl a), LM.mk (LM.rules m) (LM.ed m) (LM.lv m) o'.2.1 o'.2.2.1 (LM.ik m) (LM.ke m) o'.2.2.2.2.2.2.2.2.1 o'.2.2.2.2.2.2.2.2.2.1 o'.2.2.2.2.2.2.2.2.2.2.1 o'.2.2.2.2.2.2.2.2.2.2.2.1 o'.2.2.2.2.2.2.2.2.2.2.2.2 (LM.ml m) (LM.top m) (LM.at0 m) (LM.stp m) (LM.trd m) (LM.nds m) (LM.mde m) (LM.ers m) (LM.rlg m) (LM.lefts m) (LM.sizes m) (LM.rights m) (LM.pr m) (LM.pl m) (LM.pz m) (LM.pg m) (LM.mc m) (LM.md m) (LM.asked m) o'.2.2.2.1 o'.2.2.2.2.1 (LM.kf m) (LM.kw m) o'.2.2.2.2.2.1 o'.2.2.2.2.2.2.1 o'.2.2.2.2.2.2.2.1 (LM.mv m) (LM.mz m) (LM.ms m) (LM.mi m) (LM.ks m) (LM.kp m) (LM.trs m) (LM.nsy m) (LM.npa m) (LM.era m) (LM.erk m) (LM.ert m) (LM.mw m) (LM.be m) (LM.bl m) (LM.pt m) (LM.pl0 m) (LM.rp m), ⟨r1, hI, hY, hW, hR, hP⟩, fun rc => ?_⟩
  unfold lP22
  rw [e1, Option.bind_some, e2, Option.bind_some, if_pos e3]
set_option maxHeartbeats 2000000 in
theorem z23 {N : Nat} (hN : 2000 < N) (xs : Nat → Int32) (i : Int32) {a : LC} {m : LM} (h : REL a m) : ∃ a' m', REL a' m' ∧ ∀ rc, lP23 N xs rc i a m = rc (i + 7, a', m') := by
  obtain ⟨⟨G, hs, L, H⟩, hI, hY, hW, hR, hP⟩ := h
  obtain ⟨o, o', e1, e2, e3, r1⟩ := k_check H (LM.tr m) (LM.tl m) (LM.fn0 m) (LM.ft0 m) (LM.fp0 m) (LM.fq0 m) hN
  refine ⟨LC.mk (LC.count a) (LC.codes a) (LC.nw a) (LC.sz a) (LC.sn a) (LC.sc a) (LC.E a) (LC.F a) (LC.W a) (LC.bg a) (LC.E0 a) (LC.F0 a) (LC.W0 a) (LC.cf a) (LC.se a) (LC.ps a) (LC.lo a) o.2.2.2 o.2.1 o.2.2.1 (LC.il a) (LC.tm a) (LC.tn a) (LC.en a) (LC.dp a) (LC.ix a) (LC.sp a) (LC.sy0 a) (LC.ta a) (LC.tc0 a) (LC.ts a) (LC.tp a) (LC.th a) (LC.ep a) (LC.sk a) (LC.br a) (LC.pk a) (LC.key a) (LC.c a) (LC.h a) (LC.l a) (LC.cw a) (LC.rc0 a) (LC.rh a) (LC.rl a), LM.mk (LM.rules m) (LM.ed m) o'.2.1 o'.2.2.2.2.1 o'.2.2.2.2.2.1 (LM.ik m) (LM.ke m) o'.2.2.2.2.2.2.2.2.2.2.2.1 o'.2.2.2.2.2.2.2.2.2.2.2.2.1 o'.2.2.2.2.2.2.2.2.2.2.2.2.2.1 o'.2.2.2.2.2.2.2.2.2.2.2.2.2.2.1 o'.2.2.2.2.2.2.2.2.2.2.2.2.2.2.2 (LM.ml m) (LM.top m) (LM.at0 m) (LM.stp m) (LM.trd m) (LM.nds m) (LM.mde m) (LM.ers m) (LM.rlg m) (LM.lefts m) (LM.sizes m) (LM.rights m) (LM.pr m) (LM.pl m) (LM.pz m) (LM.pg m) o'.2.2.1 o'.2.2.2.1 (LM.asked m) o'.2.2.2.2.2.2.1 o'.2.2.2.2.2.2.2.1 (LM.kf m) (LM.kw m) o'.2.2.2.2.2.2.2.2.1 o'.2.2.2.2.2.2.2.2.2.1 o'.2.2.2.2.2.2.2.2.2.2.1 (LM.mv m) (LM.mz m) (LM.ms m) (LM.mi m) (LM.ks m) (LM.kp m) (LM.trs m) (LM.nsy m) (LM.npa m) (LM.era m) (LM.erk m) (LM.ert m) (LM.mw m) (LM.be m) (LM.bl m) (LM.pt m) (LM.pl0 m) (LM.rp m), ⟨r1, hI, hY, hW, hR, hP⟩, fun rc => ?_⟩
  unfold lP23
  rw [e1, Option.bind_some, e2, Option.bind_some, if_pos e3]
set_option maxHeartbeats 2000000 in
theorem z24 {N : Nat} (hN : 2000 < N) (xs : Nat → Int32) (i : Int32) {a : LC} {m : LM} (h : REL a m) : ∃ a' m', REL a' m' ∧ ∀ rc, lP24 N xs rc i a m = rc (i + 7, a', m') := by
  obtain ⟨⟨G, hs, L, H⟩, hI, hY, hW, hR, hP⟩ := h
  obtain ⟨o, o', e1, e2, e3, r1⟩ := k_leftFactor H (LM.tr m) (LM.tl m) (LM.mv m) (LM.mz m) (xs (i + 1).toNatClampNeg) hN
  refine ⟨LC.mk o.2.2.1 o.2.1 o.2.2.2.2.2.1 o.2.2.2.2.2.2.1 o.2.2.2.2.1 o.2.2.2.1 o.2.2.2.2.2.2.2.1 o.2.2.2.2.2.2.2.2.1 o.2.2.2.2.2.2.2.2.2.1 (LC.bg a) o.2.2.2.2.2.2.2.2.2.2.1 o.2.2.2.2.2.2.2.2.2.2.2.1 o.2.2.2.2.2.2.2.2.2.2.2.2.1 o.2.2.2.2.2.2.2.2.2.2.2.2.2.2.2.2.1 o.2.2.2.2.2.2.2.2.2.2.2.2.2.1 o.2.2.2.2.2.2.2.2.2.2.2.2.2.2.1 o.2.2.2.2.2.2.2.2.2.2.2.2.2.2.2.1 o.2.2.2.2.2.2.2.2.2.2.2.2.2.2.2.2.2.2.2.1 o.2.2.2.2.2.2.2.2.2.2.2.2.2.2.2.2.2.1 o.2.2.2.2.2.2.2.2.2.2.2.2.2.2.2.2.2.2.1 (LC.il a) (LC.tm a) (LC.tn a) (LC.en a) (LC.dp a) (LC.ix a) (LC.sp a) (LC.sy0 a) (LC.ta a) (LC.tc0 a) (LC.ts a) (LC.tp a) (LC.th a) (LC.ep a) (LC.sk a) (LC.br a) o.2.2.2.2.2.2.2.2.2.2.2.2.2.2.2.2.2.2.2.2.1 o.2.2.2.2.2.2.2.2.2.2.2.2.2.2.2.2.2.2.2.2.2 (LC.c a) (LC.h a) (LC.l a) (LC.cw a) (LC.rc0 a) (LC.rh a) (LC.rl a), LM.mk o'.2.1 o'.2.2.2.2.2.1 o'.2.2.2.2.2.2.2.2.2.2.1 o'.2.2.2.2.2.2.2.2.2.2.2.2.2.1 o'.2.2.2.2.2.2.2.2.2.2.2.2.2.2.1 o'.2.2.2.2.2.2.2.2.2.2.2.2.2.2.2.2.2.1 o'.2.2.2.2.2.2.2.2.2.2.2.2.2.2.2.2.2.2.1 o'.2.2.2.2.2.2.2.2.2.2.2.2.2.2.2.2.2.2.2.2.2.2.2.2.1 (LM.fn0 m) (LM.ft0 m) (LM.fp0 m) (LM.fq0 m) (LM.ml m) (LM.top m) (LM.at0 m) (LM.stp m) (LM.trd m) (LM.nds m) (LM.mde m) (LM.ers m) (LM.rlg m) o'.2.2.1 o'.2.2.2.1 o'.2.2.2.2.1 o'.2.2.2.2.2.2.1 o'.2.2.2.2.2.2.2.1 o'.2.2.2.2.2.2.2.2.1 o'.2.2.2.2.2.2.2.2.2.1 o'.2.2.2.2.2.2.2.2.2.2.2.1 o'.2.2.2.2.2.2.2.2.2.2.2.2.1 (LM.asked m) o'.2.2.2.2.2.2.2.2.2.2.2.2.2.2.2.1 o'.2.2.2.2.2.2.2.2.2.2.2.2.2.2.2.2.1 o'.2.2.2.2.2.2.2.2.2.2.2.2.2.2.2.2.2.2.2.1 o'.2.2.2.2.2.2.2.2.2.2.2.2.2.2.2.2.2.2.2.2.1 o'.2.2.2.2.2.2.2.2.2.2.2.2.2.2.2.2.2.2.2.2.2.1 o'.2.2.2.2.2.2.2.2.2.2.2.2.2.2.2.2.2.2.2.2.2.2.1 o'.2.2.2.2.2.2.2.2.2.2.2.2.2.2.2.2.2.2.2.2.2.2.2.1 o'.2.2.2.2.2.2.2.2.2.2.2.2.2.2.2.2.2.2.2.2.2.2.2.2.2.1 o'.2.2.2.2.2.2.2.2.2.2.2.2.2.2.2.2.2.2.2.2.2.2.2.2.2.2 (LM.ms m) (LM.mi m) (LM.ks m) (LM.kp m) (LM.trs m) (LM.nsy m) (LM.npa m) (LM.era m) (LM.erk m) (LM.ert m) (LM.mw m) (LM.be m) (LM.bl m) (LM.pt m) (LM.pl0 m) (LM.rp m), ⟨r1, hI, hY, hW, hR, hP⟩, fun rc => ?_⟩
  unfold lP24
  rw [e1, Option.bind_some, e2, Option.bind_some, if_pos e3]
set_option maxHeartbeats 2000000 in
theorem z25 {N : Nat} (hN : 2000 < N) (xs : Nat → Int32) (i : Int32) {a : LC} {m : LM} (h : REL a m) : ∃ a' m', REL a' m' ∧ ∀ rc, lP25 N xs rc i a m = rc (i + 7, a', m') := by
  obtain ⟨⟨G, hs, L, H⟩, hI, hY, hW, hR, hP⟩ := h
  obtain ⟨o, o', e1, e2, e3, r1⟩ := k_removeLR H (LM.tr m) (LM.tl m) (LM.mv m) (LM.mz m) (xs (i + 1).toNatClampNeg) hN
  refine ⟨LC.mk o.2.2.1 o.2.1 o.2.2.2.2.2.1 o.2.2.2.2.2.2.1 o.2.2.2.2.1 o.2.2.2.1 o.2.2.2.2.2.2.2.1 o.2.2.2.2.2.2.2.2.1 o.2.2.2.2.2.2.2.2.2.1 (LC.bg a) o.2.2.2.2.2.2.2.2.2.2.1 o.2.2.2.2.2.2.2.2.2.2.2.1 o.2.2.2.2.2.2.2.2.2.2.2.2.1 o.2.2.2.2.2.2.2.2.2.2.2.2.2.2.2.2.1 o.2.2.2.2.2.2.2.2.2.2.2.2.2.1 o.2.2.2.2.2.2.2.2.2.2.2.2.2.2.1 o.2.2.2.2.2.2.2.2.2.2.2.2.2.2.2.1 o.2.2.2.2.2.2.2.2.2.2.2.2.2.2.2.2.2.2.2.1 o.2.2.2.2.2.2.2.2.2.2.2.2.2.2.2.2.2.1 o.2.2.2.2.2.2.2.2.2.2.2.2.2.2.2.2.2.2.1 (LC.il a) (LC.tm a) (LC.tn a) (LC.en a) (LC.dp a) (LC.ix a) (LC.sp a) (LC.sy0 a) (LC.ta a) (LC.tc0 a) (LC.ts a) (LC.tp a) (LC.th a) (LC.ep a) (LC.sk a) (LC.br a) o.2.2.2.2.2.2.2.2.2.2.2.2.2.2.2.2.2.2.2.2.1 o.2.2.2.2.2.2.2.2.2.2.2.2.2.2.2.2.2.2.2.2.2 (LC.c a) (LC.h a) (LC.l a) (LC.cw a) (LC.rc0 a) (LC.rh a) (LC.rl a), LM.mk o'.2.1 o'.2.2.2.2.2.1 o'.2.2.2.2.2.2.2.2.2.2.1 o'.2.2.2.2.2.2.2.2.2.2.2.2.2.1 o'.2.2.2.2.2.2.2.2.2.2.2.2.2.2.1 o'.2.2.2.2.2.2.2.2.2.2.2.2.2.2.2.2.2.1 o'.2.2.2.2.2.2.2.2.2.2.2.2.2.2.2.2.2.2.1 o'.2.2.2.2.2.2.2.2.2.2.2.2.2.2.2.2.2.2.2.2.2.2.2.2.1 (LM.fn0 m) (LM.ft0 m) (LM.fp0 m) (LM.fq0 m) (LM.ml m) (LM.top m) (LM.at0 m) (LM.stp m) (LM.trd m) (LM.nds m) (LM.mde m) (LM.ers m) (LM.rlg m) o'.2.2.1 o'.2.2.2.1 o'.2.2.2.2.1 o'.2.2.2.2.2.2.1 o'.2.2.2.2.2.2.2.1 o'.2.2.2.2.2.2.2.2.1 o'.2.2.2.2.2.2.2.2.2.1 o'.2.2.2.2.2.2.2.2.2.2.2.1 o'.2.2.2.2.2.2.2.2.2.2.2.2.1 (LM.asked m) o'.2.2.2.2.2.2.2.2.2.2.2.2.2.2.2.1 o'.2.2.2.2.2.2.2.2.2.2.2.2.2.2.2.2.1 o'.2.2.2.2.2.2.2.2.2.2.2.2.2.2.2.2.2.2.2.1 o'.2.2.2.2.2.2.2.2.2.2.2.2.2.2.2.2.2.2.2.2.1 o'.2.2.2.2.2.2.2.2.2.2.2.2.2.2.2.2.2.2.2.2.2.1 o'.2.2.2.2.2.2.2.2.2.2.2.2.2.2.2.2.2.2.2.2.2.2.1 o'.2.2.2.2.2.2.2.2.2.2.2.2.2.2.2.2.2.2.2.2.2.2.2.1 o'.2.2.2.2.2.2.2.2.2.2.2.2.2.2.2.2.2.2.2.2.2.2.2.2.2.1 o'.2.2.2.2.2.2.2.2.2.2.2.2.2.2.2.2.2.2.2.2.2.2.2.2.2.2 (LM.ms m) (LM.mi m) (LM.ks m) (LM.kp m) (LM.trs m) (LM.nsy m) (LM.npa m) (LM.era m) (LM.erk m) (LM.ert m) (LM.mw m) (LM.be m) (LM.bl m) (LM.pt m) (LM.pl0 m) (LM.rp m), ⟨r1, hI, hY, hW, hR, hP⟩, fun rc => ?_⟩
  unfold lP25
  rw [e1, Option.bind_some, e2, Option.bind_some, if_pos e3]
set_option maxHeartbeats 2000000 in
theorem z26 {N : Nat} (hN : 2000 < N) (xs : Nat → Int32) (i : Int32) {a : LC} {m : LM} (h : REL a m) : ∃ a' m', REL a' m' ∧ ∀ rc, lP26 N xs rc i a m = rc (i + 7, a', m') := by
  obtain ⟨⟨G, hs, L, H⟩, hI, hY, hW, hR, hP⟩ := h
  obtain ⟨o, o', e1, e2, e3, r1⟩ := k_undo H (LM.tr m) (LM.tl m) hN
  refine ⟨LC.mk o.2.2.1 o.2.1 o.2.2.2.1 o.2.2.2.2.1 (LC.sn a) (LC.sc a) o.2.2.2.2.2.1 o.2.2.2.2.2.2.1 o.2.2.2.2.2.2.2.1 (LC.bg a) o.2.2.2.2.2.2.2.2.1 o.2.2.2.2.2.2.2.2.2.1 o.2.2.2.2.2.2.2.2.2.2.1 o.2.2.2.2.2.2.2.2.2.2.2.2.2.2.1 o.2.2.2.2.2.2.2.2.2.2.2.1 o.2.2.2.2.2.2.2.2.2.2.2.2.1 o.2.2.2.2.2.2.2.2.2.2.2.2.2.1 (LC.fl a) (LC.fc a) (LC.fd a) (LC.il a) (LC.tm a) (LC.tn a) (LC.en a) (LC.dp a) (LC.ix a) (LC.sp a) (LC.sy0 a) (LC.ta a) (LC.tc0 a) (LC.ts a) (LC.tp a) (LC.th a) (LC.ep a) (LC.sk a) (LC.br a) o.2.2.2.2.2.2.2.2.2.2.2.2.2.2.2.1 o.2.2.2.2.2.2.2.2.2.2.2.2.2.2.2.2 (LC.c a) (LC.h a) (LC.l a) (LC.cw a) (LC.rc0 a) (LC.rh a) (LC.rl a), LM.mk o'.2.1 o'.2.2.2.2.2.1 (LM.lv m) o'.2.2.2.2.2.2.1 o'.2.2.2.2.2.2.2.1 o'.2.2.2.2.2.2.2.2.2.2.1 o'.2.2.2.2.2.2.2.2.2.2.2.1 o'.2.2.2.2.2.2.2.2.2.2.2.2.2.2.2.2.2 (LM.fn0 m) (LM.ft0 m) (LM.fp0 m) (LM.fq0 m) (LM.ml m) (LM.top m) (LM.at0 m) (LM.stp m) (LM.trd m) (LM.nds m) (LM.mde m) (LM.ers m) (LM.rlg m) o'.2.2.1 o'.2.2.2.1 o'.2.2.2.2.1 (LM.pr m) (LM.pl m) (LM.pz m) (LM.pg m) (LM.mc m) (LM.md m) (LM.asked m) o'.2.2.2.2.2.2.2.2.1 o'.2.2.2.2.2.2.2.2.2.1 o'.2.2.2.2.2.2.2.2.2.2.2.2.1 o'.2.2.2.2.2.2.2.2.2.2.2.2.2.1 o'.2.2.2.2.2.2.2.2.2.2.2.2.2.2.1 o'.2.2.2.2.2.2.2.2.2.2.2.2.2.2.2.1 o'.2.2.2.2.2.2.2.2.2.2.2.2.2.2.2.2.1 (LM.mv m) (LM.mz m) (LM.ms m) (LM.mi m) (LM.ks m) (LM.kp m) (LM.trs m) (LM.nsy m) (LM.npa m) (LM.era m) (LM.erk m) (LM.ert m) (LM.mw m) (LM.be m) (LM.bl m) (LM.pt m) (LM.pl0 m) (LM.rp m), ⟨r1, hI, hY, hW, hR, hP⟩, fun rc => ?_⟩
  unfold lP26
  rw [e1, Option.bind_some, e2, Option.bind_some, if_pos e3]
set_option maxHeartbeats 2000000 in
theorem z27 {N : Nat} (hN : 2000 < N) (xs : Nat → Int32) (i : Int32) {a : LC} {m : LM} (h : REL a m) : ∃ a' m', REL a' m' ∧ ∀ rc, lP27 N xs rc i a m = rc (i + 7, a', m') := by
  obtain ⟨⟨G, hs, L, H⟩, hI, hY, hW, hR, hP⟩ := h
  obtain ⟨o, o', e1, e2, e3, r1⟩ := k_sync hY (xs (i + 1).toNatClampNeg) (xs (i + 2).toNatClampNeg)
  refine ⟨LC.mk (LC.count a) (LC.codes a) (LC.nw a) (LC.sz a) (LC.sn a) (LC.sc a) (LC.E a) (LC.F a) (LC.W a) (LC.bg a) (LC.E0 a) (LC.F0 a) (LC.W0 a) (LC.cf a) (LC.se a) (LC.ps a) (LC.lo a) (LC.fl a) (LC.fc a) (LC.fd a) (LC.il a) (LC.tm a) (LC.tn a) (LC.en a) (LC.dp a) (LC.ix a) (LC.sp a) o.2 (LC.ta a) (LC.tc0 a) (LC.ts a) (LC.tp a) (LC.th a) (LC.ep a) (LC.sk a) (LC.br a) (LC.pk a) (LC.key a) (LC.c a) (LC.h a) (LC.l a) (LC.cw a) (LC.rc0 a) (LC.rh a) (LC.rl a), LM.mk (LM.rules m) (LM.ed m) (LM.lv m) (LM.iw m) (LM.e m) (LM.ik m) (LM.ke m) (LM.tl m) (LM.fn0 m) (LM.ft0 m) (LM.fp0 m) (LM.fq0 m) (LM.ml m) (LM.top m) (LM.at0 m) (LM.stp m) (LM.trd m) (LM.nds m) (LM.mde m) (LM.ers m) (LM.rlg m) (LM.lefts m) (LM.sizes m) (LM.rights m) (LM.pr m) (LM.pl m) (LM.pz m) (LM.pg m) (LM.mc m) (LM.md m) (LM.asked m) (LM.f m) (LM.w m) (LM.kf m) (LM.kw m) (LM.st m) (LM.lg m) (LM.tr m) (LM.mv m) (LM.mz m) o'.2 (LM.mi m) (LM.ks m) (LM.kp m) (LM.trs m) (LM.nsy m) (LM.npa m) (LM.era m) (LM.erk m) (LM.ert m) (LM.mw m) (LM.be m) (LM.bl m) (LM.pt m) (LM.pl0 m) (LM.rp m), ⟨⟨G, hs, L, H⟩, hI, r1, hW, hR, hP⟩, fun rc => ?_⟩
  unfold lP27
  rw [e1, Option.bind_some, e2, Option.bind_some, if_pos e3]
set_option maxHeartbeats 2000000 in
theorem z28 {N : Nat} (hN : 2000 < N) (xs : Nat → Int32) (i : Int32) {a : LC} {m : LM} (h : REL a m) : ∃ a' m', REL a' m' ∧ ∀ rc, lP28 N xs rc i a m = rc (i + 7, a', m') := by
  obtain ⟨⟨G, hs, L, H⟩, hI, hY, hW, hR, hP⟩ := h
  obtain ⟨o, o', e1, e2, e3, r1⟩ := k_append hI (xs (i + 1).toNatClampNeg) hN
  refine ⟨LC.mk (LC.count a) (LC.codes a) (LC.nw a) (LC.sz a) (LC.sn a) (LC.sc a) (LC.E a) (LC.F a) (LC.W a) (LC.bg a) (LC.E0 a) (LC.F0 a) (LC.W0 a) (LC.cf a) (LC.se a) (LC.ps a) (LC.lo a) (LC.fl a) (LC.fc a) (LC.fd a) o.2.2 o.2.1 (LC.tn a) (LC.en a) (LC.dp a) (LC.ix a) (LC.sp a) (LC.sy0 a) (LC.ta a) (LC.tc0 a) (LC.ts a) (LC.tp a) (LC.th a) (LC.ep a) (LC.sk a) (LC.br a) (LC.pk a) (LC.key a) (LC.c a) (LC.h a) (LC.l a) (LC.cw a) (LC.rc0 a) (LC.rh a) (LC.rl a), LM.mk (LM.rules m) (LM.ed m) (LM.lv m) (LM.iw m) (LM.e m) (LM.ik m) (LM.ke m) (LM.tl m) (LM.fn0 m) (LM.ft0 m) (LM.fp0 m) (LM.fq0 m) o'.2.2 (LM.top m) (LM.at0 m) (LM.stp m) (LM.trd m) (LM.nds m) (LM.mde m) (LM.ers m) (LM.rlg m) (LM.lefts m) (LM.sizes m) (LM.rights m) (LM.pr m) (LM.pl m) (LM.pz m) (LM.pg m) (LM.mc m) (LM.md m) (LM.asked m) (LM.f m) (LM.w m) (LM.kf m) (LM.kw m) (LM.st m) (LM.lg m) (LM.tr m) (LM.mv m) (LM.mz m) (LM.ms m) o'.2.1 (LM.ks m) (LM.kp m) (LM.trs m) (LM.nsy m) (LM.npa m) (LM.era m) (LM.erk m) (LM.ert m) (LM.mw m) (LM.be m) (LM.bl m) (LM.pt m) (LM.pl0 m) (LM.rp m), ⟨⟨G, hs, L, H⟩, r1, hY, hW, hR, hP⟩, fun rc => ?_⟩
  unfold lP28
  rw [e1, Option.bind_some, e2, Option.bind_some, if_pos e3]
set_option maxHeartbeats 2000000 in
theorem z29 {N : Nat} (hN : 2000 < N) (xs : Nat → Int32) (i : Int32) {a : LC} {m : LM} (h : REL a m) : ∃ a' m', REL a' m' ∧ ∀ rc, lP29 N xs rc i a m = rc (i + 7, a', m') := by
  obtain ⟨⟨G, hs, L, H⟩, hI, hY, hW, hR, hP⟩ := h
  obtain ⟨o, o', e1, e2, e3, r1⟩ := k_clearIn hI
  refine ⟨LC.mk (LC.count a) (LC.codes a) (LC.nw a) (LC.sz a) (LC.sn a) (LC.sc a) (LC.E a) (LC.F a) (LC.W a) (LC.bg a) (LC.E0 a) (LC.F0 a) (LC.W0 a) (LC.cf a) (LC.se a) (LC.ps a) (LC.lo a) (LC.fl a) (LC.fc a) (LC.fd a) o.2 (LC.tm a) (LC.tn a) (LC.en a) (LC.dp a) (LC.ix a) (LC.sp a) (LC.sy0 a) (LC.ta a) (LC.tc0 a) (LC.ts a) (LC.tp a) (LC.th a) (LC.ep a) (LC.sk a) (LC.br a) (LC.pk a) (LC.key a) (LC.c a) (LC.h a) (LC.l a) (LC.cw a) (LC.rc0 a) (LC.rh a) (LC.rl a), LM.mk (LM.rules m) (LM.ed m) (LM.lv m) (LM.iw m) (LM.e m) (LM.ik m) (LM.ke m) (LM.tl m) (LM.fn0 m) (LM.ft0 m) (LM.fp0 m) (LM.fq0 m) o'.2 (LM.top m) (LM.at0 m) (LM.stp m) (LM.trd m) (LM.nds m) (LM.mde m) (LM.ers m) (LM.rlg m) (LM.lefts m) (LM.sizes m) (LM.rights m) (LM.pr m) (LM.pl m) (LM.pz m) (LM.pg m) (LM.mc m) (LM.md m) (LM.asked m) (LM.f m) (LM.w m) (LM.kf m) (LM.kw m) (LM.st m) (LM.lg m) (LM.tr m) (LM.mv m) (LM.mz m) (LM.ms m) (LM.mi m) (LM.ks m) (LM.kp m) (LM.trs m) (LM.nsy m) (LM.npa m) (LM.era m) (LM.erk m) (LM.ert m) (LM.mw m) (LM.be m) (LM.bl m) (LM.pt m) (LM.pl0 m) (LM.rp m), ⟨⟨G, hs, L, H⟩, r1, hY, hW, hR, hP⟩, fun rc => ?_⟩
  unfold lP29
  rw [e1, Option.bind_some, e2, Option.bind_some, if_pos e3]
set_option maxHeartbeats 2000000 in
theorem z30 {N : Nat} (hN : 2000 < N) (xs : Nat → Int32) (i : Int32) {a : LC} {m : LM} (h : REL a m) : ∃ a' m', REL a' m' ∧ ∀ rc, lP30 N xs rc i a m = rc (i + 7, a', m') := by
  obtain ⟨⟨G, hs, L, H⟩, hI, hY, hW, hR, hP⟩ := h
  obtain ⟨o, o', e1, e2, e3⟩ := k_inputT hI (xs (i + 1).toNatClampNeg)
  refine ⟨a, m, ⟨⟨G, hs, L, H⟩, hI, hY, hW, hR, hP⟩, fun rc => ?_⟩
  unfold lP30
  rw [e1, Option.bind_some, e2, Option.bind_some, if_pos e3]
set_option maxHeartbeats 2000000 in
theorem z31 {N : Nat} (hN : 2000 < N) (xs : Nat → Int32) (i : Int32) {a : LC} {m : LM} (h : REL a m) : ∃ a' m', REL a' m' ∧ ∀ rc, lP31 N xs rc i a m = rc (i + 7, a', m') := by
  obtain ⟨⟨G, hs, L, H⟩, hI, hY, hW, hR, hP⟩ := h
  obtain ⟨o, o', e1, e2, e3, r1, r2⟩ := k_parse H hI hP (LM.tr m) (LM.tl m) (LC.sk a) (LC.br a) (LC.dp a) (LC.ix a) (LC.sp a) (LM.ks m) (LM.kp m) (LM.top m) (LM.at0 m) (LM.stp m) (LM.mde m) hN
  refine ⟨LC.mk (LC.count a) (LC.codes a) (LC.nw a) (LC.sz a) (LC.sn a) (LC.sc a) (LC.E a) (LC.F a) (LC.W a) (LC.bg a) (LC.E0 a) (LC.F0 a) (LC.W0 a) (LC.cf a) (LC.se a) (LC.ps a) (LC.lo a) o.2.2.2.1 o.2.1 o.2.2.1 (LC.il a) (LC.tm a) o.2.2.2.2.2.1 (LC.en a) o.2.2.2.2.2.2.2.2.2.2.2.2.1 o.2.2.2.2.2.2.2.2.2.2.2.2.2.1 o.2.2.2.2.2.2.2.2.2.2.2.2.2.2 (LC.sy0 a) o.2.2.2.2.1 o.2.2.2.2.2.2.2.2.2.1 o.2.2.2.2.2.2.1 o.2.2.2.2.2.2.2.1 o.2.2.2.2.2.2.2.2.1 (LC.ep a) o.2.2.2.2.2.2.2.2.2.2.1 o.2.2.2.2.2.2.2.2.2.2.2.1 (LC.pk a) (LC.key a) (LC.c a) (LC.h a) (LC.l a) (LC.cw a) (LC.rc0 a) (LC.rh a) (LC.rl a), LM.mk (LM.rules m) (LM.ed m) o'.2.1 o'.2.2.2.2.1 o'.2.2.2.2.2.1 (LM.ik m) (LM.ke m) o'.2.2.2.2.2.2.2.2.2.2.2.1 (LM.fn0 m) (LM.ft0 m) (LM.fp0 m) (LM.fq0 m) (LM.ml m) o'.2.2.2.2.2.2.2.2.2.2.2.2.2.2.1 o'.2.2.2.2.2.2.2.2.2.2.2.2.2.2.2.1 o'.2.2.2.2.2.2.2.2.2.2.2.2.2.2.2.2.1 o'.2.2.2.2.2.2.2.2.2.2.2.2.2.2.2.2.2.1 o'.2.2.2.2.2.2.2.2.2.2.2.2.2.2.2.2.2.2.2.1 o'.2.2.2.2.2.2.2.2.2.2.2.2.2.2.2.2.2.2.2.2.1 (LM.ers m) (LM.rlg m) (LM.lefts m) (LM.sizes m) (LM.rights m) (LM.pr m) (LM.pl m) (LM.pz m) (LM.pg m) o'.2.2.1 o'.2.2.2.1 (LM.asked m) o'.2.2.2.2.2.2.1 o'.2.2.2.2.2.2.2.1 (LM.kf m) (LM.kw m) o'.2.2.2.2.2.2.2.2.1 o'.2.2.2.2.2.2.2.2.2.1 o'.2.2.2.2.2.2.2.2.2.2.1 (LM.mv m) (LM.mz m) (LM.ms m) (LM.mi m) o'.2.2.2.2.2.2.2.2.2.2.2.2.1 o'.2.2.2.2.2.2.2.2.2.2.2.2.2.1 o'.2.2.2.2.2.2.2.2.2.2.2.2.2.2.2.2.2.2.1 o'.2.2.2.2.2.2.2.2.2.2.2.2.2.2.2.2.2.2.2.2.2.1 o'.2.2.2.2.2.2.2.2.2.2.2.2.2.2.2.2.2.2.2.2.2.2 (LM.era m) (LM.erk m) (LM.ert m) (LM.mw m) (LM.be m) (LM.bl m) (LM.pt m) (LM.pl0 m) (LM.rp m), ⟨r1, hI, hY, hW, hR, r2⟩, fun rc => ?_⟩
  unfold lP31
  rw [e1, Option.bind_some, e2, Option.bind_some, if_pos e3]
set_option maxHeartbeats 2000000 in
theorem z32 {N : Nat} (hN : 2000 < N) (xs : Nat → Int32) (i : Int32) {a : LC} {m : LM} (h : REL a m) : ∃ a' m', REL a' m' ∧ ∀ rc, lP32 N xs rc i a m = rc (i + 7, a', m') := by
  obtain ⟨⟨G, hs, L, H⟩, hI, hY, hW, hR, hP⟩ := h
  obtain ⟨o, o', e1, e2, e3, r1, r2⟩ := k_recover H hI hY hP (LM.tr m) (LM.tl m) (LC.sk a) (LC.br a) (LC.dp a) (LC.ix a) (LC.sp a) (LM.ks m) (LM.kp m) (LM.top m) (LM.at0 m) (LM.stp m) (LM.mde m) hN
  refine ⟨LC.mk (LC.count a) (LC.codes a) (LC.nw a) (LC.sz a) (LC.sn a) (LC.sc a) (LC.E a) (LC.F a) (LC.W a) (LC.bg a) (LC.E0 a) (LC.F0 a) (LC.W0 a) (LC.cf a) (LC.se a) (LC.ps a) (LC.lo a) (LC.fl a) (LC.fc a) (LC.fd a) (LC.il a) (LC.tm a) o.2.2.1 o.2.2.2.2.2.1 o.2.2.2.2.2.2.2.2.1 o.2.2.2.2.2.2.2.2.2.1 o.2.2.2.2.2.2.2.2.2.2 (LC.sy0 a) o.2.1 o.2.2.2.1 (LC.ts a) (LC.tp a) (LC.th a) o.2.2.2.2.1 o.2.2.2.2.2.2.1 o.2.2.2.2.2.2.2.1 (LC.pk a) (LC.key a) (LC.c a) (LC.h a) (LC.l a) (LC.cw a) (LC.rc0 a) (LC.rh a) (LC.rl a), LM.mk (LM.rules m) (LM.ed m) (LM.lv m) o'.2.1 o'.2.2.1 (LM.ik m) (LM.ke m) o'.2.2.2.2.2.2.2.2.1 (LM.fn0 m) (LM.ft0 m) (LM.fp0 m) (LM.fq0 m) (LM.ml m) o'.2.2.2.2.2.2.2.2.2.2.2.1 o'.2.2.2.2.2.2.2.2.2.2.2.2.1 o'.2.2.2.2.2.2.2.2.2.2.2.2.2.1 o'.2.2.2.2.2.2.2.2.2.2.2.2.2.2.1 o'.2.2.2.2.2.2.2.2.2.2.2.2.2.2.2.2.1 o'.2.2.2.2.2.2.2.2.2.2.2.2.2.2.2.2.2.1 o'.2.2.2.2.2.2.2.2.2.2.2.2.2.2.2.2.2.2.2.2.1 (LM.rlg m) (LM.lefts m) (LM.sizes m) (LM.rights m) (LM.pr m) (LM.pl m) (LM.pz m) (LM.pg m) (LM.mc m) (LM.md m) (LM.asked m) o'.2.2.2.1 o'.2.2.2.2.1 (LM.kf m) (LM.kw m) o'.2.2.2.2.2.1 o'.2.2.2.2.2.2.1 o'.2.2.2.2.2.2.2.1 (LM.mv m) (LM.mz m) (LM.ms m) (LM.mi m) o'.2.2.2.2.2.2.2.2.2.1 o'.2.2.2.2.2.2.2.2.2.2.1 o'.2.2.2.2.2.2.2.2.2.2.2.2.2.2.2.1 o'.2.2.2.2.2.2.2.2.2.2.2.2.2.2.2.2.2.2.1 o'.2.2.2.2.2.2.2.2.2.2.2.2.2.2.2.2.2.2.2.1 o'.2.2.2.2.2.2.2.2.2.2.2.2.2.2.2.2.2.2.2.2.2.1 o'.2.2.2.2.2.2.2.2.2.2.2.2.2.2.2.2.2.2.2.2.2.2.1 o'.2.2.2.2.2.2.2.2.2.2.2.2.2.2.2.2.2.2.2.2.2.2.2 (LM.mw m) (LM.be m) (LM.bl m) (LM.pt m) (LM.pl0 m) (LM.rp m), ⟨r1, hI, hY, hW, hR, r2⟩, fun rc => ?_⟩
  unfold lP32
  rw [e1, Option.bind_some, e2, Option.bind_some, if_pos e3]
set_option maxHeartbeats 2000000 in
theorem z33 {N : Nat} (hN : 2000 < N) (xs : Nat → Int32) (i : Int32) {a : LC} {m : LM} (h : REL a m) : ∃ a' m', REL a' m' ∧ ∀ rc, lP33 N xs rc i a m = rc (i + 7, a', m') := by
  obtain ⟨⟨G, hs, L, H⟩, hI, hY, hW, hR, hP⟩ := h
  obtain ⟨o, o', e1, e2, e3⟩ := k_error hP (xs (i + 1).toNatClampNeg) (xs (i + 2).toNatClampNeg)
  refine ⟨a, m, ⟨⟨G, hs, L, H⟩, hI, hY, hW, hR, hP⟩, fun rc => ?_⟩
  unfold lP33
  rw [e1, Option.bind_some, e2, Option.bind_some, if_pos e3]
set_option maxHeartbeats 2000000 in
theorem z34 {N : Nat} (hN : 2000 < N) (xs : Nat → Int32) (i : Int32) {a : LC} {m : LM} (h : REL a m) : ∃ a' m', REL a' m' ∧ ∀ rc, lP34 N xs rc i a m = rc (i + 7, a', m') := by
  obtain ⟨⟨G, hs, L, H⟩, hI, hY, hW, hR, hP⟩ := h
  obtain ⟨o, o', e1, e2, e3⟩ := k_traceLen hP
  refine ⟨a, m, ⟨⟨G, hs, L, H⟩, hI, hY, hW, hR, hP⟩, fun rc => ?_⟩
  unfold lP34
  rw [e1, Option.bind_some, e2, Option.bind_some, if_pos e3]
set_option maxHeartbeats 2000000 in
theorem z35 {N : Nat} (hN : 2000 < N) (xs : Nat → Int32) (i : Int32) {a : LC} {m : LM} (h : REL a m) : ∃ a' m', REL a' m' ∧ ∀ rc, lP35 N xs rc i a m = rc (i + 7, a', m') := by
  obtain ⟨⟨G, hs, L, H⟩, hI, hY, hW, hR, hP⟩ := h
  obtain ⟨o, o', e1, e2, e3⟩ := k_trace hP (xs (i + 1).toNatClampNeg)
  refine ⟨a, m, ⟨⟨G, hs, L, H⟩, hI, hY, hW, hR, hP⟩, fun rc => ?_⟩
  unfold lP35
  rw [e1, Option.bind_some, e2, Option.bind_some, if_pos e3]
set_option maxHeartbeats 2000000 in
theorem z36 {N : Nat} (hN : 2000 < N) (xs : Nat → Int32) (i : Int32) {a : LC} {m : LM} (h : REL a m) : ∃ a' m', REL a' m' ∧ ∀ rc, lP36 N xs rc i a m = rc (i + 7, a', m') := by
  obtain ⟨⟨G, hs, L, H⟩, hI, hY, hW, hR, hP⟩ := h
  obtain ⟨o, o', e1, e2, e3⟩ := k_nodeCnt hP
  refine ⟨a, m, ⟨⟨G, hs, L, H⟩, hI, hY, hW, hR, hP⟩, fun rc => ?_⟩
  unfold lP36
  rw [e1, Option.bind_some, e2, Option.bind_some, if_pos e3]
set_option maxHeartbeats 2000000 in
theorem z37 {N : Nat} (hN : 2000 < N) (xs : Nat → Int32) (i : Int32) {a : LC} {m : LM} (h : REL a m) : ∃ a' m', REL a' m' ∧ ∀ rc, lP37 N xs rc i a m = rc (i + 7, a', m') := by
  obtain ⟨⟨G, hs, L, H⟩, hI, hY, hW, hR, hP⟩ := h
  obtain ⟨o, o', e1, e2, e3⟩ := k_nodeSym hP (xs (i + 1).toNatClampNeg)
  refine ⟨a, m, ⟨⟨G, hs, L, H⟩, hI, hY, hW, hR, hP⟩, fun rc => ?_⟩
  unfold lP37
  rw [e1, Option.bind_some, e2, Option.bind_some, if_pos e3]
set_option maxHeartbeats 2000000 in
theorem z38 {N : Nat} (hN : 2000 < N) (xs : Nat → Int32) (i : Int32) {a : LC} {m : LM} (h : REL a m) : ∃ a' m', REL a' m' ∧ ∀ rc, lP38 N xs rc i a m = rc (i + 7, a', m') := by
  obtain ⟨⟨G, hs, L, H⟩, hI, hY, hW, hR, hP⟩ := h
  obtain ⟨o, o', e1, e2, e3⟩ := k_nodePar hP (xs (i + 1).toNatClampNeg)
  refine ⟨a, m, ⟨⟨G, hs, L, H⟩, hI, hY, hW, hR, hP⟩, fun rc => ?_⟩
  unfold lP38
  rw [e1, Option.bind_some, e2, Option.bind_some, if_pos e3]
set_option maxHeartbeats 2000000 in
theorem z39 {N : Nat} (hN : 2000 < N) (xs : Nat → Int32) (i : Int32) {a : LC} {m : LM} (h : REL a m) : ∃ a' m', REL a' m' ∧ ∀ rc, lP39 N xs rc i a m = rc (i + 7, a', m') := by
  obtain ⟨⟨G, hs, L, H⟩, hI, hY, hW, hR, hP⟩ := h
  obtain ⟨o, o', e1, e2, e3⟩ := k_nodeHt hP (xs (i + 1).toNatClampNeg) hN
  refine ⟨a, m, ⟨⟨G, hs, L, H⟩, hI, hY, hW, hR, hP⟩, fun rc => ?_⟩
  unfold lP39
  rw [e1, Option.bind_some, e2, Option.bind_some, if_pos e3]
set_option maxHeartbeats 2000000 in
theorem z40 {N : Nat} (hN : 2000 < N) (xs : Nat → Int32) (i : Int32) {a : LC} {m : LM} (h : REL a m) : ∃ a' m', REL a' m' ∧ ∀ rc, lP40 N xs rc i a m = rc (i + 7, a', m') := by
  obtain ⟨⟨G, hs, L, H⟩, hI, hY, hW, hR, hP⟩ := h
  obtain ⟨o, o', e1, e2, e3, r1⟩ := k_weight hW (xs (i + 1).toNatClampNeg) (xs (i + 2).toNatClampNeg)
  refine ⟨LC.mk (LC.count a) (LC.codes a) (LC.nw a) (LC.sz a) (LC.sn a) (LC.sc a) (LC.E a) (LC.F a) (LC.W a) (LC.bg a) (LC.E0 a) (LC.F0 a) (LC.W0 a) (LC.cf a) (LC.se a) (LC.ps a) (LC.lo a) (LC.fl a) (LC.fc a) (LC.fd a) (LC.il a) (LC.tm a) (LC.tn a) (LC.en a) (LC.dp a) (LC.ix a) (LC.sp a) (LC.sy0 a) (LC.ta a) (LC.tc0 a) (LC.ts a) (LC.tp a) (LC.th a) (LC.ep a) (LC.sk a) (LC.br a) (LC.pk a) (LC.key a) (LC.c a) (LC.h a) (LC.l a) o.2 (LC.rc0 a) (LC.rh a) (LC.rl a), LM.mk (LM.rules m) (LM.ed m) (LM.lv m) (LM.iw m) (LM.e m) (LM.ik m) (LM.ke m) (LM.tl m) (LM.fn0 m) (LM.ft0 m) (LM.fp0 m) (LM.fq0 m) (LM.ml m) (LM.top m) (LM.at0 m) (LM.stp m) (LM.trd m) (LM.nds m) (LM.mde m) (LM.ers m) (LM.rlg m) (LM.lefts m) (LM.sizes m) (LM.rights m) (LM.pr m) (LM.pl m) (LM.pz m) (LM.pg m) (LM.mc m) (LM.md m) (LM.asked m) (LM.f m) (LM.w m) (LM.kf m) (LM.kw m) (LM.st m) (LM.lg m) (LM.tr m) (LM.mv m) (LM.mz m) (LM.ms m) (LM.mi m) (LM.ks m) (LM.kp m) (LM.trs m) (LM.nsy m) (LM.npa m) (LM.era m) (LM.erk m) (LM.ert m) o'.2 (LM.be m) (LM.bl m) (LM.pt m) (LM.pl0 m) (LM.rp m), ⟨⟨G, hs, L, H⟩, hI, hY, r1, hR, hP⟩, fun rc => ?_⟩
  unfold lP40
  rw [e1, Option.bind_some, e2, Option.bind_some, if_pos e3]
set_option maxHeartbeats 2000000 in
theorem z41 {N : Nat} (hN : 2000 < N) (xs : Nat → Int32) (i : Int32) {a : LC} {m : LM} (h : REL a m) : ∃ a' m', REL a' m' ∧ ∀ rc, lP41 N xs rc i a m = rc (i + 7, a', m') := by
  obtain ⟨⟨G, hs, L, H⟩, hI, hY, hW, hR, hP⟩ := h
  obtain ⟨o, o', e1, e2, e3, r1⟩ := k_repair H.1 H.2.1 H.2.2.1 hI hW hR (LM.tr m) (LM.tl m) (LM.be m) (LM.bl m) (LM.pt m) (LM.pl0 m) hN
  refine ⟨LC.mk (LC.count a) (LC.codes a) (LC.nw a) (LC.sz a) (LC.sn a) (LC.sc a) (LC.E a) (LC.F a) (LC.W a) (LC.bg a) (LC.E0 a) (LC.F0 a) (LC.W0 a) (LC.cf a) (LC.se a) (LC.ps a) (LC.lo a) (LC.fl a) (LC.fc a) (LC.fd a) (LC.il a) (LC.tm a) (LC.tn a) (LC.en a) (LC.dp a) (LC.ix a) (LC.sp a) (LC.sy0 a) (LC.ta a) (LC.tc0 a) (LC.ts a) (LC.tp a) (LC.th a) (LC.ep a) (LC.sk a) (LC.br a) (LC.pk a) (LC.key a) (LC.c a) (LC.h a) (LC.l a) (LC.cw a) o.2.1 o.2.2.1 o.2.2.2, LM.mk (LM.rules m) (LM.ed m) (LM.lv m) (LM.iw m) (LM.e m) (LM.ik m) (LM.ke m) o'.2.2.1 (LM.fn0 m) (LM.ft0 m) (LM.fp0 m) (LM.fq0 m) (LM.ml m) (LM.top m) (LM.at0 m) (LM.stp m) (LM.trd m) (LM.nds m) (LM.mde m) (LM.ers m) o'.2.2.2.2.2.2.2.2 (LM.lefts m) (LM.sizes m) (LM.rights m) (LM.pr m) (LM.pl m) (LM.pz m) (LM.pg m) (LM.mc m) (LM.md m) (LM.asked m) (LM.f m) (LM.w m) (LM.kf m) (LM.kw m) (LM.st m) (LM.lg m) o'.2.1 (LM.mv m) (LM.mz m) (LM.ms m) (LM.mi m) (LM.ks m) (LM.kp m) (LM.trs m) (LM.nsy m) (LM.npa m) (LM.era m) (LM.erk m) (LM.ert m) (LM.mw m) o'.2.2.2.1 o'.2.2.2.2.1 o'.2.2.2.2.2.1 o'.2.2.2.2.2.2.1 o'.2.2.2.2.2.2.2.1, ⟨⟨G, hs, L, H⟩, hI, hY, hW, r1, hP⟩, fun rc => ?_⟩
  unfold lP41
  rw [e1, Option.bind_some, e2, Option.bind_some, if_pos e3]
set_option maxHeartbeats 2000000 in
theorem z42 {N : Nat} (hN : 2000 < N) (xs : Nat → Int32) (i : Int32) {a : LC} {m : LM} (h : REL a m) : ∃ a' m', REL a' m' ∧ ∀ rc, lP42 N xs rc i a m = rc (i + 7, a', m') := by
  obtain ⟨⟨G, hs, L, H⟩, hI, hY, hW, hR, hP⟩ := h
  obtain ⟨o, o', e1, e2, e3⟩ := k_repT hR (xs (i + 1).toNatClampNeg)
  refine ⟨a, m, ⟨⟨G, hs, L, H⟩, hI, hY, hW, hR, hP⟩, fun rc => ?_⟩
  unfold lP42
  rw [e1, Option.bind_some, e2, Option.bind_some, if_pos e3]
set_option maxHeartbeats 2000000 in
theorem z43 {N : Nat} (hN : 2000 < N) (xs : Nat → Int32) (i : Int32) {a : LC} {m : LM} (h : REL a m) : ∃ a' m', REL a' m' ∧ ∀ rc, lP43 N xs rc i a m = rc (i + 7, a', m') := by
  obtain ⟨⟨G, hs, L, H⟩, hI, hY, hW, hR, hP⟩ := h
  obtain ⟨o, o', e1, e2, e3, r1⟩ := k_levels H hN
  refine ⟨a, m, ⟨r1, hI, hY, hW, hR, hP⟩, fun rc => ?_⟩
  unfold lP43
  rw [e1, Option.bind_some, e2, Option.bind_some, if_pos e3]
set_option maxHeartbeats 2000000 in
theorem z44 {N : Nat} (hN : 2000 < N) (xs : Nat → Int32) (i : Int32) {a : LC} {m : LM} (h : REL a m) : ∃ a' m', REL a' m' ∧ ∀ rc, lP44 N xs rc i a m = rc (i + 7, a', m') := by
  obtain ⟨⟨G, hs, L, H⟩, hI, hY, hW, hR, hP⟩ := h
  obtain ⟨o, o', e1, e2, e3, r1⟩ := k_code H (xs (i + 1).toNatClampNeg) hN
  refine ⟨a, m, ⟨r1, hI, hY, hW, hR, hP⟩, fun rc => ?_⟩
  unfold lP44
  rw [e1, Option.bind_some, e2, Option.bind_some, if_pos e3]
set_option maxHeartbeats 2000000 in
theorem z45 {N : Nat} (hN : 2000 < N) (xs : Nat → Int32) (i : Int32) {a : LC} {m : LM} (h : REL a m) : ∃ a' m', REL a' m' ∧ ∀ rc, lP45 N xs rc i a m = rc (i + 7, a', m') := by
  obtain ⟨⟨G, hs, L, H⟩, hI, hY, hW, hR, hP⟩ := h
  obtain ⟨o, o', e1, e2, e3, r1⟩ := k_detail H (xs (i + 1).toNatClampNeg) hN
  refine ⟨a, m, ⟨r1, hI, hY, hW, hR, hP⟩, fun rc => ?_⟩
  unfold lP45
  rw [e1, Option.bind_some, e2, Option.bind_some, if_pos e3]
