/-! THE LAW'S LOOP, in the walk's judgement: its kit -/
section LV2
variable {ρ S : Type} {X : jC} {cc bytes : ByteArray} {nL maxL np idx ci b k n : Nat} {own : String} {ret retc : Option FieldType} {tc : jTC} {rm rmc : Room} {Q : ρ → State → Prop} {ws wc : va_W} {pc pc' : Nat} {lv : List (Nat × Value)} {st st0 As : List Value} {y : MethodName} {fs : List Value} {ls : Array Slot} {H : Heap} {locs : List Loc} {Qc : Array Value → State → Outcome → State → Prop}
theorem j_runVk (C : jx X cc nL own ret tc rm) (hm : jmv own idx y bytes maxL retc np ci) (hM : Met (j_l X) y (Cond.code y bytes maxL retc :: jtb) rmc (jPc (j_D X) tc (.ref b :: As) wc H.size) Qc 0 0 (va_A wc H.size)) (hr : rmc.cells = 0 ∧ rmc.slots = 0 ∧ rmc.frames + 1 ≤ rm.frames ∧ 8 + (maxL + 11) + rmc.locals ≤ rm.locals) (hn : As.length = np) (hP : va_P (j_D X) vwCl ws H) (hD : va_D (j_A X) ws) (qr : Nat) (hb : ws[qr]? = some (b, .inr (ci, fs))) (ps : List Nat) (hC : ps.map (fun i => ws[i]?) = wc.map some) (hnd : va_nd ps = true) (hst0 : st0 = As.reverse ++ .ref b :: st) (hst : (st.map fun v => v.category).sum ≤ 8) (hkn : k ≤ rm.cells ∧ n ≤ rm.slots) (hls : ls.size = nL) (hd : decode cc pc = .ok (.invokevirtual idx, 3)) :
    va_Run X.1 (j_l X) X.2.2.1 (j_R X) (j_s X) (j_m X) (j_a X) (j_b X) (j_me X) (j_c X) H locs k n 0 0 (F0 (j_m X) pc ls st0) st (Qc (Value.ref b :: As).toArray) (va_A wc H.size) := by
  obtain ⟨hx, hbb, hml, hown, hts, hK, -, -, -, hR, hN⟩ := C
  obtain ⟨⟨m1, m2, m3, m4⟩, m5, m6, T, N, m7⟩ := hm
  obtain ⟨r1, r2, r3, r4⟩ := hr
  have hcb := callB_of (R := j_R X) (rm := rmc) np hts (j_good m2) rfl r1 r2 (hts _ m3) (hts _ m1) m4 (by rw [hR]; exact ⟨r3, r4⟩)
  exact va_runV (C := y.cls) (b := b) (As := As) ⟨hx, hbb, hml, hown, hts⟩ hM ⟨hcb, hts _ m5, hts _ m6⟩ ⟨j_blind, va_recv hK hP (ci := ci) (q0 := qr) m7 hb, fun U hU hW => j_pre hK hN hP hD hC hnd hU hW⟩ rfl hn hls hst0 (lv_room hst) hd (by rw [hR]; exact hkn)
theorem j_callVIk {O1 : Option (Int32 × S)} {F : Int32 × S → Option ρ} {wn : S → va_W} (C : jx X cc nL own ret tc rm) (hd : jd cc pc (.invokevirtual idx) 3 pc') (hm : jmv own idx y bytes maxL retc np ci) (hM : ctI (j_l X) (j_D X) tc y (Cond.code y bytes maxL retc :: jtb) rmc (.ref b :: As) wc O1 wn) (hr : rmc.cells = 0 ∧ rmc.slots = 0 ∧ rmc.frames + 1 ≤ rm.frames ∧ 8 + (maxL + 11) + rmc.locals ≤ rm.locals) (hn : As.length = np) (qr : Nat) (hb : ws[qr]? = some (b, .inr (ci, fs))) (ps : List Nat) (hC : ps.map (fun i => ws[i]?) = wc.map some) (hnd : va_nd ps = true) (hst0 : st0 = As.reverse ++ .ref b :: st) (hst : (st.map fun v => v.category).sum ≤ 8) (hkn : k ≤ rm.cells ∧ n ≤ rm.slots) (wf : S → va_W) (sel : List (Bool × Nat)) (hws : ∀ u, jfit ws sel (wn u) (wf u)) (hcv : jcv sel ps = true) (h : ∀ o, jo X nL (k, n) Q (F o) (wf o.2) pc' lv (.int o.1 :: st)) : jo X nL (k, n) Q (O1.bind F) ws pc lv st0 := by
  intro o ho H locs ls hP hD hS hl
  obtain ⟨h1, rfl⟩ := hd
  obtain ⟨o1, ho1, ho2⟩ := Option.bind_eq_some_iff.mp ho
  have hrun := j_runVk (locs := locs) C hm (hM H.size o1 ho1) hr hn hP hD qr hb ps hC hnd hst0 hst hkn hl.1 h1
  have hF := va_free hD hS C.2.2.2.2.2.2.2.2.1 ps hC
  refine va_calli hrun hS (fun q _ h => hF q h) hF (fun r u t H1 locs1 ht hvm hw hB hz1 hk1 hS1 => ?_)
  subst hw
  obtain ⟨hB1, hB2⟩ := hB
  rw [ht] at hB1
  obtain ⟨hP2, hD2⟩ := j_after2 hP hD hC hF hk1 hB1 hB2 (hws u) hcv
  exact h (r, u) o ho2 H1 locs1 ls hP2 hD2 hS1 hl
theorem j_callVI0k {O1 : Option Int32} {F : Int32 → Option ρ} (C : jx X cc nL own ret tc rm) (hd : jd cc pc (.invokevirtual idx) 3 pc') (hm : jmv own idx y bytes maxL retc np ci) (hM : ctI0 (j_l X) (j_D X) tc y (Cond.code y bytes maxL retc :: jtb) rmc (.ref b :: As) wc O1) (hr : rmc.cells = 0 ∧ rmc.slots = 0 ∧ rmc.frames + 1 ≤ rm.frames ∧ 8 + (maxL + 11) + rmc.locals ≤ rm.locals) (hn : As.length = np) (qr : Nat) (hb : ws[qr]? = some (b, .inr (ci, fs))) (ps : List Nat) (hC : ps.map (fun i => ws[i]?) = wc.map some) (hnd : va_nd ps = true) (hst0 : st0 = As.reverse ++ .ref b :: st) (hst : (st.map fun v => v.category).sum ≤ 8) (hkn : k ≤ rm.cells ∧ n ≤ rm.slots) (h : ∀ r, jo X nL (k, n) Q (F r) ws pc' lv (.int r :: st)) : jo X nL (k, n) Q (O1.bind F) ws pc lv st0 := by
  intro o ho H locs ls hP hD hS hl
  obtain ⟨h1, rfl⟩ := hd
  obtain ⟨o1, ho1, ho2⟩ := Option.bind_eq_some_iff.mp ho
  have hrun := j_runVk (locs := locs) C hm (hM H.size o1 ho1) hr hn hP hD qr hb ps hC hnd hst0 hst hkn hl.1 h1
  have hF := va_free hD hS C.2.2.2.2.2.2.2.2.1 ps hC
  refine va_calli hrun hS (fun q _ h => hF q h) hF (fun r u t H1 locs1 ht hvm hw hB hz1 hk1 hS1 => ?_)
  subst hw
  rw [ht] at hB
  obtain ⟨hP2, hD2⟩ := j_after hP hD hC hk1 hB (by have := congrArg List.length hC; simpa using this) (jput_same ps wc ws hC) rfl
  exact h _ o ho2 H1 locs1 ls hP2 hD2 hS1 hl
/-- the script: an array of the caller's, outside the world -/
def lwX (X : jC) (b L : Nat) (xs : Nat → Int32) : Prop := va_X b L xs (j_s X) (j_s X).heap ∧ b < (j_s X).heap.size ∧ ¬ j_A X b
theorem j_sld {b L : Nat} {xs : Nat → Int32} {i : Int32} {O : Option ρ} {kn : Nat × Nat} (C : jx X cc nL own ret tc rm) (hX : lwX X b L xs) (hd : jd cc pc .iaload 1 pc') (hi : vp_in i L) (h : jo X nL kn Q O ws pc' lv (.int (xs i.toNatClampNeg) :: st)) : jo X nL kn Q O ws pc lv (.int i :: .ref b :: st) := by
  intro o ho H locs ls hP hD hS hl
  obtain ⟨h1, rfl⟩ := hd
  exact va_sld C.1 C.2.1 hX.1 hX.2.1 hX.2.2 hS hi h1 (h o ho H locs ls hP hD hS hl)
theorem j_slen {b L : Nat} {xs : Nat → Int32} {O : Option ρ} {kn : Nat × Nat} (C : jx X cc nL own ret tc rm) (hX : lwX X b L xs) (hd : jd cc pc .arraylength 1 pc') (h : jo X nL kn Q O ws pc' lv (.int (Int32.ofNat L) :: st)) : jo X nL kn Q O ws pc lv (.ref b :: st) := by
  intro o ho H locs ls hP hD hS hl
  obtain ⟨h1, rfl⟩ := hd
  exact va_slen C.1 C.2.1 hX.1 hX.2.1 hX.2.2 hS h1 (h o ho H locs ls hP hD hS hl)
end LV2
def lwI (i : Int32) (L : Nat) : Prop := vp_in i L ∧ vp_in (i + 1) L ∧ vp_in (i + 2) L ∧ vp_in (i + 3) L ∧ vp_in (i + 4) L ∧ vp_in (i + 5) L ∧ vp_in (i + 6) L
abbrev cL_law : ByteArray := code
abbrev LC : Type := (((((((Int32) × (Nat → Int32)) × (Int32)) × (((Int32) × (Nat → Int32)) × (Nat → Nat → Int32))) × ((((Int32) × (Nat → Int32)) × (Nat → Int32)) × (((Nat → Int32) × (Int32)) × (Nat → Int32)))) × (((((Nat → Int32) × (Int32)) × (Nat → Int32)) × (((Nat → Int32) × (Nat → Int32)) × (Int32))) × ((((Nat → Int32) × (Nat → Int32)) × (Int32)) × ((Nat → Int32) × (Int32))))) × ((((((Int32) × (Int32)) × (Int32)) × (((Int32) × (Nat → Int32)) × (Nat → Int32))) × ((((Int32) × (Nat → Int32)) × (Nat → Int32)) × ((Nat → Int32) × (Nat → Int32)))) × (((((Nat → Int32) × (Nat → Int32)) × (Int32)) × (((Int32) × (Nat → Int32)) × (Nat → Int64))) × ((((Nat → Int64) × (Nat → Int32)) × (Nat → Int32)) × ((Nat → Int64) × (Nat → Int64))))))
def LC.count (a : LC) : Int32 := a.1.1.1.1.1.1
def LC.codes (a : LC) : Nat → Int32 := a.1.1.1.1.1.2
def LC.nw (a : LC) : Int32 := a.1.1.1.1.2
def LC.sz (a : LC) : Int32 := a.1.1.1.2.1.1
def LC.sn (a : LC) : Nat → Int32 := a.1.1.1.2.1.2
def LC.sc (a : LC) : Nat → Nat → Int32 := a.1.1.1.2.2
def LC.E (a : LC) : Int32 := a.1.1.2.1.1.1
def LC.F (a : LC) : Nat → Int32 := a.1.1.2.1.1.2
def LC.W (a : LC) : Nat → Int32 := a.1.1.2.1.2
def LC.bg (a : LC) : Nat → Int32 := a.1.1.2.2.1.1
def LC.E0 (a : LC) : Int32 := a.1.1.2.2.1.2
def LC.F0 (a : LC) : Nat → Int32 := a.1.1.2.2.2
def LC.W0 (a : LC) : Nat → Int32 := a.1.2.1.1.1.1
def LC.cf (a : LC) : Int32 := a.1.2.1.1.1.2
def LC.se (a : LC) : Nat → Int32 := a.1.2.1.1.2
def LC.ps (a : LC) : Nat → Int32 := a.1.2.1.2.1.1
def LC.lo (a : LC) : Nat → Int32 := a.1.2.1.2.1.2
def LC.fl (a : LC) : Int32 := a.1.2.1.2.2
def LC.fc (a : LC) : Nat → Int32 := a.1.2.2.1.1.1
def LC.fd (a : LC) : Nat → Int32 := a.1.2.2.1.1.2
def LC.il (a : LC) : Int32 := a.1.2.2.1.2
def LC.tm (a : LC) : Nat → Int32 := a.1.2.2.2.1
def LC.tn (a : LC) : Int32 := a.1.2.2.2.2
def LC.en (a : LC) : Int32 := a.2.1.1.1.1.1
def LC.dp (a : LC) : Int32 := a.2.1.1.1.1.2
def LC.ix (a : LC) : Int32 := a.2.1.1.1.2
def LC.sp (a : LC) : Int32 := a.2.1.1.2.1.1
def LC.sy0 (a : LC) : Nat → Int32 := a.2.1.1.2.1.2
def LC.ta (a : LC) : Nat → Int32 := a.2.1.1.2.2
def LC.tc0 (a : LC) : Int32 := a.2.1.2.1.1.1
def LC.ts (a : LC) : Nat → Int32 := a.2.1.2.1.1.2
def LC.tp (a : LC) : Nat → Int32 := a.2.1.2.1.2
def LC.th (a : LC) : Nat → Int32 := a.2.1.2.2.1
def LC.ep (a : LC) : Nat → Int32 := a.2.1.2.2.2
def LC.sk (a : LC) : Nat → Int32 := a.2.2.1.1.1.1
def LC.br (a : LC) : Nat → Int32 := a.2.2.1.1.1.2
def LC.pk (a : LC) : Int32 := a.2.2.1.1.2
def LC.key (a : LC) : Int32 := a.2.2.1.2.1.1
def LC.c (a : LC) : Nat → Int32 := a.2.2.1.2.1.2
def LC.h (a : LC) : Nat → Int64 := a.2.2.1.2.2
def LC.l (a : LC) : Nat → Int64 := a.2.2.2.1.1.1
def LC.cw (a : LC) : Nat → Int32 := a.2.2.2.1.1.2
def LC.rc0 (a : LC) : Nat → Int32 := a.2.2.2.1.2
def LC.rh (a : LC) : Nat → Int64 := a.2.2.2.2.1
def LC.rl (a : LC) : Nat → Int64 := a.2.2.2.2.2
def LC.mk (count : Int32) (codes : Nat → Int32) (nw : Int32) (sz : Int32) (sn : Nat → Int32) (sc : Nat → Nat → Int32) (E : Int32) (F : Nat → Int32) (W : Nat → Int32) (bg : Nat → Int32) (E0 : Int32) (F0 : Nat → Int32) (W0 : Nat → Int32) (cf : Int32) (se : Nat → Int32) (ps : Nat → Int32) (lo : Nat → Int32) (fl : Int32) (fc : Nat → Int32) (fd : Nat → Int32) (il : Int32) (tm : Nat → Int32) (tn : Int32) (en : Int32) (dp : Int32) (ix : Int32) (sp : Int32) (sy0 : Nat → Int32) (ta : Nat → Int32) (tc0 : Int32) (ts : Nat → Int32) (tp : Nat → Int32) (th : Nat → Int32) (ep : Nat → Int32) (sk : Nat → Int32) (br : Nat → Int32) (pk : Int32) (key : Int32) (c : Nat → Int32) (h : Nat → Int64) (l : Nat → Int64) (cw : Nat → Int32) (rc0 : Nat → Int32) (rh : Nat → Int64) (rl : Nat → Int64) : LC := ((((((count, codes), nw), ((sz, sn), sc)), (((E, F), W), ((bg, E0), F0))), ((((W0, cf), se), ((ps, lo), fl)), (((fc, fd), il), (tm, tn)))), (((((en, dp), ix), ((sp, sy0), ta)), (((tc0, ts), tp), (th, ep))), ((((sk, br), pk), ((key, c), h)), (((l, cw), rc0), (rh, rl)))))
abbrev LM : Type := (((((((Int32) × (Int32)) × ((Int32) × (Int32))) × (((Int32) × (Int32)) × (Int32))) × ((((Int32) × (Int32)) × ((Int32) × (Int32))) × (((Int32) × (Int32)) × (Int32)))) × (((((Int32) × (Int32)) × ((Int32) × (Int32))) × (((Int32) × (Int32)) × (Int32))) × ((((Nat → Int32) × (Nat → Int32)) × ((Nat → Int32) × (Nat → Int32))) × (((Nat → Int32) × (Nat → Int32)) × (Nat → Int32))))) × ((((((Nat → Int32) × (Nat → Int32)) × ((Nat → Int32) × (Nat → Int32))) × (((Nat → Int32) × (Nat → Int32)) × (Nat → Int32))) × ((((Nat → Int32) × (Nat → Int32)) × ((Nat → Int32) × (Nat → Int32))) × (((Nat → Int32) × (Nat → Int32)) × (Nat → Int32)))) × (((((Nat → Int32) × (Nat → Int32)) × ((Nat → Int32) × (Nat → Int32))) × (((Nat → Int32) × (Nat → Int32)) × (Nat → Int32))) × ((((Nat → Int32) × (Nat → Int32)) × ((Nat → Int32) × (Nat → Int32))) × (((Nat → Int32) × (Nat → Int32)) × (Nat → Int32))))))
def LM.rules (a : LM) : Int32 := a.1.1.1.1.1.1
def LM.ed (a : LM) : Int32 := a.1.1.1.1.1.2
def LM.lv (a : LM) : Int32 := a.1.1.1.1.2.1
def LM.iw (a : LM) : Int32 := a.1.1.1.1.2.2
def LM.e (a : LM) : Int32 := a.1.1.1.2.1.1
def LM.ik (a : LM) : Int32 := a.1.1.1.2.1.2
def LM.ke (a : LM) : Int32 := a.1.1.1.2.2
def LM.tl (a : LM) : Int32 := a.1.1.2.1.1.1
def LM.fn0 (a : LM) : Int32 := a.1.1.2.1.1.2
def LM.ft0 (a : LM) : Int32 := a.1.1.2.1.2.1
def LM.fp0 (a : LM) : Int32 := a.1.1.2.1.2.2
def LM.fq0 (a : LM) : Int32 := a.1.1.2.2.1.1
def LM.ml (a : LM) : Int32 := a.1.1.2.2.1.2
def LM.top (a : LM) : Int32 := a.1.1.2.2.2
def LM.at0 (a : LM) : Int32 := a.1.2.1.1.1.1
def LM.stp (a : LM) : Int32 := a.1.2.1.1.1.2
def LM.trd (a : LM) : Int32 := a.1.2.1.1.2.1
def LM.nds (a : LM) : Int32 := a.1.2.1.1.2.2
def LM.mde (a : LM) : Int32 := a.1.2.1.2.1.1
def LM.ers (a : LM) : Int32 := a.1.2.1.2.1.2
def LM.rlg (a : LM) : Int32 := a.1.2.1.2.2
def LM.lefts (a : LM) : Nat → Int32 := a.1.2.2.1.1.1
def LM.sizes (a : LM) : Nat → Int32 := a.1.2.2.1.1.2
def LM.rights (a : LM) : Nat → Int32 := a.1.2.2.1.2.1
def LM.pr (a : LM) : Nat → Int32 := a.1.2.2.1.2.2
def LM.pl (a : LM) : Nat → Int32 := a.1.2.2.2.1.1
def LM.pz (a : LM) : Nat → Int32 := a.1.2.2.2.1.2
def LM.pg (a : LM) : Nat → Int32 := a.1.2.2.2.2
def LM.mc (a : LM) : Nat → Int32 := a.2.1.1.1.1.1
def LM.md (a : LM) : Nat → Int32 := a.2.1.1.1.1.2
def LM.asked (a : LM) : Nat → Int32 := a.2.1.1.1.2.1
def LM.f (a : LM) : Nat → Int32 := a.2.1.1.1.2.2
def LM.w (a : LM) : Nat → Int32 := a.2.1.1.2.1.1
def LM.kf (a : LM) : Nat → Int32 := a.2.1.1.2.1.2
def LM.kw (a : LM) : Nat → Int32 := a.2.1.1.2.2
def LM.st (a : LM) : Nat → Int32 := a.2.1.2.1.1.1
def LM.lg (a : LM) : Nat → Int32 := a.2.1.2.1.1.2
def LM.tr (a : LM) : Nat → Int32 := a.2.1.2.1.2.1
def LM.mv (a : LM) : Nat → Int32 := a.2.1.2.1.2.2
def LM.mz (a : LM) : Nat → Int32 := a.2.1.2.2.1.1
def LM.ms (a : LM) : Nat → Int32 := a.2.1.2.2.1.2
def LM.mi (a : LM) : Nat → Int32 := a.2.1.2.2.2
def LM.ks (a : LM) : Nat → Int32 := a.2.2.1.1.1.1
def LM.kp (a : LM) : Nat → Int32 := a.2.2.1.1.1.2
def LM.trs (a : LM) : Nat → Int32 := a.2.2.1.1.2.1
def LM.nsy (a : LM) : Nat → Int32 := a.2.2.1.1.2.2
def LM.npa (a : LM) : Nat → Int32 := a.2.2.1.2.1.1
def LM.era (a : LM) : Nat → Int32 := a.2.2.1.2.1.2
def LM.erk (a : LM) : Nat → Int32 := a.2.2.1.2.2
def LM.ert (a : LM) : Nat → Int32 := a.2.2.2.1.1.1
def LM.mw (a : LM) : Nat → Int32 := a.2.2.2.1.1.2
def LM.be (a : LM) : Nat → Int32 := a.2.2.2.1.2.1
def LM.bl (a : LM) : Nat → Int32 := a.2.2.2.1.2.2
def LM.pt (a : LM) : Nat → Int32 := a.2.2.2.2.1.1
def LM.pl0 (a : LM) : Nat → Int32 := a.2.2.2.2.1.2
def LM.rp (a : LM) : Nat → Int32 := a.2.2.2.2.2
def LM.mk (rules : Int32) (ed : Int32) (lv : Int32) (iw : Int32) (e : Int32) (ik : Int32) (ke : Int32) (tl : Int32) (fn0 : Int32) (ft0 : Int32) (fp0 : Int32) (fq0 : Int32) (ml : Int32) (top : Int32) (at0 : Int32) (stp : Int32) (trd : Int32) (nds : Int32) (mde : Int32) (ers : Int32) (rlg : Int32) (lefts : Nat → Int32) (sizes : Nat → Int32) (rights : Nat → Int32) (pr : Nat → Int32) (pl : Nat → Int32) (pz : Nat → Int32) (pg : Nat → Int32) (mc : Nat → Int32) (md : Nat → Int32) (asked : Nat → Int32) (f : Nat → Int32) (w : Nat → Int32) (kf : Nat → Int32) (kw : Nat → Int32) (st : Nat → Int32) (lg : Nat → Int32) (tr : Nat → Int32) (mv : Nat → Int32) (mz : Nat → Int32) (ms : Nat → Int32) (mi : Nat → Int32) (ks : Nat → Int32) (kp : Nat → Int32) (trs : Nat → Int32) (nsy : Nat → Int32) (npa : Nat → Int32) (era : Nat → Int32) (erk : Nat → Int32) (ert : Nat → Int32) (mw : Nat → Int32) (be : Nat → Int32) (bl : Nat → Int32) (pt : Nat → Int32) (pl0 : Nat → Int32) (rp : Nat → Int32) : LM := ((((((rules, ed), (lv, iw)), ((e, ik), ke)), (((tl, fn0), (ft0, fp0)), ((fq0, ml), top))), ((((at0, stp), (trd, nds)), ((mde, ers), rlg)), (((lefts, sizes), (rights, pr)), ((pl, pz), pg)))), (((((mc, md), (asked, f)), ((w, kf), kw)), (((st, lg), (tr, mv)), ((mz, ms), mi))), ((((ks, kp), (trs, nsy)), ((npa, era), erk)), (((ert, mw), (be, bl)), ((pt, pl0), rp)))))
/-- the law's world: the class's cells, then the reference's -/
def wL (tc : jTC) (q : Nat → Nat) (a : LC) (m : LM) : va_W :=
  (q 0, .inr (11, [.ref (q 1), .ref (q 3), .ref (q 25), .ref (q 29), .ref (q 33), .ref (q 37), .ref (q 40), .ref (q 42), .ref (q 52), .ref (q 57)])) ::
  (q 1, .inr (6, [.ref (q 2), .int (LC.count a)])) ::
  (q 2, .inl (tc.1, 24, .inl (LC.codes a))) ::
  (q 3, .inr (2, [.ref (q 4), .int (LC.nw a), .int (LC.sz a)])) ::
  (q 4, .inl (tc.2.2, 10, .inr (.inr (.inr (.inr fun j => some (q (5 + 2 * j))))))) ::
  (q 5, .inr (6, [.ref (q 6), .int (LC.sn a 0)])) ::
  (q 6, .inl (tc.1, 24, .inl (LC.sc a 0))) ::
  (q 7, .inr (6, [.ref (q 8), .int (LC.sn a 1)])) ::
  (q 8, .inl (tc.1, 24, .inl (LC.sc a 1))) ::
  (q 9, .inr (6, [.ref (q 10), .int (LC.sn a 2)])) ::
  (q 10, .inl (tc.1, 24, .inl (LC.sc a 2))) ::
  (q 11, .inr (6, [.ref (q 12), .int (LC.sn a 3)])) ::
  (q 12, .inl (tc.1, 24, .inl (LC.sc a 3))) ::
  (q 13, .inr (6, [.ref (q 14), .int (LC.sn a 4)])) ::
  (q 14, .inl (tc.1, 24, .inl (LC.sc a 4))) ::
  (q 15, .inr (6, [.ref (q 16), .int (LC.sn a 5)])) ::
  (q 16, .inl (tc.1, 24, .inl (LC.sc a 5))) ::
  (q 17, .inr (6, [.ref (q 18), .int (LC.sn a 6)])) ::
  (q 18, .inl (tc.1, 24, .inl (LC.sc a 6))) ::
  (q 19, .inr (6, [.ref (q 20), .int (LC.sn a 7)])) ::
  (q 20, .inl (tc.1, 24, .inl (LC.sc a 7))) ::
  (q 21, .inr (6, [.ref (q 22), .int (LC.sn a 8)])) ::
  (q 22, .inl (tc.1, 24, .inl (LC.sc a 8))) ::
  (q 23, .inr (6, [.ref (q 24), .int (LC.sn a 9)])) ::
  (q 24, .inl (tc.1, 24, .inl (LC.sc a 9))) ::
  (q 25, .inr (7, [.int (LC.E a), .ref (q 26), .ref (q 27), .ref (q 28)])) ::
  (q 26, .inl (tc.1, 8, .inl (LC.F a))) ::
  (q 27, .inl (tc.1, 8, .inl (LC.W a))) ::
  (q 28, .inl (tc.1, 8, .inl (LC.bg a))) ::
  (q 29, .inr (7, [.int (LC.E0 a), .ref (q 30), .ref (q 31), .ref (q 32)])) ::
  (q 30, .inl (tc.1, 8, .inl (LC.F0 a))) ::
  (q 31, .inl (tc.1, 8, .inl (LC.W0 a))) ::
  (q 32, .inl (tc.1, 8, .inl (fun _ => 0))) ::
  (q 33, .inr (8, [.ref (q 1), .ref (q 25), .ref (q 34), .ref (q 35), .ref (q 36), .int (LC.cf a)])) ::
  (q 34, .inl (tc.1, 24, .inl (LC.se a))) ::
  (q 35, .inl (tc.1, 72, .inl (LC.ps a))) ::
  (q 36, .inl (tc.1, 72, .inl (LC.lo a))) ::
  (q 37, .inr (1, [.ref (q 38), .ref (q 39), .int (LC.fl a)])) ::
  (q 38, .inl (tc.1, 3, .inl (LC.fc a))) ::
  (q 39, .inl (tc.1, 3, .inl (LC.fd a))) ::
  (q 40, .inr (3, [.ref (q 41), .int (LC.il a)])) ::
  (q 41, .inl (tc.1, 40, .inl (LC.tm a))) ::
  (q 42, .inr (4, [.ref (q 1), .ref (q 25), .ref (q 33), .ref (q 40), .ref (q 43), .ref (q 44), .int (LC.tn a), .ref (q 45), .ref (q 49), .int (LC.en a), .ref (q 50), .ref (q 51), .int (LC.dp a), .int (LC.ix a), .int (LC.sp a)])) ::
  (q 43, .inl (tc.1, 8, .inl (LC.sy0 a))) ::
  (q 44, .inl (tc.1, 300, .inl (LC.ta a))) ::
  (q 45, .inr (9, [.ref (q 46), .ref (q 47), .ref (q 48), .int (LC.tc0 a)])) ::
  (q 46, .inl (tc.1, 300, .inl (LC.ts a))) ::
  (q 47, .inl (tc.1, 300, .inl (LC.tp a))) ::
  (q 48, .inl (tc.1, 300, .inl (LC.th a))) ::
  (q 49, .inl (tc.1, 900, .inl (LC.ep a))) ::
  (q 50, .inl (tc.1, 65, .inl (LC.sk a))) ::
  (q 51, .inl (tc.1, 65, .inl (LC.br a))) ::
  (q 52, .inr (0, [.ref (q 1), .ref (q 53), .int (LC.pk a), .int (LC.key a)])) ::
  (q 53, .inr (10, [.ref (q 54), .ref (q 55), .ref (q 56)])) ::
  (q 54, .inl (tc.1, 362, .inl (LC.c a))) ::
  (q 55, .inl (tc.2.1, 362, .inr (.inl (LC.h a)))) ::
  (q 56, .inl (tc.2.1, 362, .inr (.inl (LC.l a)))) ::
  (q 57, .inr (5, [.ref (q 1), .ref (q 40), .ref (q 58), .ref (q 59)])) ::
  (q 58, .inl (tc.1, 8, .inl (LC.cw a))) ::
  (q 59, .inr (10, [.ref (q 60), .ref (q 61), .ref (q 62)])) ::
  (q 60, .inl (tc.1, 1469, .inl (LC.rc0 a))) ::
  (q 61, .inl (tc.2.1, 1469, .inr (.inl (LC.rh a)))) ::
  (q 62, .inl (tc.2.1, 1469, .inr (.inl (LC.rl a)))) ::
  (q 63, .inr (12, (.int (LM.rules m) :: .ref (q 64) :: .ref (q 65) :: .ref (q 66) :: .int (LM.ed m) :: .ref (q 67) :: .ref (q 68) :: .ref (q 69) :: .ref (q 70) :: .int (LM.lv m) :: .ref (q 71) :: .ref (q 72) :: .ref (q 73) :: .int (LM.iw m) :: .int (LM.e m) :: .ref (q 74) :: .ref (q 75) :: .int (LM.ik m) :: .int (LM.ke m) :: .ref (q 76) :: .ref (q 77) :: .ref (q 78) :: .ref (q 79) :: .ref (q 80) :: .int (LM.tl m) :: .int (LM.fn0 m) :: .int (LM.ft0 m) :: .int (LM.fp0 m) :: .int (LM.fq0 m) :: .ref (q 81) :: .ref (q 82) :: .ref (q 83) :: .ref (q 84) :: .int (LM.ml m) :: .ref (q 85) :: .ref (q 86) :: .int (LM.top m) :: .int (LM.at0 m) :: .int (LM.stp m) :: .int (LM.trd m) :: .ref (q 87) :: .int (LM.nds m) :: .int (LM.mde m) :: .ref (q 88) :: .ref (q 89) :: .int (LM.ers m) :: .ref (q 90) :: .ref (q 91) :: .ref (q 92) :: .ref (q 93) :: .ref (q 94) :: .ref (q 95) :: .ref (q 96) :: .ref (q 97) :: .ref (q 98) :: .int (LM.rlg m) :: []))) ::
  (q 64, .inl (tc.1, 24, .inl (LM.lefts m))) ::
  (q 65, .inl (tc.1, 24, .inl (LM.sizes m))) ::
  (q 66, .inl (tc.1, 120, .inl (LM.rights m))) ::
  (q 67, .inl (tc.1, 10, .inl (LM.pr m))) ::
  (q 68, .inl (tc.1, 240, .inl (LM.pl m))) ::
  (q 69, .inl (tc.1, 240, .inl (LM.pz m))) ::
  (q 70, .inl (tc.1, 1200, .inl (LM.pg m))) ::
  (q 71, .inl (tc.1, 3, .inl (LM.mc m))) ::
  (q 72, .inl (tc.1, 3, .inl (LM.md m))) ::
  (q 73, .inl (tc.1, 5, .inl (LM.asked m))) ::
  (q 74, .inl (tc.1, 8, .inl (LM.f m))) ::
  (q 75, .inl (tc.1, 8, .inl (LM.w m))) ::
  (q 76, .inl (tc.1, 8, .inl (LM.kf m))) ::
  (q 77, .inl (tc.1, 8, .inl (LM.kw m))) ::
  (q 78, .inl (tc.1, 1280, .inl (LM.st m))) ::
  (q 79, .inl (tc.1, 32, .inl (LM.lg m))) ::
  (q 80, .inl (tc.1, 40, .inl (LM.tr m))) ::
  (q 81, .inl (tc.1, 120, .inl (LM.mv m))) ::
  (q 82, .inl (tc.1, 24, .inl (LM.mz m))) ::
  (q 83, .inl (tc.1, 8, .inl (LM.ms m))) ::
  (q 84, .inl (tc.1, 40, .inl (LM.mi m))) ::
  (q 85, .inl (tc.1, 66, .inl (LM.ks m))) ::
  (q 86, .inl (tc.1, 66, .inl (LM.kp m))) ::
  (q 87, .inl (tc.1, 300, .inl (LM.trs m))) ::
  (q 88, .inl (tc.1, 300, .inl (LM.nsy m))) ::
  (q 89, .inl (tc.1, 300, .inl (LM.npa m))) ::
  (q 90, .inl (tc.1, 300, .inl (LM.era m))) ::
  (q 91, .inl (tc.1, 300, .inl (LM.erk m))) ::
  (q 92, .inl (tc.1, 300, .inl (LM.ert m))) ::
  (q 93, .inl (tc.1, 8, .inl (LM.mw m))) ::
  (q 94, .inl (tc.1, 25920, .inl (LM.be m))) ::
  (q 95, .inl (tc.1, 648, .inl (LM.bl m))) ::
  (q 96, .inl (tc.1, 2160, .inl (LM.pt m))) ::
  (q 97, .inl (tc.1, 54, .inl (LM.pl0 m))) ::
  (q 98, .inl (tc.1, 40, .inl (LM.rp m))) :: []
theorem dL_0 : jd cL_law 0 (.new 7) 3 3 := by decide +kernel
theorem dL_3 : jd cL_law 3 (.dup) 1 4 := by decide +kernel
theorem dL_4 : jd cL_law 4 (.invokespecial 9) 3 7 := by decide +kernel
theorem dL_8 : jd cL_law 8 (.new 10) 3 11 := by decide +kernel
theorem dL_11 : jd cL_law 11 (.dup) 1 12 := by decide +kernel
theorem dL_12 : jd cL_law 12 (.invokespecial 12) 3 15 := by decide +kernel
theorem dL_16 : jdk cL_law 16 0 17 := Or.inl ⟨0, by decide +kernel⟩
theorem dL_17 : jds cL_law 17 3 18 := Or.inl ⟨3, by decide +kernel⟩
theorem dL_18 : jdi cL_law 18 3 19 := Or.inl ⟨3, by decide +kernel⟩
theorem dL_19 : jda cL_law 19 0 20 := Or.inl ⟨0, by decide +kernel⟩
theorem dL_20 : jd cL_law 20 (.arraylength) 1 21 := by decide +kernel
theorem dL_21 : jdk cL_law 21 7 23 := Or.inr (Or.inl ⟨7, by decide +kernel⟩)
theorem dL_23 : jd cL_law 23 (.isub) 1 24 := by decide +kernel
theorem dL_24 : jdb cL_law 24 (.if_icmp .gt 1294) 1294 1318 27 := by decide +kernel
theorem dL_27 : jda cL_law 27 0 28 := Or.inl ⟨0, by decide +kernel⟩
theorem dL_28 : jdi cL_law 28 3 29 := Or.inl ⟨3, by decide +kernel⟩
theorem dL_29 : jd cL_law 29 (.iaload) 1 30 := by decide +kernel
theorem dL_30 : jdk cL_law 30 63 32 := Or.inr (Or.inl ⟨63, by decide +kernel⟩)
theorem dL_32 : jd cL_law 32 (.iand) 1 33 := by decide +kernel
theorem dL_232 : jda cL_law 232 1 233 := Or.inl ⟨1, by decide +kernel⟩
theorem dL_233 : jda cL_law 233 0 234 := Or.inl ⟨0, by decide +kernel⟩
theorem dL_234 : jdi cL_law 234 3 235 := Or.inl ⟨3, by decide +kernel⟩
theorem dL_235 : jdk cL_law 235 1 236 := Or.inl ⟨1, by decide +kernel⟩
theorem dL_236 : jd cL_law 236 (.iadd) 1 237 := by decide +kernel
theorem dL_237 : jd cL_law 237 (.iaload) 1 238 := by decide +kernel
theorem dL_238 : jda cL_law 238 0 239 := Or.inl ⟨0, by decide +kernel⟩
theorem dL_239 : jdi cL_law 239 3 240 := Or.inl ⟨3, by decide +kernel⟩
theorem dL_240 : jdk cL_law 240 2 241 := Or.inl ⟨2, by decide +kernel⟩
theorem dL_241 : jd cL_law 241 (.iadd) 1 242 := by decide +kernel
theorem dL_242 : jd cL_law 242 (.iaload) 1 243 := by decide +kernel
theorem dL_243 : jda cL_law 243 0 244 := Or.inl ⟨0, by decide +kernel⟩
theorem dL_244 : jdi cL_law 244 3 245 := Or.inl ⟨3, by decide +kernel⟩
theorem dL_245 : jdk cL_law 245 3 246 := Or.inl ⟨3, by decide +kernel⟩
theorem dL_246 : jd cL_law 246 (.iadd) 1 247 := by decide +kernel
theorem dL_247 : jd cL_law 247 (.iaload) 1 248 := by decide +kernel
theorem dL_248 : jda cL_law 248 0 249 := Or.inl ⟨0, by decide +kernel⟩
theorem dL_249 : jdi cL_law 249 3 250 := Or.inl ⟨3, by decide +kernel⟩
theorem dL_250 : jdk cL_law 250 4 251 := Or.inl ⟨4, by decide +kernel⟩
theorem dL_251 : jd cL_law 251 (.iadd) 1 252 := by decide +kernel
theorem dL_252 : jd cL_law 252 (.iaload) 1 253 := by decide +kernel
theorem dL_253 : jda cL_law 253 0 254 := Or.inl ⟨0, by decide +kernel⟩
theorem dL_254 : jdi cL_law 254 3 255 := Or.inl ⟨3, by decide +kernel⟩
theorem dL_255 : jdk cL_law 255 5 256 := Or.inl ⟨5, by decide +kernel⟩
theorem dL_256 : jd cL_law 256 (.iadd) 1 257 := by decide +kernel
theorem dL_257 : jd cL_law 257 (.iaload) 1 258 := by decide +kernel
theorem dL_258 : jda cL_law 258 0 259 := Or.inl ⟨0, by decide +kernel⟩
theorem dL_259 : jdi cL_law 259 3 260 := Or.inl ⟨3, by decide +kernel⟩
theorem dL_260 : jdk cL_law 260 6 262 := Or.inr (Or.inl ⟨6, by decide +kernel⟩)
theorem dL_262 : jd cL_law 262 (.iadd) 1 263 := by decide +kernel
theorem dL_263 : jd cL_law 263 (.iaload) 1 264 := by decide +kernel
theorem dL_264 : jd cL_law 264 (.invokevirtual 13) 3 267 := by decide +kernel
theorem dL_267 : jda cL_law 267 2 268 := Or.inl ⟨2, by decide +kernel⟩
theorem dL_268 : jda cL_law 268 0 269 := Or.inl ⟨0, by decide +kernel⟩
theorem dL_269 : jdi cL_law 269 3 270 := Or.inl ⟨3, by decide +kernel⟩
theorem dL_270 : jdk cL_law 270 1 271 := Or.inl ⟨1, by decide +kernel⟩
theorem dL_271 : jd cL_law 271 (.iadd) 1 272 := by decide +kernel
theorem dL_272 : jd cL_law 272 (.iaload) 1 273 := by decide +kernel
theorem dL_273 : jda cL_law 273 0 274 := Or.inl ⟨0, by decide +kernel⟩
theorem dL_274 : jdi cL_law 274 3 275 := Or.inl ⟨3, by decide +kernel⟩
theorem dL_275 : jdk cL_law 275 2 276 := Or.inl ⟨2, by decide +kernel⟩
theorem dL_276 : jd cL_law 276 (.iadd) 1 277 := by decide +kernel
theorem dL_277 : jd cL_law 277 (.iaload) 1 278 := by decide +kernel
theorem dL_278 : jda cL_law 278 0 279 := Or.inl ⟨0, by decide +kernel⟩
theorem dL_279 : jdi cL_law 279 3 280 := Or.inl ⟨3, by decide +kernel⟩
theorem dL_280 : jdk cL_law 280 3 281 := Or.inl ⟨3, by decide +kernel⟩
theorem dL_281 : jd cL_law 281 (.iadd) 1 282 := by decide +kernel
theorem dL_282 : jd cL_law 282 (.iaload) 1 283 := by decide +kernel
theorem dL_283 : jda cL_law 283 0 284 := Or.inl ⟨0, by decide +kernel⟩
theorem dL_284 : jdi cL_law 284 3 285 := Or.inl ⟨3, by decide +kernel⟩
theorem dL_285 : jdk cL_law 285 4 286 := Or.inl ⟨4, by decide +kernel⟩
theorem dL_286 : jd cL_law 286 (.iadd) 1 287 := by decide +kernel
theorem dL_287 : jd cL_law 287 (.iaload) 1 288 := by decide +kernel
theorem dL_288 : jda cL_law 288 0 289 := Or.inl ⟨0, by decide +kernel⟩
theorem dL_289 : jdi cL_law 289 3 290 := Or.inl ⟨3, by decide +kernel⟩
theorem dL_290 : jdk cL_law 290 5 291 := Or.inl ⟨5, by decide +kernel⟩
theorem dL_291 : jd cL_law 291 (.iadd) 1 292 := by decide +kernel
theorem dL_292 : jd cL_law 292 (.iaload) 1 293 := by decide +kernel
theorem dL_293 : jda cL_law 293 0 294 := Or.inl ⟨0, by decide +kernel⟩
theorem dL_294 : jdi cL_law 294 3 295 := Or.inl ⟨3, by decide +kernel⟩
theorem dL_295 : jdk cL_law 295 6 297 := Or.inr (Or.inl ⟨6, by decide +kernel⟩)
theorem dL_297 : jd cL_law 297 (.iadd) 1 298 := by decide +kernel
theorem dL_298 : jd cL_law 298 (.iaload) 1 299 := by decide +kernel
theorem dL_299 : jd cL_law 299 (.invokevirtual 17) 3 302 := by decide +kernel
theorem dL_302 : jdb cL_law 302 (.if_icmp .eq 1010) 1010 1312 305 := by decide +kernel
theorem dL_307 : jda cL_law 307 1 308 := Or.inl ⟨1, by decide +kernel⟩
theorem dL_308 : jda cL_law 308 0 309 := Or.inl ⟨0, by decide +kernel⟩
theorem dL_309 : jdi cL_law 309 3 310 := Or.inl ⟨3, by decide +kernel⟩
theorem dL_310 : jdk cL_law 310 1 311 := Or.inl ⟨1, by decide +kernel⟩
theorem dL_311 : jd cL_law 311 (.iadd) 1 312 := by decide +kernel
theorem dL_312 : jd cL_law 312 (.iaload) 1 313 := by decide +kernel
theorem dL_313 : jd cL_law 313 (.invokevirtual 18) 3 316 := by decide +kernel
theorem dL_316 : jda cL_law 316 2 317 := Or.inl ⟨2, by decide +kernel⟩
theorem dL_317 : jda cL_law 317 0 318 := Or.inl ⟨0, by decide +kernel⟩
theorem dL_318 : jdi cL_law 318 3 319 := Or.inl ⟨3, by decide +kernel⟩
theorem dL_319 : jdk cL_law 319 1 320 := Or.inl ⟨1, by decide +kernel⟩
theorem dL_320 : jd cL_law 320 (.iadd) 1 321 := by decide +kernel
theorem dL_321 : jd cL_law 321 (.iaload) 1 322 := by decide +kernel
theorem dL_322 : jd cL_law 322 (.invokevirtual 22) 3 325 := by decide +kernel
theorem dL_325 : jdb cL_law 325 (.if_icmp .eq 987) 987 1312 328 := by decide +kernel
theorem dL_330 : jda cL_law 330 1 331 := Or.inl ⟨1, by decide +kernel⟩
theorem dL_331 : jd cL_law 331 (.invokevirtual 23) 3 334 := by decide +kernel
theorem dL_334 : jda cL_law 334 2 335 := Or.inl ⟨2, by decide +kernel⟩
theorem dL_335 : jd cL_law 335 (.invokevirtual 27) 3 338 := by decide +kernel
theorem dL_338 : jdb cL_law 338 (.if_icmp .eq 974) 974 1312 341 := by decide +kernel
theorem dL_343 : jda cL_law 343 1 344 := Or.inl ⟨1, by decide +kernel⟩
theorem dL_344 : jd cL_law 344 (.invokevirtual 28) 3 347 := by decide +kernel
theorem dL_347 : jda cL_law 347 2 348 := Or.inl ⟨2, by decide +kernel⟩
theorem dL_348 : jd cL_law 348 (.invokevirtual 31) 3 351 := by decide +kernel
theorem dL_351 : jdb cL_law 351 (.if_icmp .eq 961) 961 1312 354 := by decide +kernel
theorem dL_356 : jda cL_law 356 1 357 := Or.inl ⟨1, by decide +kernel⟩
theorem dL_357 : jda cL_law 357 0 358 := Or.inl ⟨0, by decide +kernel⟩
theorem dL_358 : jdi cL_law 358 3 359 := Or.inl ⟨3, by decide +kernel⟩
theorem dL_359 : jdk cL_law 359 1 360 := Or.inl ⟨1, by decide +kernel⟩
theorem dL_360 : jd cL_law 360 (.iadd) 1 361 := by decide +kernel
theorem dL_361 : jd cL_law 361 (.iaload) 1 362 := by decide +kernel
theorem dL_362 : jd cL_law 362 (.invokevirtual 32) 3 365 := by decide +kernel
theorem dL_365 : jda cL_law 365 2 366 := Or.inl ⟨2, by decide +kernel⟩
theorem dL_366 : jda cL_law 366 0 367 := Or.inl ⟨0, by decide +kernel⟩
theorem dL_367 : jdi cL_law 367 3 368 := Or.inl ⟨3, by decide +kernel⟩
theorem dL_368 : jdk cL_law 368 1 369 := Or.inl ⟨1, by decide +kernel⟩
theorem dL_369 : jd cL_law 369 (.iadd) 1 370 := by decide +kernel
theorem dL_370 : jd cL_law 370 (.iaload) 1 371 := by decide +kernel
theorem dL_371 : jd cL_law 371 (.invokevirtual 35) 3 374 := by decide +kernel
theorem dL_374 : jdb cL_law 374 (.if_icmp .eq 938) 938 1312 377 := by decide +kernel
theorem dL_379 : jda cL_law 379 1 380 := Or.inl ⟨1, by decide +kernel⟩
theorem dL_380 : jda cL_law 380 0 381 := Or.inl ⟨0, by decide +kernel⟩
theorem dL_381 : jdi cL_law 381 3 382 := Or.inl ⟨3, by decide +kernel⟩
theorem dL_382 : jdk cL_law 382 1 383 := Or.inl ⟨1, by decide +kernel⟩
theorem dL_383 : jd cL_law 383 (.iadd) 1 384 := by decide +kernel
theorem dL_384 : jd cL_law 384 (.iaload) 1 385 := by decide +kernel
theorem dL_385 : jd cL_law 385 (.invokevirtual 36) 3 388 := by decide +kernel
theorem dL_388 : jda cL_law 388 2 389 := Or.inl ⟨2, by decide +kernel⟩
theorem dL_389 : jda cL_law 389 0 390 := Or.inl ⟨0, by decide +kernel⟩
theorem dL_390 : jdi cL_law 390 3 391 := Or.inl ⟨3, by decide +kernel⟩
theorem dL_391 : jdk cL_law 391 1 392 := Or.inl ⟨1, by decide +kernel⟩
theorem dL_392 : jd cL_law 392 (.iadd) 1 393 := by decide +kernel
theorem dL_393 : jd cL_law 393 (.iaload) 1 394 := by decide +kernel
theorem dL_394 : jd cL_law 394 (.invokevirtual 39) 3 397 := by decide +kernel
theorem dL_397 : jdb cL_law 397 (.if_icmp .eq 915) 915 1312 400 := by decide +kernel
theorem dL_402 : jda cL_law 402 1 403 := Or.inl ⟨1, by decide +kernel⟩
theorem dL_403 : jda cL_law 403 0 404 := Or.inl ⟨0, by decide +kernel⟩
theorem dL_404 : jdi cL_law 404 3 405 := Or.inl ⟨3, by decide +kernel⟩
theorem dL_405 : jdk cL_law 405 1 406 := Or.inl ⟨1, by decide +kernel⟩
theorem dL_406 : jd cL_law 406 (.iadd) 1 407 := by decide +kernel
theorem dL_407 : jd cL_law 407 (.iaload) 1 408 := by decide +kernel
theorem dL_408 : jda cL_law 408 0 409 := Or.inl ⟨0, by decide +kernel⟩
theorem dL_409 : jdi cL_law 409 3 410 := Or.inl ⟨3, by decide +kernel⟩
theorem dL_410 : jdk cL_law 410 2 411 := Or.inl ⟨2, by decide +kernel⟩
theorem dL_411 : jd cL_law 411 (.iadd) 1 412 := by decide +kernel
theorem dL_412 : jd cL_law 412 (.iaload) 1 413 := by decide +kernel
theorem dL_413 : jd cL_law 413 (.invokevirtual 40) 3 416 := by decide +kernel
theorem dL_416 : jda cL_law 416 2 417 := Or.inl ⟨2, by decide +kernel⟩
theorem dL_417 : jda cL_law 417 0 418 := Or.inl ⟨0, by decide +kernel⟩
theorem dL_418 : jdi cL_law 418 3 419 := Or.inl ⟨3, by decide +kernel⟩
theorem dL_419 : jdk cL_law 419 1 420 := Or.inl ⟨1, by decide +kernel⟩
theorem dL_420 : jd cL_law 420 (.iadd) 1 421 := by decide +kernel
theorem dL_421 : jd cL_law 421 (.iaload) 1 422 := by decide +kernel
theorem dL_422 : jda cL_law 422 0 423 := Or.inl ⟨0, by decide +kernel⟩
theorem dL_423 : jdi cL_law 423 3 424 := Or.inl ⟨3, by decide +kernel⟩
theorem dL_424 : jdk cL_law 424 2 425 := Or.inl ⟨2, by decide +kernel⟩
theorem dL_425 : jd cL_law 425 (.iadd) 1 426 := by decide +kernel
theorem dL_426 : jd cL_law 426 (.iaload) 1 427 := by decide +kernel
theorem dL_427 : jd cL_law 427 (.invokevirtual 44) 3 430 := by decide +kernel
theorem dL_430 : jdb cL_law 430 (.if_icmp .eq 882) 882 1312 433 := by decide +kernel
theorem dL_435 : jda cL_law 435 1 436 := Or.inl ⟨1, by decide +kernel⟩
theorem dL_436 : jda cL_law 436 0 437 := Or.inl ⟨0, by decide +kernel⟩
theorem dL_437 : jdi cL_law 437 3 438 := Or.inl ⟨3, by decide +kernel⟩
theorem dL_438 : jdk cL_law 438 1 439 := Or.inl ⟨1, by decide +kernel⟩
theorem dL_439 : jd cL_law 439 (.iadd) 1 440 := by decide +kernel
theorem dL_440 : jd cL_law 440 (.iaload) 1 441 := by decide +kernel
theorem dL_441 : jd cL_law 441 (.invokevirtual 45) 3 444 := by decide +kernel
theorem dL_444 : jda cL_law 444 2 445 := Or.inl ⟨2, by decide +kernel⟩
theorem dL_445 : jda cL_law 445 0 446 := Or.inl ⟨0, by decide +kernel⟩
theorem dL_446 : jdi cL_law 446 3 447 := Or.inl ⟨3, by decide +kernel⟩
theorem dL_447 : jdk cL_law 447 1 448 := Or.inl ⟨1, by decide +kernel⟩
theorem dL_448 : jd cL_law 448 (.iadd) 1 449 := by decide +kernel
theorem dL_449 : jd cL_law 449 (.iaload) 1 450 := by decide +kernel
theorem dL_450 : jd cL_law 450 (.invokevirtual 48) 3 453 := by decide +kernel
theorem dL_453 : jdb cL_law 453 (.if_icmp .eq 859) 859 1312 456 := by decide +kernel
theorem dL_458 : jda cL_law 458 1 459 := Or.inl ⟨1, by decide +kernel⟩
theorem dL_459 : jda cL_law 459 0 460 := Or.inl ⟨0, by decide +kernel⟩
theorem dL_460 : jdi cL_law 460 3 461 := Or.inl ⟨3, by decide +kernel⟩
theorem dL_461 : jdk cL_law 461 1 462 := Or.inl ⟨1, by decide +kernel⟩
theorem dL_462 : jd cL_law 462 (.iadd) 1 463 := by decide +kernel
theorem dL_463 : jd cL_law 463 (.iaload) 1 464 := by decide +kernel
theorem dL_464 : jd cL_law 464 (.invokevirtual 49) 3 467 := by decide +kernel
theorem dL_467 : jda cL_law 467 2 468 := Or.inl ⟨2, by decide +kernel⟩
theorem dL_468 : jda cL_law 468 0 469 := Or.inl ⟨0, by decide +kernel⟩
theorem dL_469 : jdi cL_law 469 3 470 := Or.inl ⟨3, by decide +kernel⟩
theorem dL_470 : jdk cL_law 470 1 471 := Or.inl ⟨1, by decide +kernel⟩
theorem dL_471 : jd cL_law 471 (.iadd) 1 472 := by decide +kernel
theorem dL_472 : jd cL_law 472 (.iaload) 1 473 := by decide +kernel
theorem dL_473 : jd cL_law 473 (.invokevirtual 52) 3 476 := by decide +kernel
theorem dL_476 : jdb cL_law 476 (.if_icmp .eq 836) 836 1312 479 := by decide +kernel
theorem dL_481 : jda cL_law 481 1 482 := Or.inl ⟨1, by decide +kernel⟩
theorem dL_482 : jda cL_law 482 0 483 := Or.inl ⟨0, by decide +kernel⟩
theorem dL_483 : jdi cL_law 483 3 484 := Or.inl ⟨3, by decide +kernel⟩
theorem dL_484 : jdk cL_law 484 1 485 := Or.inl ⟨1, by decide +kernel⟩
theorem dL_485 : jd cL_law 485 (.iadd) 1 486 := by decide +kernel
theorem dL_486 : jd cL_law 486 (.iaload) 1 487 := by decide +kernel
theorem dL_487 : jd cL_law 487 (.invokevirtual 53) 3 490 := by decide +kernel
theorem dL_490 : jda cL_law 490 2 491 := Or.inl ⟨2, by decide +kernel⟩
theorem dL_491 : jda cL_law 491 0 492 := Or.inl ⟨0, by decide +kernel⟩
theorem dL_492 : jdi cL_law 492 3 493 := Or.inl ⟨3, by decide +kernel⟩
theorem dL_493 : jdk cL_law 493 1 494 := Or.inl ⟨1, by decide +kernel⟩
theorem dL_494 : jd cL_law 494 (.iadd) 1 495 := by decide +kernel
theorem dL_495 : jd cL_law 495 (.iaload) 1 496 := by decide +kernel
theorem dL_496 : jd cL_law 496 (.invokevirtual 56) 3 499 := by decide +kernel
theorem dL_499 : jdb cL_law 499 (.if_icmp .eq 813) 813 1312 502 := by decide +kernel
theorem dL_504 : jda cL_law 504 1 505 := Or.inl ⟨1, by decide +kernel⟩
theorem dL_505 : jda cL_law 505 0 506 := Or.inl ⟨0, by decide +kernel⟩
theorem dL_506 : jdi cL_law 506 3 507 := Or.inl ⟨3, by decide +kernel⟩
theorem dL_507 : jdk cL_law 507 1 508 := Or.inl ⟨1, by decide +kernel⟩
theorem dL_508 : jd cL_law 508 (.iadd) 1 509 := by decide +kernel
theorem dL_509 : jd cL_law 509 (.iaload) 1 510 := by decide +kernel
theorem dL_510 : jd cL_law 510 (.invokevirtual 57) 3 513 := by decide +kernel
theorem dL_513 : jda cL_law 513 2 514 := Or.inl ⟨2, by decide +kernel⟩
theorem dL_514 : jda cL_law 514 0 515 := Or.inl ⟨0, by decide +kernel⟩
theorem dL_515 : jdi cL_law 515 3 516 := Or.inl ⟨3, by decide +kernel⟩
theorem dL_516 : jdk cL_law 516 1 517 := Or.inl ⟨1, by decide +kernel⟩
theorem dL_517 : jd cL_law 517 (.iadd) 1 518 := by decide +kernel
theorem dL_518 : jd cL_law 518 (.iaload) 1 519 := by decide +kernel
theorem dL_519 : jd cL_law 519 (.invokevirtual 60) 3 522 := by decide +kernel
theorem dL_522 : jdb cL_law 522 (.if_icmp .eq 790) 790 1312 525 := by decide +kernel
theorem dL_527 : jda cL_law 527 1 528 := Or.inl ⟨1, by decide +kernel⟩
theorem dL_528 : jd cL_law 528 (.invokevirtual 61) 3 531 := by decide +kernel
theorem dL_531 : jda cL_law 531 2 532 := Or.inl ⟨2, by decide +kernel⟩
theorem dL_532 : jd cL_law 532 (.invokevirtual 64) 3 535 := by decide +kernel
theorem dL_535 : jdb cL_law 535 (.if_icmp .eq 777) 777 1312 538 := by decide +kernel
theorem dL_540 : jda cL_law 540 1 541 := Or.inl ⟨1, by decide +kernel⟩
theorem dL_541 : jda cL_law 541 0 542 := Or.inl ⟨0, by decide +kernel⟩
theorem dL_542 : jdi cL_law 542 3 543 := Or.inl ⟨3, by decide +kernel⟩
theorem dL_543 : jdk cL_law 543 1 544 := Or.inl ⟨1, by decide +kernel⟩
theorem dL_544 : jd cL_law 544 (.iadd) 1 545 := by decide +kernel
theorem dL_545 : jd cL_law 545 (.iaload) 1 546 := by decide +kernel
theorem dL_546 : jd cL_law 546 (.invokevirtual 65) 3 549 := by decide +kernel
theorem dL_549 : jda cL_law 549 2 550 := Or.inl ⟨2, by decide +kernel⟩
theorem dL_550 : jda cL_law 550 0 551 := Or.inl ⟨0, by decide +kernel⟩
theorem dL_551 : jdi cL_law 551 3 552 := Or.inl ⟨3, by decide +kernel⟩
theorem dL_552 : jdk cL_law 552 1 553 := Or.inl ⟨1, by decide +kernel⟩
theorem dL_553 : jd cL_law 553 (.iadd) 1 554 := by decide +kernel
theorem dL_554 : jd cL_law 554 (.iaload) 1 555 := by decide +kernel
theorem dL_555 : jd cL_law 555 (.invokevirtual 68) 3 558 := by decide +kernel
theorem dL_558 : jdb cL_law 558 (.if_icmp .eq 754) 754 1312 561 := by decide +kernel
theorem dL_563 : jda cL_law 563 1 564 := Or.inl ⟨1, by decide +kernel⟩
theorem dL_564 : jda cL_law 564 0 565 := Or.inl ⟨0, by decide +kernel⟩
theorem dL_565 : jdi cL_law 565 3 566 := Or.inl ⟨3, by decide +kernel⟩
theorem dL_566 : jdk cL_law 566 1 567 := Or.inl ⟨1, by decide +kernel⟩
theorem dL_567 : jd cL_law 567 (.iadd) 1 568 := by decide +kernel
theorem dL_568 : jd cL_law 568 (.iaload) 1 569 := by decide +kernel
theorem dL_569 : jd cL_law 569 (.invokevirtual 69) 3 572 := by decide +kernel
theorem dL_572 : jda cL_law 572 2 573 := Or.inl ⟨2, by decide +kernel⟩
theorem dL_573 : jda cL_law 573 0 574 := Or.inl ⟨0, by decide +kernel⟩
theorem dL_574 : jdi cL_law 574 3 575 := Or.inl ⟨3, by decide +kernel⟩
theorem dL_575 : jdk cL_law 575 1 576 := Or.inl ⟨1, by decide +kernel⟩
theorem dL_576 : jd cL_law 576 (.iadd) 1 577 := by decide +kernel
theorem dL_577 : jd cL_law 577 (.iaload) 1 578 := by decide +kernel
theorem dL_578 : jd cL_law 578 (.invokevirtual 72) 3 581 := by decide +kernel
theorem dL_581 : jdb cL_law 581 (.if_icmp .eq 731) 731 1312 584 := by decide +kernel
theorem dL_586 : jda cL_law 586 1 587 := Or.inl ⟨1, by decide +kernel⟩
theorem dL_587 : jda cL_law 587 0 588 := Or.inl ⟨0, by decide +kernel⟩
theorem dL_588 : jdi cL_law 588 3 589 := Or.inl ⟨3, by decide +kernel⟩
theorem dL_589 : jdk cL_law 589 1 590 := Or.inl ⟨1, by decide +kernel⟩
theorem dL_590 : jd cL_law 590 (.iadd) 1 591 := by decide +kernel
theorem dL_591 : jd cL_law 591 (.iaload) 1 592 := by decide +kernel
theorem dL_592 : jd cL_law 592 (.invokevirtual 73) 3 595 := by decide +kernel
theorem dL_595 : jda cL_law 595 2 596 := Or.inl ⟨2, by decide +kernel⟩
theorem dL_596 : jda cL_law 596 0 597 := Or.inl ⟨0, by decide +kernel⟩
theorem dL_597 : jdi cL_law 597 3 598 := Or.inl ⟨3, by decide +kernel⟩
theorem dL_598 : jdk cL_law 598 1 599 := Or.inl ⟨1, by decide +kernel⟩
theorem dL_599 : jd cL_law 599 (.iadd) 1 600 := by decide +kernel
theorem dL_600 : jd cL_law 600 (.iaload) 1 601 := by decide +kernel
theorem dL_601 : jd cL_law 601 (.invokevirtual 76) 3 604 := by decide +kernel
theorem dL_604 : jdb cL_law 604 (.if_icmp .eq 708) 708 1312 607 := by decide +kernel
theorem dL_609 : jda cL_law 609 1 610 := Or.inl ⟨1, by decide +kernel⟩
theorem dL_610 : jda cL_law 610 0 611 := Or.inl ⟨0, by decide +kernel⟩
theorem dL_611 : jdi cL_law 611 3 612 := Or.inl ⟨3, by decide +kernel⟩
theorem dL_612 : jdk cL_law 612 1 613 := Or.inl ⟨1, by decide +kernel⟩
theorem dL_613 : jd cL_law 613 (.iadd) 1 614 := by decide +kernel
theorem dL_614 : jd cL_law 614 (.iaload) 1 615 := by decide +kernel
theorem dL_615 : jd cL_law 615 (.invokevirtual 77) 3 618 := by decide +kernel
theorem dL_618 : jda cL_law 618 2 619 := Or.inl ⟨2, by decide +kernel⟩
theorem dL_619 : jda cL_law 619 0 620 := Or.inl ⟨0, by decide +kernel⟩
theorem dL_620 : jdi cL_law 620 3 621 := Or.inl ⟨3, by decide +kernel⟩
theorem dL_621 : jdk cL_law 621 1 622 := Or.inl ⟨1, by decide +kernel⟩
theorem dL_622 : jd cL_law 622 (.iadd) 1 623 := by decide +kernel
theorem dL_623 : jd cL_law 623 (.iaload) 1 624 := by decide +kernel
theorem dL_624 : jd cL_law 624 (.invokevirtual 80) 3 627 := by decide +kernel
theorem dL_627 : jdb cL_law 627 (.if_icmp .eq 685) 685 1312 630 := by decide +kernel
theorem dL_632 : jda cL_law 632 1 633 := Or.inl ⟨1, by decide +kernel⟩
theorem dL_633 : jda cL_law 633 0 634 := Or.inl ⟨0, by decide +kernel⟩
theorem dL_634 : jdi cL_law 634 3 635 := Or.inl ⟨3, by decide +kernel⟩
theorem dL_635 : jdk cL_law 635 1 636 := Or.inl ⟨1, by decide +kernel⟩
theorem dL_636 : jd cL_law 636 (.iadd) 1 637 := by decide +kernel
theorem dL_637 : jd cL_law 637 (.iaload) 1 638 := by decide +kernel
theorem dL_638 : jda cL_law 638 0 639 := Or.inl ⟨0, by decide +kernel⟩
theorem dL_639 : jdi cL_law 639 3 640 := Or.inl ⟨3, by decide +kernel⟩
theorem dL_640 : jdk cL_law 640 2 641 := Or.inl ⟨2, by decide +kernel⟩
theorem dL_641 : jd cL_law 641 (.iadd) 1 642 := by decide +kernel
theorem dL_642 : jd cL_law 642 (.iaload) 1 643 := by decide +kernel
theorem dL_643 : jd cL_law 643 (.invokevirtual 81) 3 646 := by decide +kernel
theorem dL_646 : jda cL_law 646 2 647 := Or.inl ⟨2, by decide +kernel⟩
theorem dL_647 : jda cL_law 647 0 648 := Or.inl ⟨0, by decide +kernel⟩
theorem dL_648 : jdi cL_law 648 3 649 := Or.inl ⟨3, by decide +kernel⟩
theorem dL_649 : jdk cL_law 649 1 650 := Or.inl ⟨1, by decide +kernel⟩
theorem dL_650 : jd cL_law 650 (.iadd) 1 651 := by decide +kernel
theorem dL_651 : jd cL_law 651 (.iaload) 1 652 := by decide +kernel
theorem dL_652 : jda cL_law 652 0 653 := Or.inl ⟨0, by decide +kernel⟩
theorem dL_653 : jdi cL_law 653 3 654 := Or.inl ⟨3, by decide +kernel⟩
theorem dL_654 : jdk cL_law 654 2 655 := Or.inl ⟨2, by decide +kernel⟩
theorem dL_655 : jd cL_law 655 (.iadd) 1 656 := by decide +kernel
theorem dL_656 : jd cL_law 656 (.iaload) 1 657 := by decide +kernel
theorem dL_657 : jd cL_law 657 (.invokevirtual 84) 3 660 := by decide +kernel
theorem dL_660 : jdb cL_law 660 (.if_icmp .eq 652) 652 1312 663 := by decide +kernel
theorem dL_665 : jda cL_law 665 1 666 := Or.inl ⟨1, by decide +kernel⟩
theorem dL_666 : jda cL_law 666 0 667 := Or.inl ⟨0, by decide +kernel⟩
theorem dL_667 : jdi cL_law 667 3 668 := Or.inl ⟨3, by decide +kernel⟩
theorem dL_668 : jdk cL_law 668 1 669 := Or.inl ⟨1, by decide +kernel⟩
theorem dL_669 : jd cL_law 669 (.iadd) 1 670 := by decide +kernel
theorem dL_670 : jd cL_law 670 (.iaload) 1 671 := by decide +kernel
theorem dL_671 : jda cL_law 671 0 672 := Or.inl ⟨0, by decide +kernel⟩
theorem dL_672 : jdi cL_law 672 3 673 := Or.inl ⟨3, by decide +kernel⟩
theorem dL_673 : jdk cL_law 673 2 674 := Or.inl ⟨2, by decide +kernel⟩
theorem dL_674 : jd cL_law 674 (.iadd) 1 675 := by decide +kernel
theorem dL_675 : jd cL_law 675 (.iaload) 1 676 := by decide +kernel
theorem dL_676 : jd cL_law 676 (.invokevirtual 85) 3 679 := by decide +kernel
theorem dL_679 : jda cL_law 679 2 680 := Or.inl ⟨2, by decide +kernel⟩
theorem dL_680 : jda cL_law 680 0 681 := Or.inl ⟨0, by decide +kernel⟩
theorem dL_681 : jdi cL_law 681 3 682 := Or.inl ⟨3, by decide +kernel⟩
theorem dL_682 : jdk cL_law 682 1 683 := Or.inl ⟨1, by decide +kernel⟩
theorem dL_683 : jd cL_law 683 (.iadd) 1 684 := by decide +kernel
theorem dL_684 : jd cL_law 684 (.iaload) 1 685 := by decide +kernel
theorem dL_685 : jda cL_law 685 0 686 := Or.inl ⟨0, by decide +kernel⟩
theorem dL_686 : jdi cL_law 686 3 687 := Or.inl ⟨3, by decide +kernel⟩
theorem dL_687 : jdk cL_law 687 2 688 := Or.inl ⟨2, by decide +kernel⟩
theorem dL_688 : jd cL_law 688 (.iadd) 1 689 := by decide +kernel
theorem dL_689 : jd cL_law 689 (.iaload) 1 690 := by decide +kernel
theorem dL_690 : jd cL_law 690 (.invokevirtual 88) 3 693 := by decide +kernel
theorem dL_693 : jdb cL_law 693 (.if_icmp .eq 619) 619 1312 696 := by decide +kernel
theorem dL_698 : jda cL_law 698 1 699 := Or.inl ⟨1, by decide +kernel⟩
theorem dL_699 : jd cL_law 699 (.invokevirtual 89) 3 702 := by decide +kernel
theorem dL_702 : jda cL_law 702 2 703 := Or.inl ⟨2, by decide +kernel⟩
theorem dL_703 : jd cL_law 703 (.invokevirtual 92) 3 706 := by decide +kernel
theorem dL_706 : jdb cL_law 706 (.if_icmp .eq 606) 606 1312 709 := by decide +kernel
theorem dL_711 : jda cL_law 711 1 712 := Or.inl ⟨1, by decide +kernel⟩
theorem dL_712 : jda cL_law 712 0 713 := Or.inl ⟨0, by decide +kernel⟩
theorem dL_713 : jdi cL_law 713 3 714 := Or.inl ⟨3, by decide +kernel⟩
theorem dL_714 : jdk cL_law 714 1 715 := Or.inl ⟨1, by decide +kernel⟩
theorem dL_715 : jd cL_law 715 (.iadd) 1 716 := by decide +kernel
theorem dL_716 : jd cL_law 716 (.iaload) 1 717 := by decide +kernel
theorem dL_717 : jda cL_law 717 0 718 := Or.inl ⟨0, by decide +kernel⟩
theorem dL_718 : jdi cL_law 718 3 719 := Or.inl ⟨3, by decide +kernel⟩
theorem dL_719 : jdk cL_law 719 2 720 := Or.inl ⟨2, by decide +kernel⟩
theorem dL_720 : jd cL_law 720 (.iadd) 1 721 := by decide +kernel
theorem dL_721 : jd cL_law 721 (.iaload) 1 722 := by decide +kernel
theorem dL_722 : jd cL_law 722 (.invokevirtual 93) 3 725 := by decide +kernel
theorem dL_725 : jda cL_law 725 2 726 := Or.inl ⟨2, by decide +kernel⟩
theorem dL_726 : jda cL_law 726 0 727 := Or.inl ⟨0, by decide +kernel⟩
theorem dL_727 : jdi cL_law 727 3 728 := Or.inl ⟨3, by decide +kernel⟩
theorem dL_728 : jdk cL_law 728 1 729 := Or.inl ⟨1, by decide +kernel⟩
theorem dL_729 : jd cL_law 729 (.iadd) 1 730 := by decide +kernel
theorem dL_730 : jd cL_law 730 (.iaload) 1 731 := by decide +kernel
theorem dL_731 : jda cL_law 731 0 732 := Or.inl ⟨0, by decide +kernel⟩
theorem dL_732 : jdi cL_law 732 3 733 := Or.inl ⟨3, by decide +kernel⟩
theorem dL_733 : jdk cL_law 733 2 734 := Or.inl ⟨2, by decide +kernel⟩
theorem dL_734 : jd cL_law 734 (.iadd) 1 735 := by decide +kernel
theorem dL_735 : jd cL_law 735 (.iaload) 1 736 := by decide +kernel
theorem dL_736 : jd cL_law 736 (.invokevirtual 96) 3 739 := by decide +kernel
theorem dL_739 : jdb cL_law 739 (.if_icmp .eq 573) 573 1312 742 := by decide +kernel
theorem dL_744 : jda cL_law 744 1 745 := Or.inl ⟨1, by decide +kernel⟩
theorem dL_745 : jda cL_law 745 0 746 := Or.inl ⟨0, by decide +kernel⟩
theorem dL_746 : jdi cL_law 746 3 747 := Or.inl ⟨3, by decide +kernel⟩
theorem dL_747 : jdk cL_law 747 1 748 := Or.inl ⟨1, by decide +kernel⟩
theorem dL_748 : jd cL_law 748 (.iadd) 1 749 := by decide +kernel
theorem dL_749 : jd cL_law 749 (.iaload) 1 750 := by decide +kernel
theorem dL_750 : jd cL_law 750 (.invokevirtual 97) 3 753 := by decide +kernel
theorem dL_753 : jda cL_law 753 2 754 := Or.inl ⟨2, by decide +kernel⟩
theorem dL_754 : jda cL_law 754 0 755 := Or.inl ⟨0, by decide +kernel⟩
theorem dL_755 : jdi cL_law 755 3 756 := Or.inl ⟨3, by decide +kernel⟩
theorem dL_756 : jdk cL_law 756 1 757 := Or.inl ⟨1, by decide +kernel⟩
theorem dL_757 : jd cL_law 757 (.iadd) 1 758 := by decide +kernel
theorem dL_758 : jd cL_law 758 (.iaload) 1 759 := by decide +kernel
theorem dL_759 : jd cL_law 759 (.invokevirtual 100) 3 762 := by decide +kernel
theorem dL_762 : jdb cL_law 762 (.if_icmp .eq 550) 550 1312 765 := by decide +kernel
theorem dL_767 : jda cL_law 767 1 768 := Or.inl ⟨1, by decide +kernel⟩
theorem dL_768 : jda cL_law 768 0 769 := Or.inl ⟨0, by decide +kernel⟩
theorem dL_769 : jdi cL_law 769 3 770 := Or.inl ⟨3, by decide +kernel⟩
theorem dL_770 : jdk cL_law 770 1 771 := Or.inl ⟨1, by decide +kernel⟩
theorem dL_771 : jd cL_law 771 (.iadd) 1 772 := by decide +kernel
theorem dL_772 : jd cL_law 772 (.iaload) 1 773 := by decide +kernel
theorem dL_773 : jda cL_law 773 0 774 := Or.inl ⟨0, by decide +kernel⟩
theorem dL_774 : jdi cL_law 774 3 775 := Or.inl ⟨3, by decide +kernel⟩
theorem dL_775 : jdk cL_law 775 2 776 := Or.inl ⟨2, by decide +kernel⟩
theorem dL_776 : jd cL_law 776 (.iadd) 1 777 := by decide +kernel
theorem dL_777 : jd cL_law 777 (.iaload) 1 778 := by decide +kernel
theorem dL_778 : jd cL_law 778 (.invokevirtual 101) 3 781 := by decide +kernel
theorem dL_781 : jda cL_law 781 2 782 := Or.inl ⟨2, by decide +kernel⟩
theorem dL_782 : jda cL_law 782 0 783 := Or.inl ⟨0, by decide +kernel⟩
theorem dL_783 : jdi cL_law 783 3 784 := Or.inl ⟨3, by decide +kernel⟩
theorem dL_784 : jdk cL_law 784 1 785 := Or.inl ⟨1, by decide +kernel⟩
theorem dL_785 : jd cL_law 785 (.iadd) 1 786 := by decide +kernel
theorem dL_786 : jd cL_law 786 (.iaload) 1 787 := by decide +kernel
theorem dL_787 : jda cL_law 787 0 788 := Or.inl ⟨0, by decide +kernel⟩
theorem dL_788 : jdi cL_law 788 3 789 := Or.inl ⟨3, by decide +kernel⟩
theorem dL_789 : jdk cL_law 789 2 790 := Or.inl ⟨2, by decide +kernel⟩
theorem dL_790 : jd cL_law 790 (.iadd) 1 791 := by decide +kernel
theorem dL_791 : jd cL_law 791 (.iaload) 1 792 := by decide +kernel
theorem dL_792 : jd cL_law 792 (.invokevirtual 104) 3 795 := by decide +kernel
theorem dL_795 : jdb cL_law 795 (.if_icmp .eq 517) 517 1312 798 := by decide +kernel
theorem dL_800 : jda cL_law 800 1 801 := Or.inl ⟨1, by decide +kernel⟩
theorem dL_801 : jda cL_law 801 0 802 := Or.inl ⟨0, by decide +kernel⟩
theorem dL_802 : jdi cL_law 802 3 803 := Or.inl ⟨3, by decide +kernel⟩
theorem dL_803 : jdk cL_law 803 1 804 := Or.inl ⟨1, by decide +kernel⟩
theorem dL_804 : jd cL_law 804 (.iadd) 1 805 := by decide +kernel
theorem dL_805 : jd cL_law 805 (.iaload) 1 806 := by decide +kernel
theorem dL_806 : jda cL_law 806 0 807 := Or.inl ⟨0, by decide +kernel⟩
theorem dL_807 : jdi cL_law 807 3 808 := Or.inl ⟨3, by decide +kernel⟩
theorem dL_808 : jdk cL_law 808 2 809 := Or.inl ⟨2, by decide +kernel⟩
theorem dL_809 : jd cL_law 809 (.iadd) 1 810 := by decide +kernel
theorem dL_810 : jd cL_law 810 (.iaload) 1 811 := by decide +kernel
theorem dL_811 : jda cL_law 811 0 812 := Or.inl ⟨0, by decide +kernel⟩
theorem dL_812 : jdi cL_law 812 3 813 := Or.inl ⟨3, by decide +kernel⟩
theorem dL_813 : jdk cL_law 813 3 814 := Or.inl ⟨3, by decide +kernel⟩
theorem dL_814 : jd cL_law 814 (.iadd) 1 815 := by decide +kernel
theorem dL_815 : jd cL_law 815 (.iaload) 1 816 := by decide +kernel
theorem dL_816 : jd cL_law 816 (.invokevirtual 105) 3 819 := by decide +kernel
theorem dL_819 : jda cL_law 819 2 820 := Or.inl ⟨2, by decide +kernel⟩
theorem dL_820 : jda cL_law 820 0 821 := Or.inl ⟨0, by decide +kernel⟩
theorem dL_821 : jdi cL_law 821 3 822 := Or.inl ⟨3, by decide +kernel⟩
theorem dL_822 : jdk cL_law 822 1 823 := Or.inl ⟨1, by decide +kernel⟩
theorem dL_823 : jd cL_law 823 (.iadd) 1 824 := by decide +kernel
theorem dL_824 : jd cL_law 824 (.iaload) 1 825 := by decide +kernel
theorem dL_825 : jda cL_law 825 0 826 := Or.inl ⟨0, by decide +kernel⟩
theorem dL_826 : jdi cL_law 826 3 827 := Or.inl ⟨3, by decide +kernel⟩
theorem dL_827 : jdk cL_law 827 2 828 := Or.inl ⟨2, by decide +kernel⟩
theorem dL_828 : jd cL_law 828 (.iadd) 1 829 := by decide +kernel
theorem dL_829 : jd cL_law 829 (.iaload) 1 830 := by decide +kernel
theorem dL_830 : jda cL_law 830 0 831 := Or.inl ⟨0, by decide +kernel⟩
theorem dL_831 : jdi cL_law 831 3 832 := Or.inl ⟨3, by decide +kernel⟩
theorem dL_832 : jdk cL_law 832 3 833 := Or.inl ⟨3, by decide +kernel⟩
theorem dL_833 : jd cL_law 833 (.iadd) 1 834 := by decide +kernel
theorem dL_834 : jd cL_law 834 (.iaload) 1 835 := by decide +kernel
theorem dL_835 : jd cL_law 835 (.invokevirtual 109) 3 838 := by decide +kernel
theorem dL_838 : jdb cL_law 838 (.if_icmp .eq 474) 474 1312 841 := by decide +kernel
theorem dL_843 : jda cL_law 843 1 844 := Or.inl ⟨1, by decide +kernel⟩
theorem dL_844 : jd cL_law 844 (.invokevirtual 110) 3 847 := by decide +kernel
theorem dL_847 : jda cL_law 847 2 848 := Or.inl ⟨2, by decide +kernel⟩
theorem dL_848 : jd cL_law 848 (.invokevirtual 113) 3 851 := by decide +kernel
theorem dL_851 : jdb cL_law 851 (.if_icmp .eq 461) 461 1312 854 := by decide +kernel
theorem dL_856 : jda cL_law 856 1 857 := Or.inl ⟨1, by decide +kernel⟩
theorem dL_857 : jda cL_law 857 0 858 := Or.inl ⟨0, by decide +kernel⟩
theorem dL_858 : jdi cL_law 858 3 859 := Or.inl ⟨3, by decide +kernel⟩
theorem dL_859 : jdk cL_law 859 1 860 := Or.inl ⟨1, by decide +kernel⟩
theorem dL_860 : jd cL_law 860 (.iadd) 1 861 := by decide +kernel
theorem dL_861 : jd cL_law 861 (.iaload) 1 862 := by decide +kernel
theorem dL_862 : jd cL_law 862 (.invokevirtual 114) 3 865 := by decide +kernel
theorem dL_865 : jda cL_law 865 2 866 := Or.inl ⟨2, by decide +kernel⟩
theorem dL_866 : jda cL_law 866 0 867 := Or.inl ⟨0, by decide +kernel⟩
theorem dL_867 : jdi cL_law 867 3 868 := Or.inl ⟨3, by decide +kernel⟩
theorem dL_868 : jdk cL_law 868 1 869 := Or.inl ⟨1, by decide +kernel⟩
theorem dL_869 : jd cL_law 869 (.iadd) 1 870 := by decide +kernel
theorem dL_870 : jd cL_law 870 (.iaload) 1 871 := by decide +kernel
theorem dL_871 : jd cL_law 871 (.invokevirtual 117) 3 874 := by decide +kernel
theorem dL_874 : jdb cL_law 874 (.if_icmp .eq 438) 438 1312 877 := by decide +kernel
theorem dL_879 : jda cL_law 879 1 880 := Or.inl ⟨1, by decide +kernel⟩
theorem dL_880 : jda cL_law 880 0 881 := Or.inl ⟨0, by decide +kernel⟩
theorem dL_881 : jdi cL_law 881 3 882 := Or.inl ⟨3, by decide +kernel⟩
theorem dL_882 : jdk cL_law 882 1 883 := Or.inl ⟨1, by decide +kernel⟩
theorem dL_883 : jd cL_law 883 (.iadd) 1 884 := by decide +kernel
theorem dL_884 : jd cL_law 884 (.iaload) 1 885 := by decide +kernel
theorem dL_885 : jd cL_law 885 (.invokevirtual 118) 3 888 := by decide +kernel
theorem dL_888 : jda cL_law 888 2 889 := Or.inl ⟨2, by decide +kernel⟩
theorem dL_889 : jda cL_law 889 0 890 := Or.inl ⟨0, by decide +kernel⟩
theorem dL_890 : jdi cL_law 890 3 891 := Or.inl ⟨3, by decide +kernel⟩
theorem dL_891 : jdk cL_law 891 1 892 := Or.inl ⟨1, by decide +kernel⟩
theorem dL_892 : jd cL_law 892 (.iadd) 1 893 := by decide +kernel
theorem dL_893 : jd cL_law 893 (.iaload) 1 894 := by decide +kernel
theorem dL_894 : jd cL_law 894 (.invokevirtual 121) 3 897 := by decide +kernel
theorem dL_897 : jdb cL_law 897 (.if_icmp .eq 415) 415 1312 900 := by decide +kernel
theorem dL_902 : jda cL_law 902 1 903 := Or.inl ⟨1, by decide +kernel⟩
theorem dL_903 : jd cL_law 903 (.invokevirtual 122) 3 906 := by decide +kernel
theorem dL_906 : jda cL_law 906 2 907 := Or.inl ⟨2, by decide +kernel⟩
theorem dL_907 : jd cL_law 907 (.invokevirtual 125) 3 910 := by decide +kernel
theorem dL_910 : jdb cL_law 910 (.if_icmp .eq 402) 402 1312 913 := by decide +kernel
theorem dL_915 : jda cL_law 915 1 916 := Or.inl ⟨1, by decide +kernel⟩
theorem dL_916 : jda cL_law 916 0 917 := Or.inl ⟨0, by decide +kernel⟩
theorem dL_917 : jdi cL_law 917 3 918 := Or.inl ⟨3, by decide +kernel⟩
theorem dL_918 : jdk cL_law 918 1 919 := Or.inl ⟨1, by decide +kernel⟩
theorem dL_919 : jd cL_law 919 (.iadd) 1 920 := by decide +kernel
theorem dL_920 : jd cL_law 920 (.iaload) 1 921 := by decide +kernel
theorem dL_921 : jda cL_law 921 0 922 := Or.inl ⟨0, by decide +kernel⟩
theorem dL_922 : jdi cL_law 922 3 923 := Or.inl ⟨3, by decide +kernel⟩
theorem dL_923 : jdk cL_law 923 2 924 := Or.inl ⟨2, by decide +kernel⟩
theorem dL_924 : jd cL_law 924 (.iadd) 1 925 := by decide +kernel
theorem dL_925 : jd cL_law 925 (.iaload) 1 926 := by decide +kernel
theorem dL_926 : jd cL_law 926 (.invokevirtual 126) 3 929 := by decide +kernel
theorem dL_929 : jda cL_law 929 2 930 := Or.inl ⟨2, by decide +kernel⟩
theorem dL_930 : jda cL_law 930 0 931 := Or.inl ⟨0, by decide +kernel⟩
theorem dL_931 : jdi cL_law 931 3 932 := Or.inl ⟨3, by decide +kernel⟩
theorem dL_932 : jdk cL_law 932 1 933 := Or.inl ⟨1, by decide +kernel⟩
theorem dL_933 : jd cL_law 933 (.iadd) 1 934 := by decide +kernel
theorem dL_934 : jd cL_law 934 (.iaload) 1 935 := by decide +kernel
theorem dL_935 : jda cL_law 935 0 936 := Or.inl ⟨0, by decide +kernel⟩
theorem dL_936 : jdi cL_law 936 3 937 := Or.inl ⟨3, by decide +kernel⟩
theorem dL_937 : jdk cL_law 937 2 938 := Or.inl ⟨2, by decide +kernel⟩
theorem dL_938 : jd cL_law 938 (.iadd) 1 939 := by decide +kernel
theorem dL_939 : jd cL_law 939 (.iaload) 1 940 := by decide +kernel
theorem dL_940 : jd cL_law 940 (.invokevirtual 129) 3 943 := by decide +kernel
theorem dL_943 : jdb cL_law 943 (.if_icmp .eq 369) 369 1312 946 := by decide +kernel
theorem dL_948 : jda cL_law 948 1 949 := Or.inl ⟨1, by decide +kernel⟩
theorem dL_949 : jda cL_law 949 0 950 := Or.inl ⟨0, by decide +kernel⟩
theorem dL_950 : jdi cL_law 950 3 951 := Or.inl ⟨3, by decide +kernel⟩
theorem dL_951 : jdk cL_law 951 1 952 := Or.inl ⟨1, by decide +kernel⟩
theorem dL_952 : jd cL_law 952 (.iadd) 1 953 := by decide +kernel
theorem dL_953 : jd cL_law 953 (.iaload) 1 954 := by decide +kernel
theorem dL_954 : jd cL_law 954 (.invokevirtual 130) 3 957 := by decide +kernel
theorem dL_957 : jda cL_law 957 2 958 := Or.inl ⟨2, by decide +kernel⟩
theorem dL_958 : jda cL_law 958 0 959 := Or.inl ⟨0, by decide +kernel⟩
theorem dL_959 : jdi cL_law 959 3 960 := Or.inl ⟨3, by decide +kernel⟩
theorem dL_960 : jdk cL_law 960 1 961 := Or.inl ⟨1, by decide +kernel⟩
theorem dL_961 : jd cL_law 961 (.iadd) 1 962 := by decide +kernel
theorem dL_962 : jd cL_law 962 (.iaload) 1 963 := by decide +kernel
theorem dL_963 : jd cL_law 963 (.invokevirtual 133) 3 966 := by decide +kernel
theorem dL_966 : jdb cL_law 966 (.if_icmp .eq 346) 346 1312 969 := by decide +kernel
theorem dL_971 : jda cL_law 971 1 972 := Or.inl ⟨1, by decide +kernel⟩
theorem dL_972 : jd cL_law 972 (.invokevirtual 134) 3 975 := by decide +kernel
theorem dL_975 : jda cL_law 975 2 976 := Or.inl ⟨2, by decide +kernel⟩
theorem dL_976 : jd cL_law 976 (.invokevirtual 137) 3 979 := by decide +kernel
theorem dL_979 : jdb cL_law 979 (.if_icmp .eq 333) 333 1312 982 := by decide +kernel
theorem dL_984 : jda cL_law 984 1 985 := Or.inl ⟨1, by decide +kernel⟩
theorem dL_985 : jda cL_law 985 0 986 := Or.inl ⟨0, by decide +kernel⟩
theorem dL_986 : jdi cL_law 986 3 987 := Or.inl ⟨3, by decide +kernel⟩
theorem dL_987 : jdk cL_law 987 1 988 := Or.inl ⟨1, by decide +kernel⟩
theorem dL_988 : jd cL_law 988 (.iadd) 1 989 := by decide +kernel
theorem dL_989 : jd cL_law 989 (.iaload) 1 990 := by decide +kernel
theorem dL_990 : jd cL_law 990 (.invokevirtual 138) 3 993 := by decide +kernel
theorem dL_993 : jda cL_law 993 2 994 := Or.inl ⟨2, by decide +kernel⟩
theorem dL_994 : jda cL_law 994 0 995 := Or.inl ⟨0, by decide +kernel⟩
theorem dL_995 : jdi cL_law 995 3 996 := Or.inl ⟨3, by decide +kernel⟩
theorem dL_996 : jdk cL_law 996 1 997 := Or.inl ⟨1, by decide +kernel⟩
theorem dL_997 : jd cL_law 997 (.iadd) 1 998 := by decide +kernel
theorem dL_998 : jd cL_law 998 (.iaload) 1 999 := by decide +kernel
theorem dL_999 : jd cL_law 999 (.invokevirtual 141) 3 1002 := by decide +kernel
theorem dL_1002 : jdb cL_law 1002 (.if_icmp .eq 310) 310 1312 1005 := by decide +kernel
theorem dL_1007 : jda cL_law 1007 1 1008 := Or.inl ⟨1, by decide +kernel⟩
theorem dL_1008 : jd cL_law 1008 (.invokevirtual 142) 3 1011 := by decide +kernel
theorem dL_1011 : jda cL_law 1011 2 1012 := Or.inl ⟨2, by decide +kernel⟩
theorem dL_1012 : jd cL_law 1012 (.invokevirtual 145) 3 1015 := by decide +kernel
theorem dL_1015 : jdb cL_law 1015 (.if_icmp .eq 297) 297 1312 1018 := by decide +kernel
theorem dL_1020 : jda cL_law 1020 1 1021 := Or.inl ⟨1, by decide +kernel⟩
theorem dL_1021 : jd cL_law 1021 (.invokevirtual 146) 3 1024 := by decide +kernel
theorem dL_1024 : jda cL_law 1024 2 1025 := Or.inl ⟨2, by decide +kernel⟩
theorem dL_1025 : jd cL_law 1025 (.invokevirtual 149) 3 1028 := by decide +kernel
theorem dL_1028 : jdb cL_law 1028 (.if_icmp .eq 284) 284 1312 1031 := by decide +kernel
theorem dL_1033 : jda cL_law 1033 1 1034 := Or.inl ⟨1, by decide +kernel⟩
theorem dL_1034 : jda cL_law 1034 0 1035 := Or.inl ⟨0, by decide +kernel⟩
theorem dL_1035 : jdi cL_law 1035 3 1036 := Or.inl ⟨3, by decide +kernel⟩
theorem dL_1036 : jdk cL_law 1036 1 1037 := Or.inl ⟨1, by decide +kernel⟩
theorem dL_1037 : jd cL_law 1037 (.iadd) 1 1038 := by decide +kernel
theorem dL_1038 : jd cL_law 1038 (.iaload) 1 1039 := by decide +kernel
theorem dL_1039 : jda cL_law 1039 0 1040 := Or.inl ⟨0, by decide +kernel⟩
theorem dL_1040 : jdi cL_law 1040 3 1041 := Or.inl ⟨3, by decide +kernel⟩
theorem dL_1041 : jdk cL_law 1041 2 1042 := Or.inl ⟨2, by decide +kernel⟩
theorem dL_1042 : jd cL_law 1042 (.iadd) 1 1043 := by decide +kernel
theorem dL_1043 : jd cL_law 1043 (.iaload) 1 1044 := by decide +kernel
theorem dL_1044 : jd cL_law 1044 (.invokevirtual 150) 3 1047 := by decide +kernel
theorem dL_1047 : jda cL_law 1047 2 1048 := Or.inl ⟨2, by decide +kernel⟩
theorem dL_1048 : jda cL_law 1048 0 1049 := Or.inl ⟨0, by decide +kernel⟩
theorem dL_1049 : jdi cL_law 1049 3 1050 := Or.inl ⟨3, by decide +kernel⟩
theorem dL_1050 : jdk cL_law 1050 1 1051 := Or.inl ⟨1, by decide +kernel⟩
theorem dL_1051 : jd cL_law 1051 (.iadd) 1 1052 := by decide +kernel
theorem dL_1052 : jd cL_law 1052 (.iaload) 1 1053 := by decide +kernel
theorem dL_1053 : jda cL_law 1053 0 1054 := Or.inl ⟨0, by decide +kernel⟩
theorem dL_1054 : jdi cL_law 1054 3 1055 := Or.inl ⟨3, by decide +kernel⟩
theorem dL_1055 : jdk cL_law 1055 2 1056 := Or.inl ⟨2, by decide +kernel⟩
theorem dL_1056 : jd cL_law 1056 (.iadd) 1 1057 := by decide +kernel
theorem dL_1057 : jd cL_law 1057 (.iaload) 1 1058 := by decide +kernel
theorem dL_1058 : jd cL_law 1058 (.invokevirtual 153) 3 1061 := by decide +kernel
theorem dL_1061 : jdb cL_law 1061 (.if_icmp .eq 251) 251 1312 1064 := by decide +kernel
theorem dL_1066 : jda cL_law 1066 1 1067 := Or.inl ⟨1, by decide +kernel⟩
theorem dL_1067 : jd cL_law 1067 (.invokevirtual 154) 3 1070 := by decide +kernel
theorem dL_1070 : jda cL_law 1070 2 1071 := Or.inl ⟨2, by decide +kernel⟩
theorem dL_1071 : jd cL_law 1071 (.invokevirtual 157) 3 1074 := by decide +kernel
theorem dL_1074 : jdb cL_law 1074 (.if_icmp .eq 238) 238 1312 1077 := by decide +kernel
theorem dL_1079 : jda cL_law 1079 1 1080 := Or.inl ⟨1, by decide +kernel⟩
theorem dL_1080 : jda cL_law 1080 0 1081 := Or.inl ⟨0, by decide +kernel⟩
theorem dL_1081 : jdi cL_law 1081 3 1082 := Or.inl ⟨3, by decide +kernel⟩
theorem dL_1082 : jdk cL_law 1082 1 1083 := Or.inl ⟨1, by decide +kernel⟩
theorem dL_1083 : jd cL_law 1083 (.iadd) 1 1084 := by decide +kernel
theorem dL_1084 : jd cL_law 1084 (.iaload) 1 1085 := by decide +kernel
theorem dL_1085 : jd cL_law 1085 (.invokevirtual 158) 3 1088 := by decide +kernel
theorem dL_1088 : jda cL_law 1088 2 1089 := Or.inl ⟨2, by decide +kernel⟩
theorem dL_1089 : jda cL_law 1089 0 1090 := Or.inl ⟨0, by decide +kernel⟩
theorem dL_1090 : jdi cL_law 1090 3 1091 := Or.inl ⟨3, by decide +kernel⟩
theorem dL_1091 : jdk cL_law 1091 1 1092 := Or.inl ⟨1, by decide +kernel⟩
theorem dL_1092 : jd cL_law 1092 (.iadd) 1 1093 := by decide +kernel
theorem dL_1093 : jd cL_law 1093 (.iaload) 1 1094 := by decide +kernel
theorem dL_1094 : jd cL_law 1094 (.invokevirtual 161) 3 1097 := by decide +kernel
theorem dL_1097 : jdb cL_law 1097 (.if_icmp .eq 215) 215 1312 1100 := by decide +kernel
theorem dL_1102 : jda cL_law 1102 1 1103 := Or.inl ⟨1, by decide +kernel⟩
theorem dL_1103 : jd cL_law 1103 (.invokevirtual 162) 3 1106 := by decide +kernel
theorem dL_1106 : jda cL_law 1106 2 1107 := Or.inl ⟨2, by decide +kernel⟩
theorem dL_1107 : jd cL_law 1107 (.invokevirtual 165) 3 1110 := by decide +kernel
theorem dL_1110 : jdb cL_law 1110 (.if_icmp .eq 202) 202 1312 1113 := by decide +kernel
theorem dL_1115 : jda cL_law 1115 1 1116 := Or.inl ⟨1, by decide +kernel⟩
theorem dL_1116 : jda cL_law 1116 0 1117 := Or.inl ⟨0, by decide +kernel⟩
theorem dL_1117 : jdi cL_law 1117 3 1118 := Or.inl ⟨3, by decide +kernel⟩
theorem dL_1118 : jdk cL_law 1118 1 1119 := Or.inl ⟨1, by decide +kernel⟩
theorem dL_1119 : jd cL_law 1119 (.iadd) 1 1120 := by decide +kernel
theorem dL_1120 : jd cL_law 1120 (.iaload) 1 1121 := by decide +kernel
theorem dL_1121 : jd cL_law 1121 (.invokevirtual 166) 3 1124 := by decide +kernel
theorem dL_1124 : jda cL_law 1124 2 1125 := Or.inl ⟨2, by decide +kernel⟩
theorem dL_1125 : jda cL_law 1125 0 1126 := Or.inl ⟨0, by decide +kernel⟩
theorem dL_1126 : jdi cL_law 1126 3 1127 := Or.inl ⟨3, by decide +kernel⟩
theorem dL_1127 : jdk cL_law 1127 1 1128 := Or.inl ⟨1, by decide +kernel⟩
theorem dL_1128 : jd cL_law 1128 (.iadd) 1 1129 := by decide +kernel
theorem dL_1129 : jd cL_law 1129 (.iaload) 1 1130 := by decide +kernel
theorem dL_1130 : jd cL_law 1130 (.invokevirtual 169) 3 1133 := by decide +kernel
theorem dL_1133 : jdb cL_law 1133 (.if_icmp .eq 179) 179 1312 1136 := by decide +kernel
theorem dL_1138 : jda cL_law 1138 1 1139 := Or.inl ⟨1, by decide +kernel⟩
theorem dL_1139 : jda cL_law 1139 0 1140 := Or.inl ⟨0, by decide +kernel⟩
theorem dL_1140 : jdi cL_law 1140 3 1141 := Or.inl ⟨3, by decide +kernel⟩
theorem dL_1141 : jdk cL_law 1141 1 1142 := Or.inl ⟨1, by decide +kernel⟩
theorem dL_1142 : jd cL_law 1142 (.iadd) 1 1143 := by decide +kernel
theorem dL_1143 : jd cL_law 1143 (.iaload) 1 1144 := by decide +kernel
theorem dL_1144 : jd cL_law 1144 (.invokevirtual 170) 3 1147 := by decide +kernel
theorem dL_1147 : jda cL_law 1147 2 1148 := Or.inl ⟨2, by decide +kernel⟩
theorem dL_1148 : jda cL_law 1148 0 1149 := Or.inl ⟨0, by decide +kernel⟩
theorem dL_1149 : jdi cL_law 1149 3 1150 := Or.inl ⟨3, by decide +kernel⟩
theorem dL_1150 : jdk cL_law 1150 1 1151 := Or.inl ⟨1, by decide +kernel⟩
theorem dL_1151 : jd cL_law 1151 (.iadd) 1 1152 := by decide +kernel
theorem dL_1152 : jd cL_law 1152 (.iaload) 1 1153 := by decide +kernel
theorem dL_1153 : jd cL_law 1153 (.invokevirtual 173) 3 1156 := by decide +kernel
theorem dL_1156 : jdb cL_law 1156 (.if_icmp .eq 156) 156 1312 1159 := by decide +kernel
theorem dL_1161 : jda cL_law 1161 1 1162 := Or.inl ⟨1, by decide +kernel⟩
theorem dL_1162 : jda cL_law 1162 0 1163 := Or.inl ⟨0, by decide +kernel⟩
theorem dL_1163 : jdi cL_law 1163 3 1164 := Or.inl ⟨3, by decide +kernel⟩
theorem dL_1164 : jdk cL_law 1164 1 1165 := Or.inl ⟨1, by decide +kernel⟩
theorem dL_1165 : jd cL_law 1165 (.iadd) 1 1166 := by decide +kernel
theorem dL_1166 : jd cL_law 1166 (.iaload) 1 1167 := by decide +kernel
theorem dL_1167 : jd cL_law 1167 (.invokevirtual 174) 3 1170 := by decide +kernel
theorem dL_1170 : jda cL_law 1170 2 1171 := Or.inl ⟨2, by decide +kernel⟩
theorem dL_1171 : jda cL_law 1171 0 1172 := Or.inl ⟨0, by decide +kernel⟩
theorem dL_1172 : jdi cL_law 1172 3 1173 := Or.inl ⟨3, by decide +kernel⟩
theorem dL_1173 : jdk cL_law 1173 1 1174 := Or.inl ⟨1, by decide +kernel⟩
theorem dL_1174 : jd cL_law 1174 (.iadd) 1 1175 := by decide +kernel
theorem dL_1175 : jd cL_law 1175 (.iaload) 1 1176 := by decide +kernel
theorem dL_1176 : jd cL_law 1176 (.invokevirtual 177) 3 1179 := by decide +kernel
theorem dL_1179 : jdb cL_law 1179 (.if_icmp .eq 133) 133 1312 1182 := by decide +kernel
theorem dL_1184 : jda cL_law 1184 1 1185 := Or.inl ⟨1, by decide +kernel⟩
theorem dL_1185 : jda cL_law 1185 0 1186 := Or.inl ⟨0, by decide +kernel⟩
theorem dL_1186 : jdi cL_law 1186 3 1187 := Or.inl ⟨3, by decide +kernel⟩
theorem dL_1187 : jdk cL_law 1187 1 1188 := Or.inl ⟨1, by decide +kernel⟩
theorem dL_1188 : jd cL_law 1188 (.iadd) 1 1189 := by decide +kernel
theorem dL_1189 : jd cL_law 1189 (.iaload) 1 1190 := by decide +kernel
theorem dL_1190 : jda cL_law 1190 0 1191 := Or.inl ⟨0, by decide +kernel⟩
theorem dL_1191 : jdi cL_law 1191 3 1192 := Or.inl ⟨3, by decide +kernel⟩
theorem dL_1192 : jdk cL_law 1192 2 1193 := Or.inl ⟨2, by decide +kernel⟩
theorem dL_1193 : jd cL_law 1193 (.iadd) 1 1194 := by decide +kernel
theorem dL_1194 : jd cL_law 1194 (.iaload) 1 1195 := by decide +kernel
theorem dL_1195 : jd cL_law 1195 (.invokevirtual 178) 3 1198 := by decide +kernel
theorem dL_1198 : jda cL_law 1198 2 1199 := Or.inl ⟨2, by decide +kernel⟩
theorem dL_1199 : jda cL_law 1199 0 1200 := Or.inl ⟨0, by decide +kernel⟩
theorem dL_1200 : jdi cL_law 1200 3 1201 := Or.inl ⟨3, by decide +kernel⟩
theorem dL_1201 : jdk cL_law 1201 1 1202 := Or.inl ⟨1, by decide +kernel⟩
theorem dL_1202 : jd cL_law 1202 (.iadd) 1 1203 := by decide +kernel
theorem dL_1203 : jd cL_law 1203 (.iaload) 1 1204 := by decide +kernel
theorem dL_1204 : jda cL_law 1204 0 1205 := Or.inl ⟨0, by decide +kernel⟩
theorem dL_1205 : jdi cL_law 1205 3 1206 := Or.inl ⟨3, by decide +kernel⟩
theorem dL_1206 : jdk cL_law 1206 2 1207 := Or.inl ⟨2, by decide +kernel⟩
theorem dL_1207 : jd cL_law 1207 (.iadd) 1 1208 := by decide +kernel
theorem dL_1208 : jd cL_law 1208 (.iaload) 1 1209 := by decide +kernel
theorem dL_1209 : jd cL_law 1209 (.invokevirtual 181) 3 1212 := by decide +kernel
theorem dL_1212 : jdb cL_law 1212 (.if_icmp .eq 100) 100 1312 1215 := by decide +kernel
theorem dL_1217 : jda cL_law 1217 1 1218 := Or.inl ⟨1, by decide +kernel⟩
theorem dL_1218 : jd cL_law 1218 (.invokevirtual 182) 3 1221 := by decide +kernel
theorem dL_1221 : jda cL_law 1221 2 1222 := Or.inl ⟨2, by decide +kernel⟩
theorem dL_1222 : jd cL_law 1222 (.invokevirtual 185) 3 1225 := by decide +kernel
theorem dL_1225 : jdb cL_law 1225 (.if_icmp .eq 87) 87 1312 1228 := by decide +kernel
theorem dL_1230 : jda cL_law 1230 1 1231 := Or.inl ⟨1, by decide +kernel⟩
theorem dL_1231 : jda cL_law 1231 0 1232 := Or.inl ⟨0, by decide +kernel⟩
theorem dL_1232 : jdi cL_law 1232 3 1233 := Or.inl ⟨3, by decide +kernel⟩
theorem dL_1233 : jdk cL_law 1233 1 1234 := Or.inl ⟨1, by decide +kernel⟩
theorem dL_1234 : jd cL_law 1234 (.iadd) 1 1235 := by decide +kernel
theorem dL_1235 : jd cL_law 1235 (.iaload) 1 1236 := by decide +kernel
theorem dL_1236 : jd cL_law 1236 (.invokevirtual 186) 3 1239 := by decide +kernel
theorem dL_1239 : jda cL_law 1239 2 1240 := Or.inl ⟨2, by decide +kernel⟩
theorem dL_1240 : jda cL_law 1240 0 1241 := Or.inl ⟨0, by decide +kernel⟩
theorem dL_1241 : jdi cL_law 1241 3 1242 := Or.inl ⟨3, by decide +kernel⟩
theorem dL_1242 : jdk cL_law 1242 1 1243 := Or.inl ⟨1, by decide +kernel⟩
theorem dL_1243 : jd cL_law 1243 (.iadd) 1 1244 := by decide +kernel
theorem dL_1244 : jd cL_law 1244 (.iaload) 1 1245 := by decide +kernel
theorem dL_1245 : jd cL_law 1245 (.invokevirtual 189) 3 1248 := by decide +kernel
theorem dL_1248 : jdb cL_law 1248 (.if_icmp .eq 64) 64 1312 1251 := by decide +kernel
theorem dL_1253 : jda cL_law 1253 1 1254 := Or.inl ⟨1, by decide +kernel⟩
theorem dL_1254 : jd cL_law 1254 (.invokevirtual 190) 3 1257 := by decide +kernel
theorem dL_1257 : jda cL_law 1257 2 1258 := Or.inl ⟨2, by decide +kernel⟩
theorem dL_1258 : jd cL_law 1258 (.invokevirtual 193) 3 1261 := by decide +kernel
theorem dL_1261 : jdb cL_law 1261 (.if_icmp .eq 51) 51 1312 1264 := by decide +kernel
theorem dL_1266 : jda cL_law 1266 1 1267 := Or.inl ⟨1, by decide +kernel⟩
theorem dL_1267 : jda cL_law 1267 0 1268 := Or.inl ⟨0, by decide +kernel⟩
theorem dL_1268 : jdi cL_law 1268 3 1269 := Or.inl ⟨3, by decide +kernel⟩
theorem dL_1269 : jdk cL_law 1269 1 1270 := Or.inl ⟨1, by decide +kernel⟩
theorem dL_1270 : jd cL_law 1270 (.iadd) 1 1271 := by decide +kernel
theorem dL_1271 : jd cL_law 1271 (.iaload) 1 1272 := by decide +kernel
theorem dL_1272 : jd cL_law 1272 (.invokevirtual 194) 3 1275 := by decide +kernel
theorem dL_1275 : jda cL_law 1275 2 1276 := Or.inl ⟨2, by decide +kernel⟩
theorem dL_1276 : jda cL_law 1276 0 1277 := Or.inl ⟨0, by decide +kernel⟩
theorem dL_1277 : jdi cL_law 1277 3 1278 := Or.inl ⟨3, by decide +kernel⟩
theorem dL_1278 : jdk cL_law 1278 1 1279 := Or.inl ⟨1, by decide +kernel⟩
theorem dL_1279 : jd cL_law 1279 (.iadd) 1 1280 := by decide +kernel
theorem dL_1280 : jd cL_law 1280 (.iaload) 1 1281 := by decide +kernel
theorem dL_1281 : jd cL_law 1281 (.invokevirtual 197) 3 1284 := by decide +kernel
theorem dL_1284 : jdb cL_law 1284 (.if_icmp .eq 28) 28 1312 1287 := by decide +kernel
theorem dL_1289 : jda cL_law 1289 1 1290 := Or.inl ⟨1, by decide +kernel⟩
theorem dL_1290 : jda cL_law 1290 0 1291 := Or.inl ⟨0, by decide +kernel⟩
theorem dL_1291 : jdi cL_law 1291 3 1292 := Or.inl ⟨3, by decide +kernel⟩
theorem dL_1292 : jdk cL_law 1292 1 1293 := Or.inl ⟨1, by decide +kernel⟩
theorem dL_1293 : jd cL_law 1293 (.iadd) 1 1294 := by decide +kernel
theorem dL_1294 : jd cL_law 1294 (.iaload) 1 1295 := by decide +kernel
theorem dL_1295 : jd cL_law 1295 (.invokevirtual 198) 3 1298 := by decide +kernel
theorem dL_1298 : jda cL_law 1298 2 1299 := Or.inl ⟨2, by decide +kernel⟩
theorem dL_1299 : jda cL_law 1299 0 1300 := Or.inl ⟨0, by decide +kernel⟩
theorem dL_1300 : jdi cL_law 1300 3 1301 := Or.inl ⟨3, by decide +kernel⟩
theorem dL_1301 : jdk cL_law 1301 1 1302 := Or.inl ⟨1, by decide +kernel⟩
theorem dL_1302 : jd cL_law 1302 (.iadd) 1 1303 := by decide +kernel
theorem dL_1303 : jd cL_law 1303 (.iaload) 1 1304 := by decide +kernel
theorem dL_1304 : jd cL_law 1304 (.invokevirtual 201) 3 1307 := by decide +kernel
theorem dL_1307 : jdb cL_law 1307 (.if_icmp .eq 5) 5 1312 1310 := by decide +kernel
theorem dL_1312 : jd cL_law 1312 (.iinc 3 7) 3 1315 := by decide +kernel
theorem dL_1315 : jdb cL_law 1315 (.goto (-1297)) (-1297) 18 1318 := by decide +kernel
theorem dL_1318 : jdk cL_law 1318 1 1319 := Or.inl ⟨1, by decide +kernel⟩
theorem dL_1319 : decode cL_law 1319 = .ok (.ireturn, 1) := by decide +kernel
set_option maxRecDepth 20000 in
theorem mvL_13 : jmv RL 13 yX11_addProduction cX11_addProduction 9 (some .int) 6 11 := ⟨⟨j_in2 (i := 146) rfl rfl, j_in2 (i := 149) rfl rfl, j_in1 (i := 1) rfl rfl, by decide +kernel⟩, j_in2 (i := 147) rfl rfl, j_in2 (i := 148) rfl rfl, TX11, 10, rfl⟩
set_option maxRecDepth 20000 in
theorem mvL_17 : jmv RL 17 yX12_addProduction cX12_addProduction 11 (some .int) 6 12 := ⟨⟨j_in6 (i := 53) rfl rfl, j_in6 (i := 56) rfl rfl, j_in1 (i := 15) rfl rfl, by decide +kernel⟩, j_in6 (i := 54) rfl rfl, j_in6 (i := 55) rfl rfl, TX12, 56, rfl⟩
set_option maxRecDepth 20000 in
theorem mvL_18 : jmv RL 18 yX11_removeProduction cX11_removeProduction 2 (some .int) 1 11 := ⟨⟨j_in2 (i := 224) rfl rfl, j_in2 (i := 227) rfl rfl, j_in1 (i := 1) rfl rfl, by decide +kernel⟩, j_in2 (i := 225) rfl rfl, j_in2 (i := 226) rfl rfl, TX11, 10, rfl⟩
set_option maxRecDepth 20000 in
theorem mvL_22 : jmv RL 22 yX12_removeProduction cX12_removeProduction 2 (some .int) 1 12 := ⟨⟨j_in6 (i := 143) rfl rfl, j_in6 (i := 146) rfl rfl, j_in1 (i := 15) rfl rfl, by decide +kernel⟩, j_in6 (i := 144) rfl rfl, j_in6 (i := 145) rfl rfl, TX12, 56, rfl⟩
set_option maxRecDepth 20000 in
theorem mvL_23 : jmv RL 23 yX11_clear cX11_clear 2 (some .int) 0 11 := ⟨⟨j_in2 (i := 236) rfl rfl, j_in2 (i := 239) rfl rfl, j_in1 (i := 1) rfl rfl, by decide +kernel⟩, j_in2 (i := 237) rfl rfl, j_in2 (i := 238) rfl rfl, TX11, 10, rfl⟩
set_option maxRecDepth 20000 in
theorem mvL_27 : jmv RL 27 yX12_clear cX12_clear 2 (some .int) 0 12 := ⟨⟨j_in6 (i := 155) rfl rfl, j_in6 (i := 158) rfl rfl, j_in1 (i := 15) rfl rfl, by decide +kernel⟩, j_in6 (i := 156) rfl rfl, j_in6 (i := 157) rfl rfl, TX12, 56, rfl⟩
set_option maxRecDepth 20000 in
theorem mvL_28 : jmv RL 28 yX11_productionCount cX11_productionCount 1 (some .int) 0 11 := ⟨⟨j_in3 (i := 4) rfl rfl, j_in3 (i := 7) rfl rfl, j_in1 (i := 1) rfl rfl, by decide +kernel⟩, j_in3 (i := 5) rfl rfl, j_in3 (i := 6) rfl rfl, TX11, 10, rfl⟩
set_option maxRecDepth 20000 in
theorem mvL_31 : jmv RL 31 yX12_productionCount cX12_productionCount 1 (some .int) 0 12 := ⟨⟨j_in6 (i := 159) rfl rfl, j_in6 (i := 162) rfl rfl, j_in1 (i := 15) rfl rfl, by decide +kernel⟩, j_in6 (i := 160) rfl rfl, j_in6 (i := 161) rfl rfl, TX12, 56, rfl⟩
set_option maxRecDepth 20000 in
theorem mvL_32 : jmv RL 32 yX11_leftSide cX11_leftSide 2 (some .int) 1 11 := ⟨⟨j_in3 (i := 8) rfl rfl, j_in3 (i := 11) rfl rfl, j_in1 (i := 1) rfl rfl, by decide +kernel⟩, j_in3 (i := 9) rfl rfl, j_in3 (i := 10) rfl rfl, TX11, 10, rfl⟩
set_option maxRecDepth 20000 in
theorem mvL_35 : jmv RL 35 yX12_leftSide cX12_leftSide 2 (some .int) 1 12 := ⟨⟨j_in6 (i := 163) rfl rfl, j_in6 (i := 166) rfl rfl, j_in1 (i := 15) rfl rfl, by decide +kernel⟩, j_in6 (i := 164) rfl rfl, j_in6 (i := 165) rfl rfl, TX12, 56, rfl⟩
set_option maxRecDepth 20000 in
theorem mvL_36 : jmv RL 36 yX11_rightLength cX11_rightLength 2 (some .int) 1 11 := ⟨⟨j_in3 (i := 13) rfl rfl, j_in3 (i := 16) rfl rfl, j_in1 (i := 1) rfl rfl, by decide +kernel⟩, j_in3 (i := 14) rfl rfl, j_in3 (i := 15) rfl rfl, TX11, 10, rfl⟩
set_option maxRecDepth 20000 in
theorem mvL_39 : jmv RL 39 yX12_rightLength cX12_rightLength 2 (some .int) 1 12 := ⟨⟨j_in6 (i := 167) rfl rfl, j_in6 (i := 170) rfl rfl, j_in1 (i := 15) rfl rfl, by decide +kernel⟩, j_in6 (i := 168) rfl rfl, j_in6 (i := 169) rfl rfl, TX12, 56, rfl⟩
set_option maxRecDepth 20000 in
theorem mvL_40 : jmv RL 40 yX11_rightSymbol cX11_rightSymbol 3 (some .int) 2 11 := ⟨⟨j_in3 (i := 18) rfl rfl, j_in3 (i := 21) rfl rfl, j_in1 (i := 1) rfl rfl, by decide +kernel⟩, j_in3 (i := 19) rfl rfl, j_in3 (i := 20) rfl rfl, TX11, 10, rfl⟩
set_option maxRecDepth 20000 in
theorem mvL_44 : jmv RL 44 yX12_rightSymbol cX12_rightSymbol 3 (some .int) 2 12 := ⟨⟨j_in6 (i := 171) rfl rfl, j_in6 (i := 174) rfl rfl, j_in1 (i := 15) rfl rfl, by decide +kernel⟩, j_in6 (i := 172) rfl rfl, j_in6 (i := 173) rfl rfl, TX12, 56, rfl⟩
set_option maxRecDepth 20000 in
theorem mvL_45 : jmv RL 45 yX11_nullable cX11_nullable 2 (some .int) 1 11 := ⟨⟨j_in3 (i := 23) rfl rfl, j_in3 (i := 26) rfl rfl, j_in1 (i := 1) rfl rfl, by decide +kernel⟩, j_in3 (i := 24) rfl rfl, j_in3 (i := 25) rfl rfl, TX11, 10, rfl⟩
set_option maxRecDepth 20000 in
theorem mvL_48 : jmv RL 48 yX12_nullable cX12_nullable 2 (some .int) 1 12 := ⟨⟨j_in6 (i := 183) rfl rfl, j_in6 (i := 186) rfl rfl, j_in1 (i := 15) rfl rfl, by decide +kernel⟩, j_in6 (i := 184) rfl rfl, j_in6 (i := 185) rfl rfl, TX12, 56, rfl⟩
set_option maxRecDepth 20000 in
theorem mvL_49 : jmv RL 49 yX11_firstSet cX11_firstSet 2 (some .int) 1 11 := ⟨⟨j_in3 (i := 28) rfl rfl, j_in3 (i := 31) rfl rfl, j_in1 (i := 1) rfl rfl, by decide +kernel⟩, j_in3 (i := 29) rfl rfl, j_in3 (i := 30) rfl rfl, TX11, 10, rfl⟩
set_option maxRecDepth 20000 in
theorem mvL_52 : jmv RL 52 yX12_firstSet cX12_firstSet 2 (some .int) 1 12 := ⟨⟨j_in6 (i := 187) rfl rfl, j_in6 (i := 190) rfl rfl, j_in1 (i := 15) rfl rfl, by decide +kernel⟩, j_in6 (i := 188) rfl rfl, j_in6 (i := 189) rfl rfl, TX12, 56, rfl⟩
set_option maxRecDepth 20000 in
theorem mvL_53 : jmv RL 53 yX11_followSet cX11_followSet 2 (some .int) 1 11 := ⟨⟨j_in3 (i := 32) rfl rfl, j_in3 (i := 35) rfl rfl, j_in1 (i := 1) rfl rfl, by decide +kernel⟩, j_in3 (i := 33) rfl rfl, j_in3 (i := 34) rfl rfl, TX11, 10, rfl⟩
set_option maxRecDepth 20000 in
theorem mvL_56 : jmv RL 56 yX12_followSet cX12_followSet 2 (some .int) 1 12 := ⟨⟨j_in6 (i := 191) rfl rfl, j_in6 (i := 194) rfl rfl, j_in1 (i := 15) rfl rfl, by decide +kernel⟩, j_in6 (i := 192) rfl rfl, j_in6 (i := 193) rfl rfl, TX12, 56, rfl⟩
set_option maxRecDepth 20000 in
theorem mvL_57 : jmv RL 57 yX11_selectSet cX11_selectSet 2 (some .int) 1 11 := ⟨⟨j_in3 (i := 36) rfl rfl, j_in3 (i := 39) rfl rfl, j_in1 (i := 1) rfl rfl, by decide +kernel⟩, j_in3 (i := 37) rfl rfl, j_in3 (i := 38) rfl rfl, TX11, 10, rfl⟩
set_option maxRecDepth 20000 in
theorem mvL_60 : jmv RL 60 yX12_selectSet cX12_selectSet 2 (some .int) 1 12 := ⟨⟨j_in6 (i := 195) rfl rfl, j_in6 (i := 198) rfl rfl, j_in1 (i := 15) rfl rfl, by decide +kernel⟩, j_in6 (i := 196) rfl rfl, j_in6 (i := 197) rfl rfl, TX12, 56, rfl⟩
set_option maxRecDepth 20000 in
theorem mvL_61 : jmv RL 61 yX11_changedNonterminals cX11_changedNonterminals 1 (some .int) 0 11 := ⟨⟨j_in3 (i := 40) rfl rfl, j_in3 (i := 43) rfl rfl, j_in1 (i := 1) rfl rfl, by decide +kernel⟩, j_in3 (i := 41) rfl rfl, j_in3 (i := 42) rfl rfl, TX11, 10, rfl⟩
set_option maxRecDepth 20000 in
theorem mvL_64 : jmv RL 64 yX12_changedNonterminals cX12_changedNonterminals 3 (some .int) 0 12 := ⟨⟨j_in6 (i := 203) rfl rfl, j_in6 (i := 206) rfl rfl, j_in1 (i := 15) rfl rfl, by decide +kernel⟩, j_in6 (i := 204) rfl rfl, j_in6 (i := 205) rfl rfl, TX12, 56, rfl⟩
set_option maxRecDepth 20000 in
theorem mvL_65 : jmv RL 65 yX11_productive cX11_productive 2 (some .int) 1 11 := ⟨⟨j_in3 (i := 48) rfl rfl, j_in3 (i := 51) rfl rfl, j_in1 (i := 1) rfl rfl, by decide +kernel⟩, j_in3 (i := 49) rfl rfl, j_in3 (i := 50) rfl rfl, TX11, 10, rfl⟩
set_option maxRecDepth 20000 in
theorem mvL_68 : jmv RL 68 yX12_productive cX12_productive 7 (some .int) 1 12 := ⟨⟨j_in6 (i := 207) rfl rfl, j_in6 (i := 210) rfl rfl, j_in1 (i := 15) rfl rfl, by decide +kernel⟩, j_in6 (i := 208) rfl rfl, j_in6 (i := 209) rfl rfl, TX12, 56, rfl⟩
set_option maxRecDepth 20000 in
theorem mvL_69 : jmv RL 69 yX11_reachable cX11_reachable 2 (some .int) 1 11 := ⟨⟨j_in3 (i := 60) rfl rfl, j_in3 (i := 63) rfl rfl, j_in1 (i := 1) rfl rfl, by decide +kernel⟩, j_in3 (i := 61) rfl rfl, j_in3 (i := 62) rfl rfl, TX11, 10, rfl⟩
set_option maxRecDepth 20000 in
theorem mvL_72 : jmv RL 72 yX12_reachable cX12_reachable 6 (some .int) 1 12 := ⟨⟨j_in6 (i := 211) rfl rfl, j_in6 (i := 214) rfl rfl, j_in1 (i := 15) rfl rfl, by decide +kernel⟩, j_in6 (i := 212) rfl rfl, j_in6 (i := 213) rfl rfl, TX12, 56, rfl⟩
set_option maxRecDepth 20000 in
theorem mvL_73 : jmv RL 73 yX11_leftRecursive cX11_leftRecursive 2 (some .int) 1 11 := ⟨⟨j_in3 (i := 68) rfl rfl, j_in3 (i := 71) rfl rfl, j_in1 (i := 1) rfl rfl, by decide +kernel⟩, j_in3 (i := 69) rfl rfl, j_in3 (i := 70) rfl rfl, TX11, 10, rfl⟩
set_option maxRecDepth 20000 in
theorem mvL_76 : jmv RL 76 yX12_leftRecursive cX12_leftRecursive 7 (some .int) 1 12 := ⟨⟨j_in6 (i := 215) rfl rfl, j_in6 (i := 218) rfl rfl, j_in1 (i := 15) rfl rfl, by decide +kernel⟩, j_in6 (i := 216) rfl rfl, j_in6 (i := 217) rfl rfl, TX12, 56, rfl⟩
set_option maxRecDepth 20000 in
theorem mvL_77 : jmv RL 77 yX11_shortestLength cX11_shortestLength 2 (some .int) 1 11 := ⟨⟨j_in3 (i := 84) rfl rfl, j_in3 (i := 87) rfl rfl, j_in1 (i := 1) rfl rfl, by decide +kernel⟩, j_in3 (i := 85) rfl rfl, j_in3 (i := 86) rfl rfl, TX11, 10, rfl⟩
set_option maxRecDepth 20000 in
theorem mvL_80 : jmv RL 80 yX12_shortestLength cX12_shortestLength 2 (some .int) 1 12 := ⟨⟨j_in6 (i := 219) rfl rfl, j_in6 (i := 222) rfl rfl, j_in1 (i := 15) rfl rfl, by decide +kernel⟩, j_in6 (i := 220) rfl rfl, j_in6 (i := 221) rfl rfl, TX12, 56, rfl⟩
set_option maxRecDepth 20000 in
theorem mvL_81 : jmv RL 81 yX11_shortestTerminal cX11_shortestTerminal 3 (some .int) 2 11 := ⟨⟨j_in3 (i := 163) rfl rfl, j_in3 (i := 166) rfl rfl, j_in1 (i := 1) rfl rfl, by decide +kernel⟩, j_in3 (i := 164) rfl rfl, j_in3 (i := 165) rfl rfl, TX11, 10, rfl⟩
set_option maxRecDepth 20000 in
theorem mvL_84 : jmv RL 84 yX12_shortestTerminal cX12_shortestTerminal 3 (some .int) 2 12 := ⟨⟨j_in6 (i := 223) rfl rfl, j_in6 (i := 226) rfl rfl, j_in1 (i := 15) rfl rfl, by decide +kernel⟩, j_in6 (i := 224) rfl rfl, j_in6 (i := 225) rfl rfl, TX12, 56, rfl⟩
set_option maxRecDepth 20000 in
theorem mvL_85 : jmv RL 85 yX11_tableEntry cX11_tableEntry 3 (some .int) 2 11 := ⟨⟨j_in3 (i := 172) rfl rfl, j_in3 (i := 175) rfl rfl, j_in1 (i := 1) rfl rfl, by decide +kernel⟩, j_in3 (i := 173) rfl rfl, j_in3 (i := 174) rfl rfl, TX11, 10, rfl⟩
set_option maxRecDepth 20000 in
theorem mvL_88 : jmv RL 88 yX12_tableEntry cX12_tableEntry 3 (some .int) 2 12 := ⟨⟨j_in6 (i := 227) rfl rfl, j_in6 (i := 230) rfl rfl, j_in1 (i := 15) rfl rfl, by decide +kernel⟩, j_in6 (i := 228) rfl rfl, j_in6 (i := 229) rfl rfl, TX12, 56, rfl⟩
set_option maxRecDepth 20000 in
theorem mvL_89 : jmv RL 89 yX11_conflictCount cX11_conflictCount 1 (some .int) 0 11 := ⟨⟨j_in3 (i := 180) rfl rfl, j_in3 (i := 183) rfl rfl, j_in1 (i := 1) rfl rfl, by decide +kernel⟩, j_in3 (i := 181) rfl rfl, j_in3 (i := 182) rfl rfl, TX11, 10, rfl⟩
set_option maxRecDepth 20000 in
theorem mvL_92 : jmv RL 92 yX12_conflictCount cX12_conflictCount 1 (some .int) 0 12 := ⟨⟨j_in6 (i := 235) rfl rfl, j_in6 (i := 238) rfl rfl, j_in1 (i := 15) rfl rfl, by decide +kernel⟩, j_in6 (i := 236) rfl rfl, j_in6 (i := 237) rfl rfl, TX12, 56, rfl⟩
set_option maxRecDepth 20000 in
theorem mvL_93 : jmv RL 93 yX11_conflict cX11_conflict 3 (some .int) 2 11 := ⟨⟨j_in3 (i := 184) rfl rfl, j_in3 (i := 187) rfl rfl, j_in1 (i := 1) rfl rfl, by decide +kernel⟩, j_in3 (i := 185) rfl rfl, j_in3 (i := 186) rfl rfl, TX11, 10, rfl⟩
set_option maxRecDepth 20000 in
theorem mvL_96 : jmv RL 96 yX12_conflict cX12_conflict 3 (some .int) 2 12 := ⟨⟨j_in7 (i := 8) rfl rfl, j_in7 (i := 11) rfl rfl, j_in1 (i := 15) rfl rfl, by decide +kernel⟩, j_in7 (i := 9) rfl rfl, j_in7 (i := 10) rfl rfl, TX12, 56, rfl⟩
set_option maxRecDepth 20000 in
theorem mvL_97 : jmv RL 97 yX11_conflictKind cX11_conflictKind 2 (some .int) 1 11 := ⟨⟨j_in3 (i := 214) rfl rfl, j_in3 (i := 217) rfl rfl, j_in1 (i := 1) rfl rfl, by decide +kernel⟩, j_in3 (i := 215) rfl rfl, j_in3 (i := 216) rfl rfl, TX11, 10, rfl⟩
set_option maxRecDepth 20000 in
theorem mvL_100 : jmv RL 100 yX12_conflictKind cX12_conflictKind 2 (some .int) 1 12 := ⟨⟨j_in7 (i := 16) rfl rfl, j_in7 (i := 19) rfl rfl, j_in1 (i := 15) rfl rfl, by decide +kernel⟩, j_in7 (i := 17) rfl rfl, j_in7 (i := 18) rfl rfl, TX12, 56, rfl⟩
set_option maxRecDepth 20000 in
theorem mvL_101 : jmv RL 101 yX11_exampleLength cX11_exampleLength 3 (some .int) 2 11 := ⟨⟨j_in3 (i := 224) rfl rfl, j_in3 (i := 227) rfl rfl, j_in1 (i := 1) rfl rfl, by decide +kernel⟩, j_in3 (i := 225) rfl rfl, j_in3 (i := 226) rfl rfl, TX11, 10, rfl⟩
set_option maxRecDepth 20000 in
theorem mvL_104 : jmv RL 104 yX12_exampleLength cX12_exampleLength 4 (some .int) 2 12 := ⟨⟨j_in7 (i := 24) rfl rfl, j_in7 (i := 27) rfl rfl, j_in1 (i := 15) rfl rfl, by decide +kernel⟩, j_in7 (i := 25) rfl rfl, j_in7 (i := 26) rfl rfl, TX12, 56, rfl⟩
set_option maxRecDepth 20000 in
theorem mvL_105 : jmv RL 105 yX11_exampleTerminal cX11_exampleTerminal 4 (some .int) 3 11 := ⟨⟨j_in4 (i := 25) rfl rfl, j_in4 (i := 28) rfl rfl, j_in1 (i := 1) rfl rfl, by decide +kernel⟩, j_in4 (i := 26) rfl rfl, j_in4 (i := 27) rfl rfl, TX11, 10, rfl⟩
set_option maxRecDepth 20000 in
theorem mvL_109 : jmv RL 109 yX12_exampleTerminal cX12_exampleTerminal 5 (some .int) 3 12 := ⟨⟨j_in7 (i := 44) rfl rfl, j_in7 (i := 47) rfl rfl, j_in1 (i := 15) rfl rfl, by decide +kernel⟩, j_in7 (i := 45) rfl rfl, j_in7 (i := 46) rfl rfl, TX12, 56, rfl⟩
set_option maxRecDepth 20000 in
theorem mvL_110 : jmv RL 110 yX11_check cX11_check 2 (some .int) 0 11 := ⟨⟨j_in4 (i := 29) rfl rfl, j_in4 (i := 32) rfl rfl, j_in1 (i := 1) rfl rfl, by decide +kernel⟩, j_in4 (i := 30) rfl rfl, j_in4 (i := 31) rfl rfl, TX11, 10, rfl⟩
set_option maxRecDepth 20000 in
theorem mvL_113 : jmv RL 113 yX12_check cX12_check 3 (some .int) 0 12 := ⟨⟨j_in7 (i := 48) rfl rfl, j_in7 (i := 51) rfl rfl, j_in1 (i := 15) rfl rfl, by decide +kernel⟩, j_in7 (i := 49) rfl rfl, j_in7 (i := 50) rfl rfl, TX12, 56, rfl⟩
set_option maxRecDepth 20000 in
theorem mvL_114 : jmv RL 114 yX11_leftFactor cX11_leftFactor 4 (some .int) 1 11 := ⟨⟨j_in4 (i := 33) rfl rfl, j_in4 (i := 36) rfl rfl, j_in1 (i := 1) rfl rfl, by decide +kernel⟩, j_in4 (i := 34) rfl rfl, j_in4 (i := 35) rfl rfl, TX11, 10, rfl⟩
set_option maxRecDepth 20000 in
theorem mvL_117 : jmv RL 117 yX12_leftFactor cX12_leftFactor 9 (some .int) 1 12 := ⟨⟨j_in7 (i := 52) rfl rfl, j_in7 (i := 55) rfl rfl, j_in1 (i := 15) rfl rfl, by decide +kernel⟩, j_in7 (i := 53) rfl rfl, j_in7 (i := 54) rfl rfl, TX12, 56, rfl⟩
set_option maxRecDepth 20000 in
theorem mvL_118 : jmv RL 118 yX11_removeLeftRecursion cX11_removeLeftRecursion 3 (some .int) 1 11 := ⟨⟨j_in4 (i := 82) rfl rfl, j_in4 (i := 85) rfl rfl, j_in1 (i := 1) rfl rfl, by decide +kernel⟩, j_in4 (i := 83) rfl rfl, j_in4 (i := 84) rfl rfl, TX11, 10, rfl⟩
set_option maxRecDepth 20000 in
theorem mvL_121 : jmv RL 121 yX12_removeLeftRecursion cX12_removeLeftRecursion 11 (some .int) 1 12 := ⟨⟨j_in7 (i := 68) rfl rfl, j_in7 (i := 71) rfl rfl, j_in1 (i := 15) rfl rfl, by decide +kernel⟩, j_in7 (i := 69) rfl rfl, j_in7 (i := 70) rfl rfl, TX12, 56, rfl⟩
set_option maxRecDepth 20000 in
theorem mvL_122 : jmv RL 122 yX11_undo cX11_undo 1 (some .int) 0 11 := ⟨⟨j_in4 (i := 110) rfl rfl, j_in4 (i := 113) rfl rfl, j_in1 (i := 1) rfl rfl, by decide +kernel⟩, j_in4 (i := 111) rfl rfl, j_in4 (i := 112) rfl rfl, TX11, 10, rfl⟩
set_option maxRecDepth 20000 in
theorem mvL_125 : jmv RL 125 yX12_undo cX12_undo 1 (some .int) 0 12 := ⟨⟨j_in6 (i := 175) rfl rfl, j_in6 (i := 178) rfl rfl, j_in1 (i := 15) rfl rfl, by decide +kernel⟩, j_in6 (i := 176) rfl rfl, j_in6 (i := 177) rfl rfl, TX12, 56, rfl⟩
set_option maxRecDepth 20000 in
theorem mvL_126 : jmv RL 126 yX11_setSynchronizing cX11_setSynchronizing 4 (some .int) 2 11 := ⟨⟨j_in4 (i := 118) rfl rfl, j_in4 (i := 121) rfl rfl, j_in1 (i := 1) rfl rfl, by decide +kernel⟩, j_in4 (i := 119) rfl rfl, j_in4 (i := 120) rfl rfl, TX11, 10, rfl⟩
set_option maxRecDepth 20000 in
theorem mvL_129 : jmv RL 129 yX12_setSynchronizing cX12_setSynchronizing 4 (some .int) 2 12 := ⟨⟨j_in7 (i := 76) rfl rfl, j_in7 (i := 79) rfl rfl, j_in1 (i := 15) rfl rfl, by decide +kernel⟩, j_in7 (i := 77) rfl rfl, j_in7 (i := 78) rfl rfl, TX12, 56, rfl⟩
set_option maxRecDepth 20000 in
theorem mvL_130 : jmv RL 130 yX11_appendInput cX11_appendInput 3 (some .int) 1 11 := ⟨⟨j_in4 (i := 122) rfl rfl, j_in4 (i := 125) rfl rfl, j_in1 (i := 1) rfl rfl, by decide +kernel⟩, j_in4 (i := 123) rfl rfl, j_in4 (i := 124) rfl rfl, TX11, 10, rfl⟩
set_option maxRecDepth 20000 in
theorem mvL_133 : jmv RL 133 yX12_appendInput cX12_appendInput 5 (some .int) 1 12 := ⟨⟨j_in7 (i := 80) rfl rfl, j_in7 (i := 83) rfl rfl, j_in1 (i := 15) rfl rfl, by decide +kernel⟩, j_in7 (i := 81) rfl rfl, j_in7 (i := 82) rfl rfl, TX12, 56, rfl⟩
set_option maxRecDepth 20000 in
theorem mvL_134 : jmv RL 134 yX11_clearInput cX11_clearInput 2 (some .int) 0 11 := ⟨⟨j_in4 (i := 133) rfl rfl, j_in4 (i := 136) rfl rfl, j_in1 (i := 1) rfl rfl, by decide +kernel⟩, j_in4 (i := 134) rfl rfl, j_in4 (i := 135) rfl rfl, TX11, 10, rfl⟩
set_option maxRecDepth 20000 in
theorem mvL_137 : jmv RL 137 yX12_clearInput cX12_clearInput 2 (some .int) 0 12 := ⟨⟨j_in7 (i := 84) rfl rfl, j_in7 (i := 87) rfl rfl, j_in1 (i := 15) rfl rfl, by decide +kernel⟩, j_in7 (i := 85) rfl rfl, j_in7 (i := 86) rfl rfl, TX12, 56, rfl⟩
set_option maxRecDepth 20000 in
theorem mvL_138 : jmv RL 138 yX11_inputTerminal cX11_inputTerminal 2 (some .int) 1 11 := ⟨⟨j_in4 (i := 137) rfl rfl, j_in4 (i := 140) rfl rfl, j_in1 (i := 1) rfl rfl, by decide +kernel⟩, j_in4 (i := 138) rfl rfl, j_in4 (i := 139) rfl rfl, TX11, 10, rfl⟩
set_option maxRecDepth 20000 in
theorem mvL_141 : jmv RL 141 yX12_inputTerminal cX12_inputTerminal 2 (some .int) 1 12 := ⟨⟨j_in7 (i := 88) rfl rfl, j_in7 (i := 91) rfl rfl, j_in1 (i := 15) rfl rfl, by decide +kernel⟩, j_in7 (i := 89) rfl rfl, j_in7 (i := 90) rfl rfl, TX12, 56, rfl⟩
set_option maxRecDepth 20000 in
theorem mvL_142 : jmv RL 142 yX11_parse cX11_parse 2 (some .int) 0 11 := ⟨⟨j_in4 (i := 141) rfl rfl, j_in4 (i := 144) rfl rfl, j_in1 (i := 1) rfl rfl, by decide +kernel⟩, j_in4 (i := 142) rfl rfl, j_in4 (i := 143) rfl rfl, TX11, 10, rfl⟩
set_option maxRecDepth 20000 in
theorem mvL_145 : jmv RL 145 yX12_parse cX12_parse 2 (some .int) 0 12 := ⟨⟨j_in7 (i := 92) rfl rfl, j_in7 (i := 95) rfl rfl, j_in1 (i := 15) rfl rfl, by decide +kernel⟩, j_in7 (i := 93) rfl rfl, j_in7 (i := 94) rfl rfl, TX12, 56, rfl⟩
set_option maxRecDepth 20000 in
theorem mvL_146 : jmv RL 146 yX11_recover cX11_recover 1 (some .int) 0 11 := ⟨⟨j_in4 (i := 222) rfl rfl, j_in4 (i := 225) rfl rfl, j_in1 (i := 1) rfl rfl, by decide +kernel⟩, j_in4 (i := 223) rfl rfl, j_in4 (i := 224) rfl rfl, TX11, 10, rfl⟩
set_option maxRecDepth 20000 in
theorem mvL_149 : jmv RL 149 yX12_recover cX12_recover 3 (some .int) 0 12 := ⟨⟨j_in7 (i := 128) rfl rfl, j_in7 (i := 131) rfl rfl, j_in1 (i := 15) rfl rfl, by decide +kernel⟩, j_in7 (i := 129) rfl rfl, j_in7 (i := 130) rfl rfl, TX12, 56, rfl⟩
set_option maxRecDepth 20000 in
theorem mvL_150 : jmv RL 150 yX11_error cX11_error 3 (some .int) 2 11 := ⟨⟨j_in5 (i := 3) rfl rfl, j_in5 (i := 6) rfl rfl, j_in1 (i := 1) rfl rfl, by decide +kernel⟩, j_in5 (i := 4) rfl rfl, j_in5 (i := 5) rfl rfl, TX11, 10, rfl⟩
set_option maxRecDepth 20000 in
theorem mvL_153 : jmv RL 153 yX12_error cX12_error 3 (some .int) 2 12 := ⟨⟨j_in7 (i := 136) rfl rfl, j_in7 (i := 139) rfl rfl, j_in1 (i := 15) rfl rfl, by decide +kernel⟩, j_in7 (i := 137) rfl rfl, j_in7 (i := 138) rfl rfl, TX12, 56, rfl⟩
set_option maxRecDepth 20000 in
theorem mvL_154 : jmv RL 154 yX11_traceLength cX11_traceLength 1 (some .int) 0 11 := ⟨⟨j_in5 (i := 11) rfl rfl, j_in5 (i := 14) rfl rfl, j_in1 (i := 1) rfl rfl, by decide +kernel⟩, j_in5 (i := 12) rfl rfl, j_in5 (i := 13) rfl rfl, TX11, 10, rfl⟩
set_option maxRecDepth 20000 in
theorem mvL_157 : jmv RL 157 yX12_traceLength cX12_traceLength 1 (some .int) 0 12 := ⟨⟨j_in7 (i := 140) rfl rfl, j_in7 (i := 143) rfl rfl, j_in1 (i := 15) rfl rfl, by decide +kernel⟩, j_in7 (i := 141) rfl rfl, j_in7 (i := 142) rfl rfl, TX12, 56, rfl⟩
set_option maxRecDepth 20000 in
theorem mvL_158 : jmv RL 158 yX11_trace cX11_trace 2 (some .int) 1 11 := ⟨⟨j_in5 (i := 15) rfl rfl, j_in5 (i := 18) rfl rfl, j_in1 (i := 1) rfl rfl, by decide +kernel⟩, j_in5 (i := 16) rfl rfl, j_in5 (i := 17) rfl rfl, TX11, 10, rfl⟩
set_option maxRecDepth 20000 in
theorem mvL_161 : jmv RL 161 yX12_trace cX12_trace 2 (some .int) 1 12 := ⟨⟨j_in7 (i := 144) rfl rfl, j_in7 (i := 147) rfl rfl, j_in1 (i := 15) rfl rfl, by decide +kernel⟩, j_in7 (i := 145) rfl rfl, j_in7 (i := 146) rfl rfl, TX12, 56, rfl⟩
set_option maxRecDepth 20000 in
theorem mvL_162 : jmv RL 162 yX11_nodeCount cX11_nodeCount 1 (some .int) 0 11 := ⟨⟨j_in5 (i := 19) rfl rfl, j_in5 (i := 22) rfl rfl, j_in1 (i := 1) rfl rfl, by decide +kernel⟩, j_in5 (i := 20) rfl rfl, j_in5 (i := 21) rfl rfl, TX11, 10, rfl⟩
set_option maxRecDepth 20000 in
theorem mvL_165 : jmv RL 165 yX12_nodeCount cX12_nodeCount 1 (some .int) 0 12 := ⟨⟨j_in7 (i := 148) rfl rfl, j_in7 (i := 151) rfl rfl, j_in1 (i := 15) rfl rfl, by decide +kernel⟩, j_in7 (i := 149) rfl rfl, j_in7 (i := 150) rfl rfl, TX12, 56, rfl⟩
set_option maxRecDepth 20000 in
theorem mvL_166 : jmv RL 166 yX11_nodeSymbol cX11_nodeSymbol 2 (some .int) 1 11 := ⟨⟨j_in5 (i := 23) rfl rfl, j_in5 (i := 26) rfl rfl, j_in1 (i := 1) rfl rfl, by decide +kernel⟩, j_in5 (i := 24) rfl rfl, j_in5 (i := 25) rfl rfl, TX11, 10, rfl⟩
set_option maxRecDepth 20000 in
theorem mvL_169 : jmv RL 169 yX12_nodeSymbol cX12_nodeSymbol 2 (some .int) 1 12 := ⟨⟨j_in7 (i := 152) rfl rfl, j_in7 (i := 155) rfl rfl, j_in1 (i := 15) rfl rfl, by decide +kernel⟩, j_in7 (i := 153) rfl rfl, j_in7 (i := 154) rfl rfl, TX12, 56, rfl⟩
set_option maxRecDepth 20000 in
theorem mvL_170 : jmv RL 170 yX11_nodeParent cX11_nodeParent 2 (some .int) 1 11 := ⟨⟨j_in5 (i := 28) rfl rfl, j_in5 (i := 31) rfl rfl, j_in1 (i := 1) rfl rfl, by decide +kernel⟩, j_in5 (i := 29) rfl rfl, j_in5 (i := 30) rfl rfl, TX11, 10, rfl⟩
set_option maxRecDepth 20000 in
theorem mvL_173 : jmv RL 173 yX12_nodeParent cX12_nodeParent 2 (some .int) 1 12 := ⟨⟨j_in7 (i := 156) rfl rfl, j_in7 (i := 159) rfl rfl, j_in1 (i := 15) rfl rfl, by decide +kernel⟩, j_in7 (i := 157) rfl rfl, j_in7 (i := 158) rfl rfl, TX12, 56, rfl⟩
set_option maxRecDepth 20000 in
theorem mvL_174 : jmv RL 174 yX11_nodeHeight cX11_nodeHeight 2 (some .int) 1 11 := ⟨⟨j_in5 (i := 32) rfl rfl, j_in5 (i := 35) rfl rfl, j_in1 (i := 1) rfl rfl, by decide +kernel⟩, j_in5 (i := 33) rfl rfl, j_in5 (i := 34) rfl rfl, TX11, 10, rfl⟩
set_option maxRecDepth 20000 in
theorem mvL_177 : jmv RL 177 yX12_nodeHeight cX12_nodeHeight 6 (some .int) 1 12 := ⟨⟨j_in7 (i := 160) rfl rfl, j_in7 (i := 163) rfl rfl, j_in1 (i := 15) rfl rfl, by decide +kernel⟩, j_in7 (i := 161) rfl rfl, j_in7 (i := 162) rfl rfl, TX12, 56, rfl⟩
set_option maxRecDepth 20000 in
theorem mvL_178 : jmv RL 178 yX11_setWeight cX11_setWeight 4 (some .int) 2 11 := ⟨⟨j_in5 (i := 36) rfl rfl, j_in5 (i := 39) rfl rfl, j_in1 (i := 1) rfl rfl, by decide +kernel⟩, j_in5 (i := 37) rfl rfl, j_in5 (i := 38) rfl rfl, TX11, 10, rfl⟩
set_option maxRecDepth 20000 in
theorem mvL_181 : jmv RL 181 yX12_setWeight cX12_setWeight 4 (some .int) 2 12 := ⟨⟨j_in7 (i := 164) rfl rfl, j_in7 (i := 167) rfl rfl, j_in1 (i := 15) rfl rfl, by decide +kernel⟩, j_in7 (i := 165) rfl rfl, j_in7 (i := 166) rfl rfl, TX12, 56, rfl⟩
set_option maxRecDepth 20000 in
theorem mvL_182 : jmv RL 182 yX11_repair cX11_repair 1 (some .int) 0 11 := ⟨⟨j_in5 (i := 40) rfl rfl, j_in5 (i := 43) rfl rfl, j_in1 (i := 1) rfl rfl, by decide +kernel⟩, j_in5 (i := 41) rfl rfl, j_in5 (i := 42) rfl rfl, TX11, 10, rfl⟩
set_option maxRecDepth 20000 in
theorem mvL_185 : jmv RL 185 yX12_repair cX12_repair 4 (some .int) 0 12 := ⟨⟨j_in7 (i := 168) rfl rfl, j_in7 (i := 171) rfl rfl, j_in1 (i := 15) rfl rfl, by decide +kernel⟩, j_in7 (i := 169) rfl rfl, j_in7 (i := 170) rfl rfl, TX12, 56, rfl⟩
set_option maxRecDepth 20000 in
theorem mvL_186 : jmv RL 186 yX11_repairedTerminal cX11_repairedTerminal 2 (some .int) 1 11 := ⟨⟨j_in5 (i := 83) rfl rfl, j_in5 (i := 86) rfl rfl, j_in1 (i := 1) rfl rfl, by decide +kernel⟩, j_in5 (i := 84) rfl rfl, j_in5 (i := 85) rfl rfl, TX11, 10, rfl⟩
set_option maxRecDepth 20000 in
theorem mvL_189 : jmv RL 189 yX12_repairedTerminal cX12_repairedTerminal 2 (some .int) 1 12 := ⟨⟨j_in7 (i := 196) rfl rfl, j_in7 (i := 199) rfl rfl, j_in1 (i := 15) rfl rfl, by decide +kernel⟩, j_in7 (i := 197) rfl rfl, j_in7 (i := 198) rfl rfl, TX12, 56, rfl⟩
set_option maxRecDepth 20000 in
theorem mvL_190 : jmv RL 190 yX11_failureLevels cX11_failureLevels 1 (some .int) 0 11 := ⟨⟨j_in5 (i := 87) rfl rfl, j_in5 (i := 90) rfl rfl, j_in1 (i := 1) rfl rfl, by decide +kernel⟩, j_in5 (i := 88) rfl rfl, j_in5 (i := 89) rfl rfl, TX11, 10, rfl⟩
set_option maxRecDepth 20000 in
theorem mvL_193 : jmv RL 193 yX12_failureLevels cX12_failureLevels 1 (some .int) 0 12 := ⟨⟨j_in6 (i := 38) rfl rfl, j_in6 (i := 41) rfl rfl, j_in1 (i := 15) rfl rfl, by decide +kernel⟩, j_in6 (i := 39) rfl rfl, j_in6 (i := 40) rfl rfl, TX12, 56, rfl⟩
set_option maxRecDepth 20000 in
theorem mvL_194 : jmv RL 194 yX11_failureCode cX11_failureCode 2 (some .int) 1 11 := ⟨⟨j_in5 (i := 91) rfl rfl, j_in5 (i := 94) rfl rfl, j_in1 (i := 1) rfl rfl, by decide +kernel⟩, j_in5 (i := 92) rfl rfl, j_in5 (i := 93) rfl rfl, TX11, 10, rfl⟩
set_option maxRecDepth 20000 in
theorem mvL_197 : jmv RL 197 yX12_failureCode cX12_failureCode 2 (some .int) 1 12 := ⟨⟨j_in6 (i := 42) rfl rfl, j_in6 (i := 45) rfl rfl, j_in1 (i := 15) rfl rfl, by decide +kernel⟩, j_in6 (i := 43) rfl rfl, j_in6 (i := 44) rfl rfl, TX12, 56, rfl⟩
set_option maxRecDepth 20000 in
theorem mvL_198 : jmv RL 198 yX11_failureDetail cX11_failureDetail 2 (some .int) 1 11 := ⟨⟨j_in5 (i := 99) rfl rfl, j_in5 (i := 102) rfl rfl, j_in1 (i := 1) rfl rfl, by decide +kernel⟩, j_in5 (i := 100) rfl rfl, j_in5 (i := 101) rfl rfl, TX11, 10, rfl⟩
set_option maxRecDepth 20000 in
theorem mvL_201 : jmv RL 201 yX12_failureDetail cX12_failureDetail 2 (some .int) 1 12 := ⟨⟨j_in6 (i := 49) rfl rfl, j_in6 (i := 52) rfl rfl, j_in1 (i := 15) rfl rfl, by decide +kernel⟩, j_in6 (i := 50) rfl rfl, j_in6 (i := 51) rfl rfl, TX12, 56, rfl⟩
/-- to the next step of the script -/
theorem j_lnext {X : jC} {tc : jTC} {b : Nat} {q0 q1 : Nat} {Q : Unit → State → Prop} {O : Option Unit} {ws : va_W} {i : Int32} {kn : Nat × Nat} (C : jx X cL_law 4 RL ret tc room_1) (h : jo X 4 kn Q O ws 18 [(0, .ref b), (1, .ref q0), (2, .ref q1), (3, .int (i + 7))] []) : jo X 4 kn Q O ws 1312 [(0, .ref b), (1, .ref q0), (2, .ref q1), (3, .int i)] [] := by
  refine j_iinc C (v := i + 7) (lv' := [(3, .int (i + 7)), (0, .ref b), (1, .ref q0), (2, .ref q1)]) dL_1312 3 rfl rfl (by decide) rfl ?_
  refine j_goto C dL_1315 ?_
  exact j_sub [1, 2, 3, 0] rfl h
