/-! THE CLASS'S findMarked and exampleWord -/
section CM3
variable {codes : Nat → Int32} {count : Int32} {G : List gP} {E : Int32} {pv : vW} {tk : Nat}
theorem c_lowerMarked (hc : RC codes count G) (hG : okG G) {p : Nat} (hp : p < G.length) {c : Nat → Int32} {h l : Nat → Int64} {ω v bv : vW} (R : WS w0 362 c h l ω) (hE : Env G E pv ω) (hT : ∀ p, p < G.length → STL G E pv tk ω bv p) (hM : MK ω v) {N : Nat} (hN : 30 < N) : ∃ (o : wsT) (ω' : vW), fX0_lowerMarked N codes c h l (nI p) = some (b01 (dMk G E pv (bS tk bv) p v), o) ∧ WS w0 362 o.1 o.2.1 o.2.2 ω' ∧ FrM ω ω' ∧ MK ω' (fMk G E pv (bS tk bv) p v) := by
  have hl := hG.1
  have hq := okG_gp hG hp
  have h5 := hq.2.1
  have cd := hc.2 p hp
  obtain ⟨o1, e1, R1⟩ := w_putEmpty R (n := 362) rfl (show 72 < 362 by decide)
  have z72 : (nI 72 : Int32) = 72 := rfl
  rw [z72] at e1
  simp only [fX0_lowerMarked, ag_ok (show p < 24 by omega), obs, cd, e1, bd3, jn4]
  unfold dMk fMk
  refine vlp5 (B := bX0_lowerMarked_24 (nI p) codes (nI (enc (gp G p))) fun v5 v6 v7 v8 => gz v5 (some (v5, v6, v7, v8))) (fun j f i c h l => i = nI j ∧ f = b01 (chN (dMi E pv (bS tk bv) (gp G p)) (fMi E pv (bS tk bv) (gp G p)) j v) ∧ j ≤ (gp G p).2.length ∧ ∃ ω', WS w0 362 c h l ω' ∧ FrM ω ω' ∧ MK ω' (foldN (fMi E pv (bS tk bv) (gp G p)) j v) ∧ ω' 72 = clv pv ((gp G p).2.take j)) (fun r => ∃ (o : wsT) (ω' : vW), r = some (b01 (chN (dMi E pv (bS tk bv) (gp G p)) (fMi E pv (bS tk bv) (gp G p)) (gp G p).2.length v), o) ∧ WS w0 362 o.1 o.2.1 o.2.2 ω' ∧ FrM ω ω' ∧ MK ω' (foldN (fMi E pv (bS tk bv) (gp G p)) (gp G p).2.length v)) (gp G p).2.length ?_ ?_ N 0 0 o1.1 o1.2.1 o1.2.2 (by omega) ⟨rfl, rfl, Nat.zero_le _, _, R1, FrM_upd (fun _ _ => rfl) (by omega) (by omega) _, MK_tmp hM (Or.inl rfl) _, by rw [updW_s]; rfl⟩
  · rintro j f i c h l hj ⟨rfl, rfl, _, ω1, R1, F1, M1, H1⟩
    left
    obtain ⟨o, ω2, q1, q2, q3, q4, q5⟩ := c_markStep hc hG hp hj R1 (Env_fr hG hE (FrM_P F1)) (STL_fr hT F1) M1 H1 (chN (dMi E pv (bS tk bv) (gp G p)) (fMi E pv (bS tk bv) (gp G p)) j v)
    exact ⟨_, nI (j + 1), o.1, o.2.1, o.2.2, ⟨rfl, rfl, by omega, ω2, q2, fun x hx => by rw [q3 x hx, F1 x hx], q4, q5⟩, fun rc => q1 _ rc⟩
  · rintro f i c h l ⟨rfl, rfl, _, ω1, R1, F1, M1, H1⟩
    refine ⟨_, ⟨(c, h, l), ω1, rfl, R1, F1, M1⟩, fun rc => ?_⟩
    simp only [bX0_lowerMarked_24, c_lengthOf hq, obs]
    rw [if_pos (Int32.le_refl _)]
    unfold gz
    rw [if_pos (b01_01 _)]
theorem c_markSweep (hc : RC codes count G) (hG : okG G) {c : Nat → Int32} {h l : Nat → Int64} {ω v bv : vW} (R : WS w0 362 c h l ω) (hE : Env G E pv ω) (hT : ∀ p, p < G.length → STL G E pv tk ω bv p) (hM : MK ω v) {N : Nat} (hN : 30 < N) : ∃ (o : wsT) (ω' : vW), (∀ k, itr5 (bX0_findMarked_82 N codes count k) N 0 0 c h l = k (b01 (chN (dMk G E pv (bS tk bv)) (fMk G E pv (bS tk bv)) G.length v)) o.1 o.2.1 o.2.2) ∧ WS w0 362 o.1 o.2.1 o.2.2 ω' ∧ FrM ω ω' ∧ MK ω' (foldN (fMk G E pv (bS tk bv)) G.length v) := by
  have hl := hG.1
  refine vlq5 (B := fun k => bX0_findMarked_82 N codes count k) (fun j f i c h l => i = nI j ∧ j ≤ G.length ∧ f = b01 (chN (dMk G E pv (bS tk bv)) (fMk G E pv (bS tk bv)) j v) ∧ ∃ ω', WS w0 362 c h l ω' ∧ FrM ω ω' ∧ MK ω' (foldN (fMk G E pv (bS tk bv)) j v)) (fun r => ∃ (o : wsT) (ω' : vW), (∀ k, r k = k (b01 (chN (dMk G E pv (bS tk bv)) (fMk G E pv (bS tk bv)) G.length v)) o.1 o.2.1 o.2.2) ∧ WS w0 362 o.1 o.2.1 o.2.2 ω' ∧ FrM ω ω' ∧ MK ω' (foldN (fMk G E pv (bS tk bv)) G.length v)) G.length ?_ ?_ N 0 0 c h l (by omega) ⟨rfl, Nat.zero_le _, rfl, ω, R, fun _ _ => rfl, hM⟩
  · rintro j f i c h l hj ⟨rfl, _, rfl, ω1, R1, F1, M1⟩
    left
    obtain ⟨o2, ω2, e2, R2, F2, M2⟩ := c_lowerMarked hc hG hj R1 (Env_fr hG hE (FrM_P F1)) (STL_fr hT F1) M1 hN
    refine ⟨b01 (chN (dMk G E pv (bS tk bv)) (fMk G E pv (bS tk bv)) (j + 1) v), nI (j + 1), o2.1, o2.2.1, o2.2.2, ⟨rfl, by omega, rfl, ω2, R2, fun x hx => by rw [F2 x hx, F1 x hx], M2⟩, fun k rc => ?_⟩
    simp only [bX0_findMarked_82]
    rw [hc.1, if_neg (nI_ge hj (by omega)), e2]
    simp only [bd4, obs, jn_, lt_, nI_1]
    rw [fl_or (F := fun x => rc x (nI (j + 1)) o2.1 o2.2.1 o2.2.2)]
    rfl
  · rintro f i c h l ⟨rfl, _, rfl, ω1, R1, F1, M1⟩
    refine ⟨_, ⟨(c, h, l), ω1, fun _ => rfl, R1, F1, M1⟩, fun k rc => ?_⟩
    simp only [bX0_findMarked_82]
    rw [hc.1, if_pos (Int32.le_refl _)]
def baseM (E : Int32) (pv : vW) (β : Nat → wW) (q : gP) : vW := updW (updW (fun _ => wNo) (8 + q.1) (if van E q.2 = true then wEm else wNo)) q.1 (stl E pv β q.2)
def MarkOK (G : List gP) (E : Int32) (pv : vW) (β : Nat → wW) (q : gP) (v : vW) : Prop := clR w0 (RK G E pv β (baseM E pv β q)) v ∧ upR w0 16 (RK G E pv β (baseM E pv β q)) v
theorem upR_base {G : List gP} {E : Int32} {pv : vW} {β : Nat → wW} {b : vW} : upR w0 16 (RK G E pv β b) b := fun w hw s hs => hw s (fun _ => b s) (Or.inl ⟨hs, rfl⟩)
theorem c_findMarked (hc : RC codes count G) (hG : okG G) {m : Nat} (hm : m < G.length) {c : Nat → Int32} {h l : Nat → Int64} {ω bv : vW} (R : WS w0 362 c h l ω) (hE : Env G E pv ω) (hT : ∀ p, p < G.length → STL G E pv tk ω bv p) {N : Nat} (hN : 2000 < N) : ∃ (o : wsT) (ω' v : vW), fX0_findMarked N codes count c h l (nI m) = some o ∧ WS w0 362 o.1 o.2.1 o.2.2 ω' ∧ FrM ω ω' ∧ MK ω' v ∧ MarkOK G E pv (bS tk bv) (gp G m) v := by
  have hl := hG.1
  have hq := okG_gp hG hm
  have h8 := hq.1
  obtain ⟨ms, hm16, hms⟩ := sweep_K (b := baseM E pv (bS tk bv) (gp G m)) (E := E) (pv := pv) (β := bS tk bv) hG
  obtain ⟨o1, ω1, e1, R1, F1, F1'⟩ := c_forgetKind R (b := 36) (by omega) (show 30 < N by omega)
  obtain ⟨o2, ω2, e2, R2, F2, F2'⟩ := c_forgetKind R1 (b := 54) (by omega) (show 30 < N by omega)
  have z36 : (nI 36 : Int32) = 36 := rfl
  have z54 : (nI 54 : Int32) = 54 := rfl
  rw [z36] at e1
  rw [z54] at e2
  have Fr2 : FrM ω ω2 := fun x hx => by rw [F2' x (by omega), F1' x (by omega)]
  have M2 : MK ω2 (fun _ => wNo) := fun s hs => by
    have h18 := okS_lt hs
    unfold mS
    rw [ite_self]
    exact ⟨F2 _ (by omega) (by omega), by rw [F2' _ (by omega)]; exact F1 _ (by omega) (by omega)⟩
  have e3 := w_isEmpty w0_9 R2 (n := 362) rfl (show 74 + m * 6 + 0 < 362 by omega)
  have vE : ω2 (74 + m * 6 + 0) = clv pv (gp G m).2 := by
    rw [Fr2 _ (by omega), hE.2.1 m hm 0 (Nat.zero_le _), List.drop_zero]
  rw [vE, clv_em_iff (E := E) _ (fun s hs => hE.2.2 s (hq.2.2 s hs))] at e3
  have ept : fX0_plainTail (nI m) 0 = some (nI (74 + m * 6 + 0)) := c_plainTail m 0
  have est : fX0_startingTail (nI m) 0 = some (nI (218 + m * 6 + 0)) := c_startingTail m 0
  simp only [fX0_findMarked, e1, bd3, obs, e2, ept, e3, jn3]
  have e54 : (54 : Int32) + nI (10 + (gp G m).1) = nI (54 + (10 + (gp G m).1)) := nI_add 54 _
  have e36 : (36 : Int32) + nI (10 + (gp G m).1) = nI (36 + (10 + (gp G m).1)) := nI_add 36 _
  have main : ∀ (o : wsT) (ω3 u : vW), WS w0 362 o.1 o.2.1 o.2.2 ω3 → FrM ω ω3 → MK ω3 u → updW u (gp G m).1 (stl E pv (bS tk bv) (gp G m).2) = baseM E pv (bS tk bv) (gp G m) → ∃ (o' : wsT) (ω' v : vW), ((fX0_leftSymbol codes (nI m)).bind fun x12 => (fX0_startingTail (nI m) 0).bind fun x13 => (fX10_putCopy 362 o.1 o.2.1 o.2.2 (54 + x12) x13).bind fun o => itr5 (bX0_findMarked_66 N codes count fun v17 v18 v19 => some (v17, v18, v19)) N 1 0 o.1 o.2.1 o.2.2) = some o' ∧ WS w0 362 o'.1 o'.2.1 o'.2.2 ω' ∧ FrM ω ω' ∧ MK ω' v ∧ MarkOK G E pv (bS tk bv) (gp G m) v := by
    intro o ω3 u R3 F3 M3 hu
    obtain ⟨o4, e4, R4⟩ := w_putCopy R3 (n := 362) rfl (show 54 + (10 + (gp G m).1) < 362 by omega) (show 218 + m * 6 + 0 < 362 by omega)
    have vS : ω3 (218 + m * 6 + 0) = stl E pv (bS tk bv) (gp G m).2 := by
      rw [F3 _ (by omega), hT m hm 0 (Nat.zero_le _), List.drop_zero]
    rw [vS] at R4
    have M4 := MK_upd M3 h8 (stl E pv (bS tk bv) (gp G m).2)
    rw [hu] at M4
    have F4 : FrM ω _ := FrM_upd F3 (show 36 ≤ 54 + (10 + (gp G m).1) by omega) (by omega) (stl E pv (bS tk bv) (gp G m).2)
    simp only [c_leftSymbol hc hG hm, obs, est, e54, e4]
    have hr := rounds5 (B := bX0_findMarked_66 N codes count fun v7 v8 v9 => some (v7, v8, v9)) (k := fun v7 v8 v9 => some (v7, v8, v9)) (fun (v : vW) c h l => leV w0 16 v (baseM E pv (bS tk bv) (gp G m)) ∧ upR w0 16 (RK G E pv (bS tk bv) (baseM E pv (bS tk bv) (gp G m))) v ∧ ∃ ω', WS w0 362 c h l ω' ∧ FrM ω ω' ∧ MK ω' v) (fun v c h l => ∃ ω', WS w0 362 c h l ω' ∧ FrM ω ω' ∧ MK ω' v ∧ MarkOK G E pv (bS tk bv) (gp G m) v) ms ?_ ?_ N (baseM E pv (bS tk bv) (gp G m)) o4.1 o4.2.1 o4.2.2 ⟨leV_rfl _, upR_base, _, R4, F4, M4⟩ (by have := hm16 (baseM E pv (bS tk bv) (gp G m)); omega) hN
    · obtain ⟨v, c', h', l', ⟨ω', q1, q2, q3, q4⟩, e⟩ := hr
      exact ⟨(c', h', l'), ω', v, e, q1, q2, q3, q4⟩
    · intro rc j c h l hj
      simp only [bX0_findMarked_66]
      rw [if_neg (nleL 1000 1000 hj), if_true]
    · rintro j v c h l hj ⟨hle, hup, ω5, R5, F5, M5⟩
      obtain ⟨u0, u1, u2, u3⟩ := hms v hle hup
      obtain ⟨o6, ω6, e6, R6, F6, M6⟩ := c_markSweep hc hG R5 (Env_fr hG hE (FrM_P F5)) (STL_fr hT F5) M5 (show 30 < N by omega)
      have hbody : ∀ rc, bX0_findMarked_66 N codes count (fun v7 v8 v9 => some (v7, v8, v9)) rc 1 (nI j) c h l = itr5 (bX0_findMarked_82 N codes count fun v17 v18 v19 v20 => rc v17 (nI (j + 1)) v18 v19 v20) N 0 0 c h l := by
        intro rc
        simp only [bX0_findMarked_66]
        rw [if_neg (nleL 1000 1000 hj), if_neg (by decide)]
        simp only [jn4, lt_, nI_1]
      have Fr : FrM ω ω6 := fun x hx => by rw [F6 x hx, F5 x hx]
      refine ⟨_, _, o6.1, o6.2.1, o6.2.2, fun rc => by rw [hbody, e6], fun hch => ⟨⟨u0, u1, ω6, R6, Fr, M6⟩, u2 hch⟩, fun hch => ?_⟩
      obtain ⟨x1, x2⟩ := u3 hch
      exact ⟨ω6, R6, Fr, M6, by rw [x1]; exact x2, u1⟩
  cases hvan : van E (gp G m).2 with
  | false =>
    rw [if_pos (by rfl)]
    refine main o2 ω2 _ R2 Fr2 M2 ?_
    unfold baseM
    rw [if_neg (by rw [hvan]; decide), updW_same]
  | true =>
    rw [if_neg (by decide)]
    obtain ⟨o3, e3', R3⟩ := w_putEmpty R2 (n := 362) rfl (show 36 + (10 + (gp G m).1) < 362 by omega)
    have q := main o3 _ (updW (fun _ => wNo) (8 + (gp G m).1) wEm) R3 (FrM_upd Fr2 (by omega) (by omega) _) (MK_updE M2 h8 _) (by unfold baseM; rw [if_pos hvan])
    simp only [c_leftSymbol hc hG hm, obs, e36, e3'] at q ⊢
    exact q
end CM3
/-- what the class keeps of words between calls -/
def ExM (G : List gP) (E : Int32) (pv : vW) (ω : vW) (m tk : Nat) (v bv : vW) : Prop := MK ω v ∧ BegOK G E pv tk bv ∧ MarkOK G E pv (bS tk bv) (gp G m) v
def ExI (G : List gP) (E : Int32) (c : Nat → Int32) (h l : Nat → Int64) (pk key : Int32) : Prop := (pk = 0 ∧ key = -1 ∧ ∃ ω, WS w0 362 c h l ω) ∨ (pk = 1 ∧ ∃ ω pv, ExP G c h l ω pv ∧ (key = -1 ∨ ∃ m tk bv v, m < G.length ∧ tk ≤ 8 ∧ key = nI (m * 9 + tk) ∧ ExM G E pv ω m tk v bv))
theorem Env_of {G : List gP} (hG : okG G) {E : Int32} (hE : clE G E) (hE2 : ∀ E', clE G E' → sb E E') {c : Nat → Int32} {h l : Nat → Int64} {ω pv : vW} (hx : ExP G c h l ω pv) : Env G E pv ω := ⟨fun s hs => PL_sym hx.2.1 hs, hx.2.2.1, fun s hs => plain_empty hG hE hE2 hx.2.2.2 hs⟩
theorem c_plainKnown {codes : Nat → Int32} {count : Int32} {G : List gP} (hc : RC codes count G) (hG : okG G) {E : Int32} {c : Nat → Int32} {h l : Nat → Int64} {pk key : Int32} (hx : ExI G E c h l pk key) {N : Nat} (hN : 2000 < N) : ∃ (o : wsT) (ω pv : vW), fX0_findPlain N codes count c h l pk = some (o.1, o.2.1, o.2.2, 1) ∧ ExP G o.1 o.2.1 o.2.2 ω pv ∧ ExI G E o.1 o.2.1 o.2.2 1 key := by
  rcases hx with ⟨rfl, rfl, ω, R⟩ | ⟨rfl, ω, pv, h1, h2⟩
  · obtain ⟨o, ω', v, e, hE⟩ := c_findPlain hc hG R hN
    exact ⟨o, ω', v, e, hE, Or.inr ⟨rfl, ω', v, hE, Or.inl rfl⟩⟩
  · refine ⟨(c, h, l), ω, pv, ?_, h1, Or.inr ⟨rfl, ω, pv, h1, h2⟩⟩
    simp only [fX0_findPlain]
    rw [if_neg (by decide)]
theorem c_exampleWord {codes : Nat → Int32} {count : Int32} {G : List gP} (hc : RC codes count G) (hG : okG G) {E : Int32} (hE : clE G E) (hE2 : ∀ E', clE G E' → sb E E') {c : Nat → Int32} {h l : Nat → Int64} {pk key : Int32} (hx : ExI G E c h l pk key) {m tk : Nat} (hm : m < G.length) (htk : tk ≤ 8) {N : Nat} (hN : 2000 < N) : ∃ (o : wsT) (ω pv bv v : vW), fX0_exampleWord N codes count c h l pk key (nI m) (nI tk) = some (nI ((if tk = 8 then 36 else 54) + 10), o.1, o.2.1, o.2.2, 1, nI (m * 9 + tk)) ∧ ExP G o.1 o.2.1 o.2.2 ω pv ∧ ExM G E pv ω m tk v bv ∧ ExI G E o.1 o.2.1 o.2.2 1 (nI (m * 9 + tk)) := by
  have hl := hG.1
  have e9 : nI m * (9 : Int32) = nI (m * 9) := pk_mul m 9
  have hres : ∀ (o : wsT), (if nI tk = 8 then some ((36 : Int32) + 10 + 0, o.1, o.2.1, o.2.2, (1 : Int32), nI (m * 9 + tk)) else some ((54 : Int32) + 10 + 0, o.1, o.2.1, o.2.2, (1 : Int32), nI (m * 9 + tk))) = some (nI ((if tk = 8 then 36 else 54) + 10), o.1, o.2.1, o.2.2, 1, nI (m * 9 + tk)) := by
    intro o
    by_cases e : tk = 8
    · rw [if_pos (by rw [e]; rfl), if_pos e]; rfl
    · rw [if_neg (neL 8 8 e (by omega)), if_neg e]; rfl
  simp only [fX0_exampleWord, e9, nI_add, lt_, hc.1, c_has _ (show G.length < 2 ^ 31 by omega), obs, jn5, jn_]
  rw [inI_nI hm (by omega), if_neg (by decide)]
  by_cases hk : nI (m * 9 + tk) = key
  · rw [if_pos hk]
    rcases hx with ⟨_, rfl, _⟩ | ⟨rfl, ω, pv, h1, h2 | ⟨m', tk', bv, v, a1, a2, a3, a4⟩⟩
    · exact absurd (congrArg Int32.toInt hk) (by rw [nI_toInt (by omega)]; have : ((-1 : Int32)).toInt = -1 := by decide
                                                 omega)
    · rw [h2] at hk
      exact absurd (congrArg Int32.toInt hk) (by rw [nI_toInt (by omega)]; have : ((-1 : Int32)).toInt = -1 := by decide
                                                 omega)
    · have hk2 := hk
      rw [a3, nI_eq (by omega) (by omega)] at hk2
      have em : m = m' := by omega
      have et : tk = tk' := by omega
      subst em et
      rw [← hk]
      exact ⟨(c, h, l), ω, pv, bv, v, hres (c, h, l), h1, a4, Or.inr ⟨rfl, ω, pv, h1, Or.inr ⟨m, tk, bv, v, hm, htk, rfl, a4⟩⟩⟩
  · rw [if_neg hk]
    obtain ⟨o1, ω1, pv, e1, hP, _⟩ := c_plainKnown hc hG hx hN
    have hEnv := Env_of hG hE hE2 hP
    obtain ⟨o2, ω2, bv, e2, R2, F2, T2, B2⟩ := c_findStarting hc hG htk hP.1 hEnv hN
    have hEnv2 := Env_fr hG hEnv F2
    obtain ⟨o3, ω3, v, e3, R3, F3, M3, K3⟩ := c_findMarked hc hG hm R2 hEnv2 T2 hN
    have F : FrP ω1 ω3 := fun x hx => by rw [FrM_P F3 x hx, F2 x hx]
    have hP3 : ExP G o3.1 o3.2.1 o3.2.2 ω3 pv := by
      refine ⟨R3, ⟨fun t ht => by rw [F t (Or.inl (by omega))]; exact hP.2.1.1 t ht, fun n hn => by rw [F _ (Or.inl (by omega))]; exact hP.2.1.2 n hn⟩, (Env_fr hG hEnv F).2.1, hP.2.2.2⟩
    refine ⟨o3, ω3, pv, bv, v, ?_, hP3, ⟨M3, B2, K3⟩, Or.inr ⟨rfl, ω3, pv, hP3, Or.inr ⟨m, tk, bv, v, hm, htk, rfl, M3, B2, K3⟩⟩⟩
    rw [hc.1] at e1 e2 e3
    rw [e1]
    simp only [bd4, obs, e2, bd3, e3]
    exact hres o3
