/-! WORDS THAT START WITH A TOKEN: the rules, the class's way to them -/
def bS (tk : Nat) (v : vW) (s : Nat) : wW := if s < 10 then (if s = tk then wT s else wNo) else v (s - 10)
def stl (E : Int32) (pv : vW) (β : Nat → wW) : List Nat → wW
  | [] => wNo
  | s :: r => if nb E s = true then minW w0 (catW (β s) (clv pv r)) (stl E pv β r) else catW (β s) (clv pv r)
def bev (pv : vW) (w : List Nat) (i : Nat) (β : Nat → wW) : wW := catW (β (sy w i)) (clv pv (w.drop (i + 1)))
theorem van_cons (E : Int32) (s : Nat) (r : List Nat) : van E (s :: r) = (nb E s && van E r) := by simp [van]
theorem stl_le {E : Int32} {pv : vW} {β : Nat → wW} : ∀ (w : List Nat) (i : Nat), i < w.length → van E (w.take i) = true → ky w0 (stl E pv β w) ≤ ky w0 (bev pv w i β)
  | [], i, h, _ => absurd h (Nat.not_lt_zero _)
  | s :: r, 0, _, _ => by
    have e : bev pv (s :: r) 0 β = catW (β s) (clv pv r) := rfl
    rw [e]
    simp only [stl]
    by_cases hb : nb E s = true
    · rw [if_pos hb]; exact minW_le_l _ _ _
    · rw [if_neg hb]; exact Nat.le_refl _
  | s :: r, i + 1, h, hv => by
    rw [List.take_succ_cons, van_cons, Bool.and_eq_true] at hv
    have ih := stl_le (E := E) (pv := pv) (β := β) r i (by simpa using h) hv.2
    have e : bev pv (s :: r) (i + 1) β = bev pv r i β := rfl
    rw [e]
    simp only [stl]
    rw [if_pos hv.1]
    exact Nat.le_trans (minW_le_r _ _ _) ih
/-- lowering by the least of the tails is lowering by each of them -/
theorem stl_steps {E : Int32} {pv : vW} {β : Nat → wW} {sl : Nat} {A : wW} (Q : vW → Prop) : ∀ (w : List Nat) (_ : ∀ u i, Q u → i < w.length → van E (w.take i) = true → Q (updW u sl (minW w0 (u sl) (catW A (bev pv w i β))))) (u : vW), Q u → Q (updW u sl (minW w0 (u sl) (catW A (stl E pv β w))))
  | [], _, u, hu => by
    simp only [stl]
    rw [catW_no_r, minW_no_r w0_9, updW_same]; exact hu
  | s :: r, h, u, hu => by
    have h0 : Q (updW u sl (minW w0 (u sl) (catW A (catW (β s) (clv pv r))))) := h u 0 hu (by simp) rfl
    simp only [stl]
    by_cases hb : nb E s = true
    · rw [if_pos hb, minW_cat_l w0_9, ← minW_assoc w0_9]
      have ih := stl_steps Q r (fun u i hu hi hv => h u (i + 1) hu (by simpa using hi) (by rw [List.take_succ_cons, van_cons, hb, hv]; rfl)) _ h0
      have e : ∀ (a c : wW), updW (updW u sl a) sl (minW w0 (updW u sl a sl) c) = updW u sl (minW w0 a c) := by
        intro a c
        rw [updW_s]
        funext i
        by_cases e : i = sl
        · subst e; rw [updW_s, updW_s]
        · rw [updW_n e, updW_n e, updW_n e]
      rw [e] at ih
      exact ih
    · rw [if_neg hb]; exact h0
theorem good_low {wt : Nat → Nat} {n : Nat} {R : RuleS} {s : Nat} {x : vW → wW} (hs : s < n) (hr : ∀ v, Reach wt R v (updW v s (minW wt (v s) (x v)))) : Good wt n R (fun v => updW v s (minW wt (v s) (x v))) (fun v => decide (ky wt (x v) < ky wt (v s))) := by
  refine ⟨hr, fun v hd => ⟨s, hs, ?_⟩, fun v hd => ?_⟩
  · have hd := of_decide_eq_true hd
    show ky wt (updW v s (minW wt (v s) (x v)) s) < _
    rw [updW_s, minW_eq_lt hd]; exact hd
  · have hd := of_decide_eq_false hd
    show updW v s (minW wt (v s) (x v)) = v
    rw [minW_eq_ge hd, updW_same]
def RB (G : List gP) (E : Int32) (pv : vW) (tk : Nat) : RuleS := fun s ev => ∃ p i, p < G.length ∧ i < (gp G p).2.length ∧ van E ((gp G p).2.take i) = true ∧ s = (gp G p).1 ∧ ev = fun v => bev pv (gp G p).2 i (bS tk v)
theorem nice_bS {s : Nat} (tk : Nat) (hs : s < 18) : Nice w0 8 (fun v => bS tk v s) := by
  by_cases h : s < 10
  · have : (fun v => bS tk v s) = fun _ => if s = tk then wT s else wNo := by funext v; unfold bS; rw [if_pos h]
    rw [this]; exact nice_const _ _ _
  · have : (fun v => bS tk v s) = fun v : vW => v (s - 10) := by funext v; unfold bS; rw [if_neg h]
    rw [this]; exact nice_slot _ (by omega)
theorem okR_RB {G : List gP} (hG : okG G) (E : Int32) (pv : vW) (tk : Nat) : okR w0 8 (RB G E pv tk) := by
  rintro s ev ⟨p, i, hp, hi, hv, rfl, rfl⟩
  have hq := okG_gp hG hp
  exact ⟨hq.1, nice_cat w0_9 (nice_bS tk (okS_lt (okP_sy hq hi))) (nice_const _ _ _)⟩
def fB (G : List gP) (E : Int32) (pv : vW) (tk : Nat) (p : Nat) (v : vW) : vW := updW v (gp G p).1 (minW w0 (v (gp G p).1) (stl E pv (bS tk v) (gp G p).2))
def dB (G : List gP) (E : Int32) (pv : vW) (tk : Nat) (p : Nat) (v : vW) : Bool := decide (ky w0 (stl E pv (bS tk v) (gp G p).2) < ky w0 (v (gp G p).1))
theorem sweep_B {G : List gP} (hG : okG G) (E : Int32) (pv : vW) (tk : Nat) : ∃ m : vW → Nat, (∀ v, m v ≤ 8) ∧ ∀ v, upR w0 8 (RB G E pv tk) v → upR w0 8 (RB G E pv tk) (foldN (fB G E pv tk) G.length v) ∧ (chN (dB G E pv tk) (fB G E pv tk) G.length v = true → m (foldN (fB G E pv tk) G.length v) < m v) ∧ (chN (dB G E pv tk) (fB G E pv tk) G.length v = false → foldN (fB G E pv tk) G.length v = v ∧ clR w0 (RB G E pv tk) v) := by
  have hR := okR_RB hG E pv tk
  have hg : ∀ p, p < G.length → Good w0 8 (RB G E pv tk) (fB G E pv tk p) (dB G E pv tk p) := by
    intro p hp
    refine good_low (x := fun v => stl E pv (bS tk v) (gp G p).2) (okG_gp hG hp).1 fun v Q hQ hv => ?_
    have := stl_steps (E := E) (pv := pv) (β := bS tk v) (sl := (gp G p).1) (A := wEm) Q (gp G p).2 (fun u i hu hi hvan => by
      rw [catW_em_l]
      exact hQ u v (gp G p).1 (fun v => bev pv (gp G p).2 i (bS tk v)) ⟨p, i, hp, hi, hvan, rfl, rfl⟩ hu hv) v hv
    rw [catW_em_l] at this
    exact this
  obtain ⟨m, h1, h2⟩ := least_sweep w0_9 hR (upR_no w0_9) (good_fold G.length hg) (by
    rintro s ev ⟨p, i, hp, hi, hvan, rfl, rfl⟩ v hv
    refine cov_fold hR G.length hg p hp _ _ ⟨p, i, hp, hi, hvan, rfl, rfl⟩ (fun v _ => ?_) v hv
    unfold fB
    rw [updW_s]; exact Nat.le_trans (minW_le_r _ _ _) (stl_le _ i hi hvan))
  exact ⟨m, h1, fun v hv => (h2 v (leV_no w0_9 v) hv).2⟩
theorem c_startingTail (p i : Nat) : fX0_startingTail (nI p) (nI i) = some (nI (218 + p * 6 + i)) := by
  unfold fX0_startingTail
  have e1 : nI p * (6 : Int32) = nI (p * 6) := pk_mul p 6
  have e2 : (218 : Int32) + nI (p * 6) = nI (218 + p * 6) := nI_add 218 _
  rw [e1, e2, nI_add]
/-- the plain words and tails stand -/
def Env (G : List gP) (E : Int32) (pv ω : vW) : Prop := (∀ s, okS s → ω s = pwS pv s) ∧ (∀ p, p < G.length → TL G ω pv p) ∧ ∀ s, okS s → decide ((pwS pv s).1 = some []) = nb E s
def FrP (ω ω' : vW) : Prop := ∀ x, (x < 18 ∨ (74 ≤ x ∧ x < 218)) → ω' x = ω x
theorem Env_fr {G : List gP} (hG : okG G) {E : Int32} {pv ω ω' : vW} (h : Env G E pv ω) (hf : FrP ω ω') : Env G E pv ω' := by
  refine ⟨fun s hs => ?_, fun p hp i hi => ?_, h.2.2⟩
  · have := okS_lt hs
    rw [hf s (Or.inl this)]; exact h.1 s hs
  · have h5 := (okG_gp hG hp).2.1
    have hl := hG.1
    rw [hf _ (Or.inr ⟨by omega, by omega⟩)]; exact h.2.1 p hp i hi
def STL (G : List gP) (E : Int32) (pv : vW) (tk : Nat) (ω v : vW) (p : Nat) : Prop := ∀ i, i ≤ (gp G p).2.length → ω (218 + p * 6 + i) = stl E pv (bS tk v) ((gp G p).2.drop i)
theorem c_putStartingTails {codes : Nat → Int32} {count : Int32} {G : List gP} (hc : RC codes count G) (hG : okG G) {p : Nat} (hp : p < G.length) {E : Int32} {pv : vW} {tk : Nat} {c : Nat → Int32} {h l : Nat → Int64} {ω v : vW} (R : WS w0 362 c h l ω) (hE : Env G E pv ω) (hB : ∀ s, okS s → ω (18 + s) = bS tk v s) {N : Nat} (hN : 30 < N) : ∃ (o : wsT) (ω' : vW), fX0_putStartingTails N codes c h l (nI p) = some o ∧ WS w0 362 o.1 o.2.1 o.2.2 ω' ∧ STL G E pv tk ω' v p ∧ ∀ x, (x < 218 + p * 6 ∨ 224 + p * 6 ≤ x) → ω' x = ω x := by
  have hl := hG.1
  have hq := okG_gp hG hp
  have h5 := hq.2.1
  have cd := hc.2 p hp
  have hTL := hE.2.1 p hp
  have TLe : STL G E pv tk = fun ω v p => ∀ i, i ≤ (gp G p).2.length → ω (218 + p * 6 + i) = stl E pv (bS tk v) ((gp G p).2.drop i) := rfl
  have TLe2 : TL G = fun ω v p => ∀ i, i ≤ (gp G p).2.length → ω (74 + p * 6 + i) = clv v ((gp G p).2.drop i) := rfl
  rw [TLe]
  rw [TLe2] at hTL
  simp only [fX0_putStartingTails, ag_ok (show p < 24 by omega), obs, cd, c_lengthOf hq, c_startingTail, lt_, jn3]
  generalize gp G p = q at *
  obtain ⟨o1, e1, R1⟩ := w_putNone R (n := 362) rfl (show 218 + p * 6 + q.2.length < 362 by omega)
  simp only [e1, bd3, obs]
  have main := vlp4 (B := bX0_putStartingTails_32 (nI p) (nI (enc q)) fun v8 v9 v10 => some (v8, v9, v10)) (fun j i c h l => i = nI (q.2.length - j) - 1 ∧ j ≤ q.2.length ∧ ∃ ω', WS w0 362 c h l ω' ∧ (∀ i, q.2.length - j ≤ i → i ≤ q.2.length → ω' (218 + p * 6 + i) = stl E pv (bS tk v) (q.2.drop i)) ∧ ∀ x, (x < 218 + p * 6 ∨ 224 + p * 6 ≤ x) → ω' x = ω x)
    (fun r => ∃ (o : wsT) (ω' : vW), r = some o ∧ WS w0 362 o.1 o.2.1 o.2.2 ω' ∧ (∀ i, i ≤ q.2.length → ω' (218 + p * 6 + i) = stl E pv (bS tk v) (q.2.drop i)) ∧ ∀ x, (x < 218 + p * 6 ∨ 224 + p * 6 ≤ x) → ω' x = ω x) q.2.length ?_ ?_ N (nI q.2.length - 1) o1.1 o1.2.1 o1.2.2 (by omega) ⟨rfl, Nat.zero_le _, updW ω (218 + p * 6 + q.2.length) wNo, R1, ?_, ?_⟩
  · exact main
  · rintro j i c h l hj ⟨rfl, _, ω', R', ht, hf⟩
    left
    have hi : q.2.length - j - 1 < q.2.length := by omega
    have e2 : nI (q.2.length - j) - 1 = nI (q.2.length - j - 1) := nI_sub1 (by omega)
    have e3 : q.2.length - (j + 1) = q.2.length - j - 1 := by omega
    have e4 : q.2.length - j = q.2.length - j - 1 + 1 := by omega
    rw [e2, e3]
    rw [e4] at ht
    generalize hix : q.2.length - j - 1 = x at *
    have hs := okP_sy hq hi
    have hs18 := okS_lt hs
    obtain ⟨o2, f2, R2⟩ := w_putCopy R' (n := 362) rfl (show 218 + p * 6 + x < 362 by omega) (show 18 + sy q.2 x < 362 by omega)
    obtain ⟨o3, f3, R3⟩ := w_append w0_9 R2 (n := 362) rfl (show 218 + p * 6 + x < 362 by omega) (show 74 + p * 6 + (x + 1) < 362 by omega)
    have f4 := w_isEmpty w0_9 R3 (n := 362) rfl (show sy q.2 x < 362 by omega)
    obtain ⟨o5, f5, R5⟩ := w_lower w0_9 R3 (n := 362) rfl (show 218 + p * 6 + x < 362 by omega) (show 218 + p * 6 + (x + 1) < 362 by omega)
    have v1 : updW ω' (218 + p * 6 + x) (ω' (18 + sy q.2 x)) (218 + p * 6 + x) = bS tk v (sy q.2 x) := by rw [updW_s, hf (18 + sy q.2 x) (by omega), hB _ hs]
    have v2 : updW ω' (218 + p * 6 + x) (ω' (18 + sy q.2 x)) (74 + p * 6 + (x + 1)) = clv pv (q.2.drop (x + 1)) := by rw [updW_n (by omega), hf _ (by omega), hTL (x + 1) (by omega)]
    rw [v1, v2] at R3 R5 f5 f4
    generalize hω3 : updW (updW ω' (218 + p * 6 + x) (ω' (18 + sy q.2 x))) (218 + p * 6 + x) (catW (bS tk v (sy q.2 x)) (clv pv (q.2.drop (x + 1)))) = ω3 at *
    have w1 : ω3 (218 + p * 6 + x) = catW (bS tk v (sy q.2 x)) (clv pv (q.2.drop (x + 1))) := by rw [← hω3, updW_s]
    have w2 : ∀ y, y ≠ 218 + p * 6 + x → ω3 y = ω' y := fun y hy => by rw [← hω3, updW_n hy, updW_n hy]
    have w3 : ω3 (sy q.2 x) = pwS pv (sy q.2 x) := by rw [w2 _ (by omega), hf _ (by omega), hE.1 _ hs]
    have w4 : ω3 (218 + p * 6 + (x + 1)) = stl E pv (bS tk v) (q.2.drop (x + 1)) := by rw [w2 _ (by omega), ht _ (by omega) (by omega)]
    rw [w3, hE.2.2 _ hs] at f4
    rw [w1, w4] at R5
    have hd : stl E pv (bS tk v) (q.2.drop x) = if nb E (sy q.2 x) = true then minW w0 (catW (bS tk v (sy q.2 x)) (clv pv (q.2.drop (x + 1)))) (stl E pv (bS tk v) (q.2.drop (x + 1))) else catW (bS tk v (sy q.2 x)) (clv pv (q.2.drop (x + 1))) := by rw [drop_cons hi]; rfl
    have hbody : ∀ rc, bX0_putStartingTails_32 (nI p) (nI (enc q)) (fun v8 v9 v10 => some (v8, v9, v10)) rc (nI x) c h l = if nb E (sy q.2 x) = true then rc (nI x - 1) o5.1 o5.2.1 o5.2.2 else rc (nI x - 1) o3.1 o3.2.1 o3.2.2 := by
      intro rc
      have e18 : (18 : Int32) + nI (sy q.2 x) = nI (18 + sy q.2 x) := nI_add 18 _
      simp only [bX0_putStartingTails_32]
      rw [if_neg (nI_pos (by omega))]
      simp only [c_plainTail, c_startingTail, obs, c_symbolOf hq hi, zI, e18, f2, bd3, nI_1, f3, lt_, f4, jn3, f5, bd4]
      rw [nIm1]
      cases nb E (sy q.2 x) <;> rfl
    cases hb : nb E (sy q.2 x) with
    | true =>
      rw [hb, if_pos rfl] at hd
      refine ⟨nI x - 1, o5.1, o5.2.1, o5.2.2, ⟨rfl, by omega, _, R5, ?_, ?_⟩, fun rc => by rw [hbody, hb, if_pos rfl]⟩
      · intro i h1 h2
        by_cases e : i = x
        · subst e
          rw [updW_s, hd]
        · rw [updW_n (by omega), w2 _ (by omega)]
          exact ht i (by omega) h2
      · intro y hy
        rw [updW_n (by omega), w2 _ (by omega)]
        exact hf y hy
    | false =>
      rw [hb, if_neg (by decide)] at hd
      refine ⟨nI x - 1, o3.1, o3.2.1, o3.2.2, ⟨rfl, by omega, _, R3, ?_, ?_⟩, fun rc => by rw [hbody, hb, if_neg (by decide)]⟩
      · intro i h1 h2
        by_cases e : i = x
        · subst e
          rw [w1, hd]
        · rw [w2 _ (by omega)]
          exact ht i (by omega) h2
      · intro y hy
        rw [w2 _ (by omega)]
        exact hf y hy
  · rintro i c h l ⟨rfl, _, ω', R', ht, hf⟩
    refine ⟨_, ⟨(c, h, l), ω', rfl, R', fun i hi => ht i (by omega) hi, hf⟩, fun rc => ?_⟩
    simp only [bX0_putStartingTails_32]
    rw [Nat.sub_self, if_pos (by decide)]
  · intro i h1 h2
    have : i = q.2.length := by omega
    subst this
    rw [updW_s, List.drop_length]; rfl
  · intro x hx
    rw [updW_n (by omega)]
