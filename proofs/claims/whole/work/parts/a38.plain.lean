/-! SWEEPS over a system of rules -/
theorem fl_or {ρ : Type} (a b : Bool) (F : Int32 → Option ρ) : (if b01 a = 0 then (if b01 b = 0 then F 0 else F 1) else F 1) = F (b01 (b || a)) := by
  cases a <;> cases b <;> simp [b01]
/-! THE SHORTEST WORDS: the rules, and the class's way to them -/
def w0 : Nat → Nat := fun _ => 0
theorem w0_9 : wt9 w0 := fun _ _ => Nat.zero_le _
def pwS (v : vW) (s : Nat) : wW := if s < 10 then wT s else v (s - 10)
def clv (v : vW) : List Nat → wW
  | [] => wEm
  | s :: r => catW (pwS v s) (clv v r)
def RP (G : List gP) : RuleS := fun s ev => ∃ p, p < G.length ∧ s = (gp G p).1 ∧ ev = fun v => clv v (gp G p).2
theorem nice_pwS {wt : Nat → Nat} {s : Nat} (hs : s < 18) : Nice wt 8 (fun v => pwS v s) := by
  by_cases h : s < 10
  · have : (fun v => pwS v s) = fun _ => wT s := by funext v; unfold pwS; rw [if_pos h]
    rw [this]; exact nice_const _ _ _
  · have : (fun v => pwS v s) = fun v : vW => v (s - 10) := by funext v; unfold pwS; rw [if_neg h]
    rw [this]; exact nice_slot _ (by omega)
theorem nice_clv {wt : Nat → Nat} (hw : wt9 wt) : ∀ (w : List Nat), (∀ s ∈ w, s < 18) → Nice wt 8 (fun v => clv v w)
  | [], _ => nice_const _ _ _
  | s :: r, h => nice_cat hw (nice_pwS (h s List.mem_cons_self)) (nice_clv hw r (fun x hx => h x (List.mem_cons_of_mem _ hx)))
theorem okR_RP {G : List gP} (hG : okG G) : okR w0 8 (RP G) := by
  rintro s ev ⟨p, hp, rfl, rfl⟩
  have hq := okG_gp hG hp
  exact ⟨hq.1, nice_clv w0_9 _ (okP18 hq)⟩
def fP (G : List gP) (p : Nat) (v : vW) : vW := updW v (gp G p).1 (minW w0 (v (gp G p).1) (clv v (gp G p).2))
def dP (G : List gP) (p : Nat) (v : vW) : Bool := decide (ky w0 (clv v (gp G p).2) < ky w0 (v (gp G p).1))
theorem minW_no_lt {wt : Nat → Nat} {a b : wW} (h : ¬ ky wt b < ky wt a) : minW wt a b = a := by unfold minW; rw [if_neg h]
theorem minW_lt {wt : Nat → Nat} {a b : wW} (h : ky wt b < ky wt a) : minW wt a b = b := by unfold minW; rw [if_pos h]
theorem fP_same {G : List gP} {p : Nat} {v : vW} (h : ¬ ky w0 (clv v (gp G p).2) < ky w0 (v (gp G p).1)) : fP G p v = v := by
  unfold fP
  rw [minW_no_lt h, updW_same]
theorem chN_same {V : Type} {d : Nat → V → Bool} {f : Nat → V → V} {v : V} (he : ∀ p v, d p v = false → f p v = v) : ∀ k, chN d f k v = false → ∀ j, j ≤ k → foldN f j v = v
  | 0, _, j, hj => by
    have : j = 0 := by omega
    subst this; rfl
  | k + 1, h, j, hj => by
    simp only [chN, Bool.or_eq_false_iff] at h
    by_cases e : j = k + 1
    · subst e
      show f k (foldN f k v) = v
      rw [he _ _ h.2]
      exact chN_same he k h.1 k (Nat.le_refl _)
    · exact chN_same he k h.1 j (by omega)
theorem sweep_P {G : List gP} (hG : okG G) : ∃ m : vW → Nat, (∀ v, m v ≤ 8) ∧ ∀ v, upR w0 8 (RP G) v → upR w0 8 (RP G) (foldN (fP G) G.length v) ∧ (chN (dP G) (fP G) G.length v = true → m (foldN (fP G) G.length v) < m v) ∧ (chN (dP G) (fP G) G.length v = false → foldN (fP G) G.length v = v ∧ clR w0 (RP G) v) := by
  have hR := okR_RP hG
  have hg : ∀ p, p < G.length → Good w0 8 (RP G) (fP G p) (dP G p) := fun p hp => good_lower hR (ev := fun v => clv v (gp G p).2) ⟨p, hp, rfl, rfl⟩
  obtain ⟨m, h1, h2⟩ := least_sweep w0_9 hR (upR_no w0_9) (good_fold G.length hg) (by
    rintro s ev ⟨p, hp, rfl, rfl⟩ v hv
    refine cov_fold hR G.length hg p hp _ _ ⟨p, hp, rfl, rfl⟩ (fun v _ => ?_) v hv
    unfold fP
    rw [updW_s]; exact minW_le_r _ _ _)
  exact ⟨m, h1, fun v hv => (h2 v (leV_no w0_9 v) hv).2⟩
theorem c_plainTail (p i : Nat) : fX0_plainTail (nI p) (nI i) = some (nI (74 + p * 6 + i)) := by
  unfold fX0_plainTail
  have e1 : nI p * (6 : Int32) = nI (p * 6) := pk_mul p 6
  have e2 : (74 : Int32) + nI (p * 6) = nI (74 + p * 6) := nI_add 74 _
  rw [e1, e2, nI_add]
theorem c_leftSymbol {codes : Nat → Int32} {count : Int32} {G : List gP} (h : RC codes count G) (hG : okG G) {p : Nat} (hp : p < G.length) : fX0_leftSymbol codes (nI p) = some (nI (10 + (gp G p).1)) := by
  have hl := hG.1
  unfold fX0_leftSymbol
  rw [ag_ok (show p < 24 by omega)]
  simp only [obs, h.2 p hp, c_leftOf (okG_gp hG hp)]
  rw [n10, nI_add]
def PL (ω v : vW) : Prop := (∀ t, t < 8 → ω t = wT t) ∧ ∀ n, n < 8 → ω (10 + n) = v n
def TL (G : List gP) (ω v : vW) (p : Nat) : Prop := ∀ i, i ≤ (gp G p).2.length → ω (74 + p * 6 + i) = clv v ((gp G p).2.drop i)
theorem PL_sym {ω v : vW} (h : PL ω v) {s : Nat} (hs : okS s) : ω s = pwS v s := by
  unfold pwS
  rcases hs with h8 | h10
  · rw [if_pos (by omega)]; exact h.1 s h8
  · rw [if_neg (by omega)]
    have := h.2 (s - 10) (by omega)
    rw [← this]; congr 1; omega
theorem zI (x : Nat) : (0 : Int32) + nI x = nI x := by rw [n0, nI_add, Nat.zero_add]
theorem nI_sub1 {j : Nat} (h : 0 < j) : nI j - 1 = nI (j - 1) := pk_sub (b := 1) h
theorem nI_subm {j : Nat} (h : 0 < j) : nI j + (-1) = nI (j - 1) := by
  obtain ⟨k, rfl⟩ : ∃ k, j = k + 1 := ⟨j - 1, by omega⟩
  exact pk_m1 k
theorem nIm1 (j : Nat) : nI j - 1 = nI j + (-1) := Int32.sub_eq_add_neg _ _
theorem c_putPlainTails {codes : Nat → Int32} {count : Int32} {G : List gP} (hc : RC codes count G) (hG : okG G) {p : Nat} (hp : p < G.length) {c : Nat → Int32} {h l : Nat → Int64} {ω v : vW} (R : WS w0 362 c h l ω) (hP : PL ω v) {N : Nat} (hN : 30 < N) : ∃ (o : wsT) (ω' : vW), fX0_putPlainTails N codes c h l (nI p) = some o ∧ WS w0 362 o.1 o.2.1 o.2.2 ω' ∧ TL G ω' v p ∧ ∀ x, (x < 74 + p * 6 ∨ 80 + p * 6 ≤ x) → ω' x = ω x := by
  have hl := hG.1
  have hq := okG_gp hG hp
  have h5 := hq.2.1
  have cd := hc.2 p hp
  have TLe : TL G = fun ω v p => ∀ i, i ≤ (gp G p).2.length → ω (74 + p * 6 + i) = clv v ((gp G p).2.drop i) := rfl
  rw [TLe]
  simp only [fX0_putPlainTails, ag_ok (show p < 24 by omega), obs, cd, c_lengthOf hq, c_plainTail, lt_, jn3]
  generalize gp G p = q at *
  obtain ⟨o1, e1, R1⟩ := w_putEmpty R (n := 362) rfl (show 74 + p * 6 + q.2.length < 362 by omega)
  simp only [e1, bd3, obs]
  have main := vlp4 (B := bX0_putPlainTails_32 (nI p) (nI (enc q)) fun v8 v9 v10 => some (v8, v9, v10)) (fun j i c h l => i = nI (q.2.length - j) - 1 ∧ j ≤ q.2.length ∧ ∃ ω', WS w0 362 c h l ω' ∧ (∀ i, q.2.length - j ≤ i → i ≤ q.2.length → ω' (74 + p * 6 + i) = clv v (q.2.drop i)) ∧ ∀ x, (x < 74 + p * 6 ∨ 80 + p * 6 ≤ x) → ω' x = ω x)
    (fun r => ∃ (o : wsT) (ω' : vW), r = some o ∧ WS w0 362 o.1 o.2.1 o.2.2 ω' ∧ (∀ i, i ≤ q.2.length → ω' (74 + p * 6 + i) = clv v (q.2.drop i)) ∧ ∀ x, (x < 74 + p * 6 ∨ 80 + p * 6 ≤ x) → ω' x = ω x) q.2.length ?_ ?_ N (nI q.2.length - 1) o1.1 o1.2.1 o1.2.2 (by omega) ⟨rfl, Nat.zero_le _, updW ω (74 + p * 6 + q.2.length) wEm, R1, ?_, ?_⟩
  · exact main
  · rintro j i c h l hj ⟨rfl, _, ω', R', ht, hf⟩
    left
    have hi : q.2.length - j - 1 < q.2.length := by omega
    have e2 : nI (q.2.length - j) - 1 = nI (q.2.length - j - 1) := nI_sub1 (by omega)
    have e3 : q.2.length - (j + 1) = q.2.length - j - 1 := by omega
    have e4 : q.2.length - j = q.2.length - j - 1 + 1 := by omega
    rw [e2, e3]
    rw [e4] at ht
    generalize hix : q.2.length - j - 1 = x at *
    have hs := okP_sy hq hi
    have hs18 := okS_lt hs
    obtain ⟨o2, f2, R2⟩ := w_putCopy R' (n := 362) rfl (show 74 + p * 6 + x < 362 by omega) (show sy q.2 x < 362 by omega)
    obtain ⟨o3, f3, R3⟩ := w_append w0_9 R2 (n := 362) rfl (show 74 + p * 6 + x < 362 by omega) (show 74 + p * 6 + (x + 1) < 362 by omega)
    refine ⟨nI x - 1, o3.1, o3.2.1, o3.2.2, ⟨rfl, by omega, _, R3, ?_, ?_⟩, ?_⟩
    · intro i h1 h2
      by_cases e : i = x
      · subst e
        rw [updW_s, updW_s, updW_n (by omega), hf (sy q.2 i) (by omega), PL_sym hP hs, ht (i + 1) (by omega) (by omega), drop_cons hi]
        rfl
      · rw [updW_n (by omega), updW_n (by omega)]
        exact ht i (by omega) h2
    · intro y hy
      rw [updW_n (by omega), updW_n (by omega)]
      exact hf y hy
    · intro rc
      simp only [bX0_putPlainTails_32]
      rw [if_neg (nI_pos (by omega))]
      simp only [c_plainTail, obs, c_symbolOf hq hi, zI, f2, bd3, nI_1, f3, lt_]
      rw [nIm1]
  · rintro i c h l ⟨rfl, _, ω', R', ht, hf⟩
    refine ⟨_, ⟨(c, h, l), ω', rfl, R', fun i hi => ht i (by omega) hi, hf⟩, fun rc => ?_⟩
    simp only [bX0_putPlainTails_32]
    rw [Nat.sub_self, if_pos (by decide)]
  · intro i h1 h2
    have : i = q.2.length := by omega
    subst this
    rw [updW_s, List.drop_length]; rfl
  · intro x hx
    rw [updW_n (by omega)]
theorem c_plainSweep {codes : Nat → Int32} {count : Int32} {G : List gP} (hc : RC codes count G) (hG : okG G) {c : Nat → Int32} {h l : Nat → Int64} {ω v : vW} (R : WS w0 362 c h l ω) (hP : PL ω v) {N : Nat} (hN : 30 < N) : ∃ (o : wsT) (ω' : vW), (∀ k, itr5 (bX0_findPlain_58 N codes count k) N 0 0 c h l = k (b01 (chN (dP G) (fP G) G.length v)) o.1 o.2.1 o.2.2) ∧ WS w0 362 o.1 o.2.1 o.2.2 ω' ∧ PL ω' (foldN (fP G) G.length v) ∧ (chN (dP G) (fP G) G.length v = false → foldN (fP G) G.length v = v → ∀ p, p < G.length → TL G ω' v p) := by
  have hl := hG.1
  refine vlq5 (B := fun k => bX0_findPlain_58 N codes count k) (fun j f i c h l => i = nI j ∧ j ≤ G.length ∧ f = b01 (chN (dP G) (fP G) j v) ∧ ∃ ω', WS w0 362 c h l ω' ∧ PL ω' (foldN (fP G) j v) ∧ ∀ p, p < j → TL G ω' (foldN (fP G) p v) p) (fun r => ∃ (o : wsT) (ω' : vW), (∀ k, r k = k (b01 (chN (dP G) (fP G) G.length v)) o.1 o.2.1 o.2.2) ∧ WS w0 362 o.1 o.2.1 o.2.2 ω' ∧ PL ω' (foldN (fP G) G.length v) ∧ (chN (dP G) (fP G) G.length v = false → foldN (fP G) G.length v = v → ∀ p, p < G.length → TL G ω' v p)) G.length ?_ ?_ N 0 0 c h l (by omega) ⟨rfl, Nat.zero_le _, rfl, ω, R, hP, fun p hp => by omega⟩
  · rintro j f i c h l hj ⟨rfl, _, rfl, ω1, R1, P1, T1⟩
    left
    have hq := okG_gp hG hj
    have h8 := hq.1
    obtain ⟨o2, ω2, e2, R2, T2, F2⟩ := c_putPlainTails hc hG hj R1 P1 hN
    have hu : foldN (fP G) (j + 1) v = fP G j (foldN (fP G) j v) := rfl
    have hch : chN (dP G) (fP G) (j + 1) v = (chN (dP G) (fP G) j v || dP G j (foldN (fP G) j v)) := rfl
    rw [hch, hu]
    generalize hue : foldN (fP G) j v = u at *
    obtain ⟨o3, e3, R3⟩ := w_lower w0_9 R2 (n := 362) rfl (show 10 + (gp G j).1 < 362 by omega) (show 74 + j * 6 + 0 < 362 by omega)
    have t0 : ω2 (74 + j * 6 + 0) = clv u (gp G j).2 := by
      rw [T2 0 (Nat.zero_le _), List.drop_zero]
    have s0 : ω2 (10 + (gp G j).1) = u (gp G j).1 := by rw [F2 _ (by omega), P1.2 _ h8]
    rw [t0, s0] at e3 R3
    refine ⟨b01 (chN (dP G) (fP G) j v || dP G j u), nI (j + 1), o3.1, o3.2.1, o3.2.2, ⟨rfl, by omega, rfl, _, R3, ⟨?_, ?_⟩, ?_⟩, ?_⟩
    · intro t ht
      rw [updW_n (by omega), F2 _ (by omega)]; exact P1.1 t ht
    · intro n hn
      unfold fP
      by_cases e : n = (gp G j).1
      · subst e; rw [updW_s, updW_s]
      · rw [updW_n (by omega), updW_n e, F2 _ (by omega)]; exact P1.2 n hn
    · intro p hp
      by_cases e : p = j
      · subst e
        intro i hi
        rw [updW_n (by omega), T2 i hi, hue]
      · have hpj : p < j := by omega
        have h5 := (okG_gp hG (show p < G.length by omega)).2.1
        intro i hi
        rw [updW_n (by omega), F2 _ (by omega)]
        exact T1 p hpj i hi
    · intro k rc
      simp only [bX0_findPlain_58]
      have z0 : fX0_plainTail (nI j) 0 = some (nI (74 + j * 6 + 0)) := c_plainTail j 0
      rw [hc.1, if_neg (nI_ge hj (by omega)), e2]
      simp only [bd3, bd4, obs, c_leftSymbol hc hG hj, z0, zI, e3, jn_, lt_, nI_1]
      rw [fl_or (F := fun x => rc x (nI (j + 1)) o3.1 o3.2.1 o3.2.2)]
      rfl
  · rintro f i c h l ⟨rfl, _, rfl, ω1, R1, P1, T1⟩
    refine ⟨_, ⟨(c, h, l), ω1, fun _ => rfl, R1, P1, fun h1 h2 p hp => ?_⟩, fun k rc => ?_⟩
    · have e1 := chN_same (d := dP G) (f := fP G) (v := v) (fun p v hd => fP_same (of_decide_eq_false hd)) G.length h1 p (by omega)
      have := T1 p hp
      rw [e1] at this
      exact this
    · simp only [bX0_findPlain_58]
      rw [hc.1, if_pos (Int32.le_refl _)]
theorem c_forgetKind {c : Nat → Int32} {h l : Nat → Int64} {ω : vW} (R : WS w0 362 c h l ω) {b : Nat} (hb : b + 18 ≤ 362) {N : Nat} (hN : 30 < N) : ∃ (o : wsT) (ω' : vW), fX0_forgetKind N c h l (nI b) = some o ∧ WS w0 362 o.1 o.2.1 o.2.2 ω' ∧ (∀ x, b ≤ x → x < b + 18 → ω' x = wNo) ∧ ∀ x, (x < b ∨ b + 18 ≤ x) → ω' x = ω x := by
  simp only [fX0_forgetKind, jn3]
  refine vlp4 (B := bX0_forgetKind_2 (nI b) fun v1 v2 v3 => some (v1, v2, v3)) (fun j i c h l => i = nI j ∧ j ≤ 18 ∧ ∃ ω', WS w0 362 c h l ω' ∧ (∀ x, b ≤ x → x < b + j → ω' x = wNo) ∧ ∀ x, (x < b ∨ b + j ≤ x) → ω' x = ω x) (fun r => ∃ (o : wsT) (ω' : vW), r = some o ∧ WS w0 362 o.1 o.2.1 o.2.2 ω' ∧ (∀ x, b ≤ x → x < b + 18 → ω' x = wNo) ∧ ∀ x, (x < b ∨ b + 18 ≤ x) → ω' x = ω x) 18 ?_ ?_ N 0 c h l (by omega) ⟨rfl, by omega, ω, R, fun x h1 h2 => by omega, fun x _ => rfl⟩
  · rintro j i c h l hj ⟨rfl, _, ω1, R1, a1, a2⟩
    left
    obtain ⟨o, e, R2⟩ := w_putNone R1 (n := 362) rfl (show b + j < 362 by omega)
    refine ⟨nI (j + 1), o.1, o.2.1, o.2.2, ⟨rfl, by omega, _, R2, ?_, ?_⟩, ?_⟩
    · intro x h1 h2
      by_cases ex : x = b + j
      · subst ex; exact updW_s
      · rw [updW_n ex]; exact a1 x h1 (by omega)
    · intro x hx
      rw [updW_n (by omega)]; exact a2 x (by omega)
    · intro rc
      simp only [bX0_forgetKind_2]
      rw [if_neg (nleL 18 18 hj), nI_add]
      simp only [e, bd3, obs, lt_, nI_1]
  · rintro i c h l ⟨rfl, _, ω1, R1, a1, a2⟩
    refine ⟨_, ⟨(c, h, l), ω1, rfl, R1, a1, a2⟩, fun rc => ?_⟩
    simp only [bX0_forgetKind_2]
    rw [if_pos (by decide)]
def PlainOK (G : List gP) (v : vW) : Prop := clR w0 (RP G) v ∧ upR w0 8 (RP G) v
def ExP (G : List gP) (c : Nat → Int32) (h l : Nat → Int64) (ω v : vW) : Prop := WS w0 362 c h l ω ∧ PL ω v ∧ (∀ p, p < G.length → TL G ω v p) ∧ PlainOK G v
theorem c_findPlain {codes : Nat → Int32} {count : Int32} {G : List gP} (hc : RC codes count G) (hG : okG G) {c : Nat → Int32} {h l : Nat → Int64} {ω : vW} (R : WS w0 362 c h l ω) {N : Nat} (hN : 2000 < N) : ∃ (o : wsT) (ω' v : vW), fX0_findPlain N codes count c h l 0 = some (o.1, o.2.1, o.2.2, 1) ∧ ExP G o.1 o.2.1 o.2.2 ω' v := by
  have hl := hG.1
  obtain ⟨m, hm8, hm⟩ := sweep_P hG
  obtain ⟨o1, ω1, e1, R1, F1, _⟩ := c_forgetKind R (b := 0) (by omega) (show 30 < N by omega)
  have z0 : (nI 0 : Int32) = 0 := rfl
  rw [z0] at e1
  simp only [fX0_findPlain, if_true, e1, bd3, obs, jn3]
  refine vlp4 (B := bX0_findPlain_15 fun v4 v5 v6 => itr5 (bX0_findPlain_43 N codes count fun v7 v8 v9 => some (v7, v8, v9, 1)) N 1 0 v4 v5 v6) (fun j i c h l => i = nI j ∧ j ≤ 8 ∧ ∃ ω', WS w0 362 c h l ω' ∧ (∀ t, t < j → ω' t = wT t) ∧ ∀ n, n < 8 → ω' (10 + n) = wNo) (fun r => ∃ (o : wsT) (ω' v : vW), r = some (o.1, o.2.1, o.2.2, 1) ∧ ExP G o.1 o.2.1 o.2.2 ω' v) 8 ?_ ?_ N 0 o1.1 o1.2.1 o1.2.2 (by omega) ⟨rfl, by omega, ω1, R1, fun t ht => by omega, fun n hn => F1 _ (by omega) (by omega)⟩
  · rintro j i c h l hj ⟨rfl, _, ω2, R2, a1, a2⟩
    left
    obtain ⟨o, e, R3⟩ := w_putTerminal R2 (n := 362) rfl (show j < 362 by omega) hj (m := 0) rfl
    refine ⟨nI (j + 1), o.1, o.2.1, o.2.2, ⟨rfl, by omega, _, R3, ?_, ?_⟩, ?_⟩
    · intro t ht
      by_cases ex : t = j
      · subst ex; exact updW_s
      · rw [updW_n ex]; exact a1 t (by omega)
    · intro n hn
      rw [updW_n (by omega)]; exact a2 n hn
    · intro rc
      have z1 : (nI 0 : Int32) = 0 := rfl
      rw [z1] at e
      simp only [bX0_findPlain_15]
      rw [if_neg (nleL 8 8 hj), zI]
      simp only [e, bd3, obs, lt_, nI_1]
  · rintro i c h l ⟨rfl, _, ω2, R2, a1, a2⟩
    have hr := rounds5 (B := bX0_findPlain_43 N codes count fun v7 v8 v9 => some (v7, v8, v9, 1)) (k := fun v7 v8 v9 => some (v7, v8, v9, 1)) (fun (v : vW) c h l => upR w0 8 (RP G) v ∧ ∃ ω', WS w0 362 c h l ω' ∧ PL ω' v) (fun v c h l => ∃ ω', ExP G c h l ω' v) m ?_ ?_ N (fun _ => wNo) c h l ⟨upR_no w0_9, ω2, R2, a1, a2⟩ (by have := hm8 (fun _ => wNo); omega) hN
    · obtain ⟨v, c', h', l', ⟨ω', hE⟩, e⟩ := hr
      refine ⟨_, ⟨(c', h', l'), ω', v, rfl, hE⟩, fun rc => ?_⟩
      simp only [bX0_findPlain_15]
      rw [if_pos (by decide), e]
    · intro rc j c h l hj
      simp only [bX0_findPlain_43]
      rw [if_neg (nleL 1000 1000 hj), if_true]
    · rintro j v c h l hj ⟨hup, ω3, R3, P3⟩
      obtain ⟨u1, u2, u3⟩ := hm v hup
      have hbody : ∀ rc, bX0_findPlain_43 N codes count (fun v7 v8 v9 => some (v7, v8, v9, 1)) rc 1 (nI j) c h l = itr5 (bX0_findPlain_58 N codes count fun v17 v18 v19 v20 => rc v17 (nI (j + 1)) v18 v19 v20) N 0 0 c h l := by
        intro rc
        simp only [bX0_findPlain_43]
        rw [if_neg (nleL 1000 1000 hj), if_neg (by decide)]
        simp only [jn4, lt_, nI_1]
      obtain ⟨o, ω4, e4, R4, P4, T4⟩ := c_plainSweep hc hG R3 P3 (show 30 < N by omega)
      refine ⟨chN (dP G) (fP G) G.length v, foldN (fP G) G.length v, o.1, o.2.1, o.2.2, ?_, ?_, ?_⟩
      · intro rc
        rw [hbody, e4]
      · intro hch
        exact ⟨⟨u1, ω4, R4, P4⟩, u2 hch⟩
      · intro hch
        obtain ⟨x1, x2⟩ := u3 hch
        rw [x1] at P4 ⊢
        exact ⟨ω4, R4, P4, T4 hch x1, x2, hup⟩
