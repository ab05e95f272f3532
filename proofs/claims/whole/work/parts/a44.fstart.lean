/-! THE CLASS'S findStarting -/
theorem bS_upd {tk : Nat} {v : vW} {l : Nat} {x : wW} {s : Nat} : bS tk (updW v l x) s = if ¬ s < 10 ∧ s - 10 = l then x else bS tk v s := by
  unfold bS
  by_cases h : s < 10
  · rw [if_pos h, if_pos h, if_neg (show ¬ (¬ s < 10 ∧ s - 10 = l) by omega)]
  · rw [if_neg h, if_neg h]
    by_cases e : s - 10 = l
    · rw [if_pos ⟨h, e⟩, e, updW_s]
    · rw [if_neg (fun q => e q.2), updW_n e]
theorem c_startSweep {codes : Nat → Int32} {count : Int32} {G : List gP} (hc : RC codes count G) (hG : okG G) {E : Int32} {pv : vW} {tk : Nat} {c : Nat → Int32} {h l : Nat → Int64} {ω v : vW} (R : WS w0 362 c h l ω) (hE : Env G E pv ω) (hB : ∀ s, okS s → ω (18 + s) = bS tk v s) {N : Nat} (hN : 30 < N) : ∃ (o : wsT) (ω' : vW), (∀ k, itr5 (bX0_findStarting_45 N codes count k) N 0 0 c h l = k (b01 (chN (dB G E pv tk) (fB G E pv tk) G.length v)) o.1 o.2.1 o.2.2) ∧ WS w0 362 o.1 o.2.1 o.2.2 ω' ∧ FrP ω ω' ∧ (∀ s, okS s → ω' (18 + s) = bS tk (foldN (fB G E pv tk) G.length v) s) ∧ (chN (dB G E pv tk) (fB G E pv tk) G.length v = false → ∀ p, p < G.length → STL G E pv tk ω' v p) := by
  have hl := hG.1
  refine vlq5 (B := fun k => bX0_findStarting_45 N codes count k) (fun j f i c h l => i = nI j ∧ j ≤ G.length ∧ f = b01 (chN (dB G E pv tk) (fB G E pv tk) j v) ∧ ∃ ω', WS w0 362 c h l ω' ∧ FrP ω ω' ∧ (∀ s, okS s → ω' (18 + s) = bS tk (foldN (fB G E pv tk) j v) s) ∧ ∀ p, p < j → STL G E pv tk ω' (foldN (fB G E pv tk) p v) p) (fun r => ∃ (o : wsT) (ω' : vW), (∀ k, r k = k (b01 (chN (dB G E pv tk) (fB G E pv tk) G.length v)) o.1 o.2.1 o.2.2) ∧ WS w0 362 o.1 o.2.1 o.2.2 ω' ∧ FrP ω ω' ∧ (∀ s, okS s → ω' (18 + s) = bS tk (foldN (fB G E pv tk) G.length v) s) ∧ (chN (dB G E pv tk) (fB G E pv tk) G.length v = false → ∀ p, p < G.length → STL G E pv tk ω' v p)) G.length ?_ ?_ N 0 0 c h l (by omega) ⟨rfl, Nat.zero_le _, rfl, ω, R, fun _ _ => rfl, hB, fun p hp => absurd hp (Nat.not_lt_zero _)⟩
  · rintro j f i c h l hj ⟨rfl, _, rfl, ω1, R1, Fr1, B1, T1⟩
    left
    have hq := okG_gp hG hj
    have h8 := hq.1
    have h5 := hq.2.1
    obtain ⟨o2, ω2, e2, R2, T2, F2⟩ := c_putStartingTails hc hG hj R1 (Env_fr hG hE Fr1) B1 hN
    have hu : foldN (fB G E pv tk) (j + 1) v = fB G E pv tk j (foldN (fB G E pv tk) j v) := rfl
    have hch : chN (dB G E pv tk) (fB G E pv tk) (j + 1) v = (chN (dB G E pv tk) (fB G E pv tk) j v || dB G E pv tk j (foldN (fB G E pv tk) j v)) := rfl
    rw [hch, hu]
    generalize hue : foldN (fB G E pv tk) j v = u at *
    obtain ⟨o3, e3, R3⟩ := w_lower w0_9 R2 (n := 362) rfl (show 18 + (10 + (gp G j).1) < 362 by omega) (show 218 + j * 6 + 0 < 362 by omega)
    have t0 : ω2 (218 + j * 6 + 0) = stl E pv (bS tk u) (gp G j).2 := by
      rw [T2 0 (Nat.zero_le _), List.drop_zero]
    have s0 : ω2 (18 + (10 + (gp G j).1)) = u (gp G j).1 := by
      rw [F2 _ (by omega), B1 _ (Or.inr ⟨by omega, by omega⟩)]
      unfold bS
      rw [if_neg (by omega)]
      congr 1; omega
    rw [t0, s0] at e3 R3
    refine ⟨b01 (chN (dB G E pv tk) (fB G E pv tk) j v || dB G E pv tk j u), nI (j + 1), o3.1, o3.2.1, o3.2.2, ⟨rfl, by omega, rfl, _, R3, ?_, ?_, ?_⟩, ?_⟩
    · intro x hx
      rw [updW_n (by omega), F2 _ (by omega)]; exact Fr1 x hx
    · intro s hs
      have hs18 := okS_lt hs
      unfold fB
      rw [bS_upd]
      by_cases e : ¬ s < 10 ∧ s - 10 = (gp G j).1
      · rw [if_pos e]
        have : 18 + s = 18 + (10 + (gp G j).1) := by omega
        rw [this, updW_s]
      · rw [if_neg e, updW_n (by omega), F2 _ (by omega)]; exact B1 s hs
    · intro p hp
      by_cases e : p = j
      · subst e
        intro i hi
        rw [updW_n (by omega), T2 i hi, hue]
      · have hpj : p < j := by omega
        have h5 := (okG_gp hG (show p < G.length by omega)).2.1
        intro i hi
        rw [updW_n (by omega), F2 _ (by omega)]
        exact T1 p hpj i hi
    · intro k rc
      have z0 : fX0_startingTail (nI j) 0 = some (nI (218 + j * 6 + 0)) := c_startingTail j 0
      have e18 : (18 : Int32) + nI (10 + (gp G j).1) = nI (18 + (10 + (gp G j).1)) := nI_add 18 _
      simp only [bX0_findStarting_45]
      rw [hc.1, if_neg (nI_ge hj (by omega)), e2]
      simp only [bd3, bd4, obs, c_leftSymbol hc hG hj, z0, e18, e3, jn_, lt_, nI_1]
      rw [fl_or (F := fun x => rc x (nI (j + 1)) o3.1 o3.2.1 o3.2.2)]
      rfl
  · rintro f i c h l ⟨rfl, _, rfl, ω1, R1, Fr1, B1, T1⟩
    refine ⟨_, ⟨(c, h, l), ω1, fun _ => rfl, R1, Fr1, B1, fun h1 p hp => ?_⟩, fun k rc => ?_⟩
    · have e1 := chN_same (d := dB G E pv tk) (f := fB G E pv tk) (v := v) (fun p v hd => by
        have hd := of_decide_eq_false hd
        unfold fB
        rw [minW_eq_ge hd, updW_same]) G.length h1 p (by omega)
      have := T1 p hp
      rw [e1] at this
      exact this
    · simp only [bX0_findStarting_45]
      rw [hc.1, if_pos (Int32.le_refl _)]
def BegOK (G : List gP) (E : Int32) (pv : vW) (tk : Nat) (bv : vW) : Prop := clR w0 (RB G E pv tk) bv ∧ upR w0 8 (RB G E pv tk) bv
theorem c_findStarting {codes : Nat → Int32} {count : Int32} {G : List gP} (hc : RC codes count G) (hG : okG G) {E : Int32} {pv : vW} {tk : Nat} (htk : tk ≤ 8) {c : Nat → Int32} {h l : Nat → Int64} {ω : vW} (R : WS w0 362 c h l ω) (hE : Env G E pv ω) {N : Nat} (hN : 2000 < N) : ∃ (o : wsT) (ω' bv : vW), fX0_findStarting N codes count c h l (nI tk) = some o ∧ WS w0 362 o.1 o.2.1 o.2.2 ω' ∧ FrP ω ω' ∧ (∀ p, p < G.length → STL G E pv tk ω' bv p) ∧ BegOK G E pv tk bv := by
  have hl := hG.1
  obtain ⟨m, hm8, hm⟩ := sweep_B hG E pv tk
  obtain ⟨o1, ω1, e1, R1, F1, F1'⟩ := c_forgetKind R (b := 18) (by omega) (show 30 < N by omega)
  have z18 : (nI 18 : Int32) = 18 := rfl
  rw [z18] at e1
  simp only [fX0_findStarting, e1, bd3, obs, jn3]
  have main : ∀ c h l ω2, WS w0 362 c h l ω2 → FrP ω ω2 → (∀ s, okS s → ω2 (18 + s) = bS tk (fun _ => wNo) s) → ∃ (o : wsT) (ω' bv : vW), itr5 (bX0_findStarting_29 N codes count fun v7 v8 v9 => some (v7, v8, v9)) N 1 0 c h l = some o ∧ WS w0 362 o.1 o.2.1 o.2.2 ω' ∧ FrP ω ω' ∧ (∀ p, p < G.length → STL G E pv tk ω' bv p) ∧ BegOK G E pv tk bv := by
    intro c h l ω2 R2 Fr2 B2
    have hr := rounds5 (B := bX0_findStarting_29 N codes count fun v7 v8 v9 => some (v7, v8, v9)) (k := fun v7 v8 v9 => some (v7, v8, v9)) (fun (v : vW) c h l => upR w0 8 (RB G E pv tk) v ∧ ∃ ω', WS w0 362 c h l ω' ∧ FrP ω ω' ∧ (∀ s, okS s → ω' (18 + s) = bS tk v s)) (fun v c h l => ∃ ω', WS w0 362 c h l ω' ∧ FrP ω ω' ∧ (∀ p, p < G.length → STL G E pv tk ω' v p) ∧ BegOK G E pv tk v) m ?_ ?_ N (fun _ => wNo) c h l ⟨upR_no w0_9, ω2, R2, Fr2, B2⟩ (by have := hm8 (fun _ => wNo); omega) hN
    · obtain ⟨v, c', h', l', ⟨ω', q1, q2, q3, q4⟩, e⟩ := hr
      exact ⟨(c', h', l'), ω', v, e, q1, q2, q3, q4⟩
    · intro rc j c h l hj
      simp only [bX0_findStarting_29]
      rw [if_neg (nleL 1000 1000 hj), if_true]
    · rintro j v c h l hj ⟨hup, ω3, R3, Fr3, B3⟩
      obtain ⟨u1, u2, u3⟩ := hm v hup
      obtain ⟨o, ω4, e4, R4, Fr4, B4, T4⟩ := c_startSweep hc hG R3 (Env_fr hG hE Fr3) B3 (show 30 < N by omega)
      have hbody : ∀ rc, bX0_findStarting_29 N codes count (fun v7 v8 v9 => some (v7, v8, v9)) rc 1 (nI j) c h l = itr5 (bX0_findStarting_45 N codes count fun v17 v18 v19 v20 => rc v17 (nI (j + 1)) v18 v19 v20) N 0 0 c h l := by
        intro rc
        simp only [bX0_findStarting_29]
        rw [if_neg (nleL 1000 1000 hj), if_neg (by decide)]
        simp only [jn4, lt_, nI_1]
      have Fr : FrP ω ω4 := fun x hx => by rw [Fr4 x hx, Fr3 x hx]
      refine ⟨chN (dB G E pv tk) (fB G E pv tk) G.length v, foldN (fB G E pv tk) G.length v, o.1, o.2.1, o.2.2, ?_, ?_, ?_⟩
      · intro rc
        rw [hbody, e4]
      · intro hch
        exact ⟨⟨u1, ω4, R4, Fr, B4⟩, u2 hch⟩
      · intro hch
        obtain ⟨x1, x2⟩ := u3 hch
        rw [x1]
        exact ⟨ω4, R4, Fr, T4 hch, x2, hup⟩
  have Fr1 : FrP ω ω1 := fun x hx => F1' x (by omega)
  by_cases e8 : tk = 8
  · rw [if_pos (by rw [e8]; rfl)]
    refine main _ _ _ ω1 R1 Fr1 fun s hs => ?_
    have hs18 := okS_lt hs
    rw [F1 _ (by omega) (by omega)]
    unfold bS
    by_cases h10 : s < 10
    · rw [if_pos h10, if_neg (by rcases hs with q | q <;> omega)]
    · rw [if_neg h10]
  · have ht8 : tk < 8 := by omega
    obtain ⟨o2, e2, R2⟩ := w_putTerminal R1 (n := 362) rfl (show 18 + tk < 362 by omega) ht8 (m := 0) rfl
    have z0 : (nI 0 : Int32) = 0 := rfl
    have e18 : (18 : Int32) + nI tk = nI (18 + tk) := nI_add 18 _
    rw [z0] at e2
    rw [if_neg (neL 8 8 e8 (by omega)), e18]
    simp only [e2, obs]
    refine main _ _ _ _ R2 (fun x hx => ?_) fun s hs => ?_
    · rw [updW_n (by omega)]; exact Fr1 x hx
    · have hs18 := okS_lt hs
      unfold bS
      by_cases h10 : s < 10
      · rw [if_pos h10]
        by_cases e : s = tk
        · subst e; rw [if_pos rfl, updW_s]
        · rw [if_neg e, updW_n (by omega), F1 _ (by omega) (by omega)]
      · rw [if_neg h10, updW_n (by omega), F1 _ (by omega) (by omega)]
