/-! THE CLASS'S findMarked -/
def mS (k : Nat) (v : vW) (s : Nat) : wW := if s < 10 then wNo else v (k + (s - 10))
def MK (ω v : vW) : Prop := ∀ s, okS s → ω (54 + s) = mS 0 v s ∧ ω (36 + s) = mS 8 v s
def FrM (ω ω' : vW) : Prop := ∀ x, (x < 36 ∨ 74 ≤ x) → ω' x = ω x
theorem FrM_P {ω ω' : vW} (h : FrM ω ω') : FrP ω ω' := fun x hx => h x (by omega)
theorem STL_fr {G : List gP} {E : Int32} {pv : vW} {tk : Nat} {ω ω' bv : vW} (h : ∀ p, p < G.length → STL G E pv tk ω bv p) (hf : FrM ω ω') : ∀ p, p < G.length → STL G E pv tk ω' bv p := fun p hp i hi => by
  rw [hf _ (Or.inr (by omega))]; exact h p hp i hi
theorem mS_10 {k : Nat} {v : vW} {n : Nat} : mS k v (10 + n) = v (k + n) := by
  unfold mS
  rw [if_neg (by omega)]
  congr 1; omega
theorem MK_upd {ω v : vW} (h : MK ω v) {l : Nat} (hl : l < 8) (x : wW) : MK (updW ω (54 + (10 + l)) x) (updW v l x) := by
  intro s hs
  have h18 := okS_lt hs
  obtain ⟨h1, h2⟩ := h s hs
  unfold mS at *
  by_cases h10 : s < 10
  · rw [if_pos h10] at *
    rw [if_pos h10] at *
    exact ⟨by rw [updW_n (by omega)]; exact h1, by rw [updW_n (by omega)]; exact h2⟩
  · rw [if_neg h10] at *
    rw [if_neg h10] at *
    refine ⟨?_, by rw [updW_n (by omega), updW_n (by omega)]; exact h2⟩
    by_cases e : s - 10 = l
    · have e1 : 54 + s = 54 + (10 + l) := by omega
      have e2 : 0 + (s - 10) = l := by omega
      rw [e1, e2, updW_s, updW_s]
    · rw [updW_n (by omega), updW_n (by omega)]; exact h1
theorem MK_updE {ω v : vW} (h : MK ω v) {l : Nat} (hl : l < 8) (x : wW) : MK (updW ω (36 + (10 + l)) x) (updW v (8 + l) x) := by
  intro s hs
  have h18 := okS_lt hs
  obtain ⟨h1, h2⟩ := h s hs
  unfold mS at *
  by_cases h10 : s < 10
  · rw [if_pos h10] at *
    rw [if_pos h10] at *
    exact ⟨by rw [updW_n (by omega)]; exact h1, by rw [updW_n (by omega)]; exact h2⟩
  · rw [if_neg h10] at *
    rw [if_neg h10] at *
    refine ⟨by rw [updW_n (by omega), updW_n (by omega)]; exact h1, ?_⟩
    by_cases e : s - 10 = l
    · have e1 : 36 + s = 36 + (10 + l) := by omega
      have e2 : 8 + (s - 10) = 8 + l := by omega
      rw [e1, e2, updW_s, updW_s]
    · rw [updW_n (by omega), updW_n (by omega)]; exact h2
theorem MK_tmp {ω v : vW} (h : MK ω v) {x : Nat} (hx : x = 72 ∨ x = 73) (y : wW) : MK (updW ω x y) v := by
  intro s hs
  have h18 := okS_lt hs
  rw [updW_n (by omega), updW_n (by omega)]; exact h s hs
theorem FrM_upd {ω ω' : vW} (h : FrM ω ω') {x : Nat} (h1 : 36 ≤ x) (h2 : x < 74) (y : wW) : FrM ω (updW ω' x y) := fun z hz => by rw [updW_n (by omega)]; exact h z hz
section CM
variable {codes : Nat → Int32} {count : Int32} {G : List gP} {E : Int32} {pv : vW} {tk : Nat}
theorem c_lowerEnded (hc : RC codes count G) (hG : okG G) {p i : Nat} (hp : p < G.length) (hi : i < (gp G p).2.length) (h10 : ¬ sy (gp G p).2 i < 10) {c : Nat → Int32} {h l : Nat → Int64} {ω v bv : vW} (R : WS w0 362 c h l ω) (hE : Env G E pv ω) (hT : ∀ p, p < G.length → STL G E pv tk ω bv p) (hM : MK ω v) (hH : ω 72 = clv pv ((gp G p).2.take i)) : ∃ (o : wsT) (ω' : vW), fX0_lowerEnded codes c h l (nI p) (nI i) = some (b01 (dM2 E pv (bS tk bv) (gp G p) i v), o) ∧ WS w0 362 o.1 o.2.1 o.2.2 ω' ∧ FrM ω ω' ∧ MK ω' (gM2 E pv (bS tk bv) (gp G p) i v) ∧ ω' 72 = ω 72 := by
  have hl := hG.1
  have hq := okG_gp hG hp
  have h5 := hq.2.1
  have h8 := hq.1
  have cd := hc.2 p hp
  have hs := okP_sy hq hi
  have hs18 := okS_lt hs
  obtain ⟨o1, e1, R1⟩ := w_putCopy R (n := 362) rfl (show 73 < 362 by decide) (show 72 < 362 by decide)
  obtain ⟨o2, e2, R2⟩ := w_append w0_9 R1 (n := 362) rfl (show 73 < 362 by decide) (show 36 + sy (gp G p).2 i < 362 by omega)
  have e3 := w_isEmpty w0_9 R2 (n := 362) rfl (show 74 + p * 6 + (i + 1) < 362 by omega)
  have vT : catW (updW ω 73 (ω 72) 73) (updW ω 73 (ω 72) (36 + sy (gp G p).2 i)) = evT pv (gp G p) i v := by
    rw [updW_s, updW_n (by omega), hH, (hM _ hs).2]
    unfold mS evT
    rw [if_neg h10]
  have vE : updW (updW ω 73 (ω 72)) 73 (evT pv (gp G p) i v) (74 + p * 6 + (i + 1)) = clv pv ((gp G p).2.drop (i + 1)) := by
    rw [updW_n (by omega), updW_n (by omega)]; exact hE.2.1 p hp (i + 1) (by omega)
  rw [vT] at R2 e3
  rw [vE, clv_em_iff (E := E) _ (fun s hs => hE.2.2 s (hq.2.2 s (List.mem_of_mem_drop hs)))] at e3
  have M2 : MK (updW (updW ω 73 (ω 72)) 73 (evT pv (gp G p) i v)) v := MK_tmp (MK_tmp hM (Or.inr rfl) _) (Or.inr rfl) _
  have F2 : FrM ω (updW (updW ω 73 (ω 72)) 73 (evT pv (gp G p) i v)) := FrM_upd (FrM_upd (fun _ _ => rfl) (by omega) (by omega) _) (by omega) (by omega) _
  have T2 : updW (updW ω 73 (ω 72)) 73 (evT pv (gp G p) i v) 73 = evT pv (gp G p) i v := updW_s
  have H2 : updW (updW ω 73 (ω 72)) 73 (evT pv (gp G p) i v) 72 = ω 72 := by rw [updW_n (by omega), updW_n (by omega)]
  generalize updW (updW ω 73 (ω 72)) 73 (evT pv (gp G p) i v) = ω2 at *
  have tail : ∀ (o : wsT) (ω3 : vW) (a : Bool), WS w0 362 o.1 o.2.1 o.2.2 ω3 → FrM ω ω3 → MK ω3 (gE E pv (gp G p) i v) → ω3 73 = evT pv (gp G p) i v → ω3 72 = ω 72 → ∃ (o' : wsT) (ω' : vW), ((fX0_startingTail (nI p) (nI i + 1)).bind fun x15 => bd3 (fX10_append 362 o.1 o.2.1 o.2.2 73 x15) fun o16 o17 o18 => (fX0_leftSymbol codes (nI p)).bind fun x19 => bd4 (fX10_lower 362 o16 o17 o18 (54 + x19) 73) fun o23 o20 o21 o22 => if o23 = 0 then if b01 a = 0 then gz 0 (some (0, o20, o21, o22)) else gz 1 (some (1, o20, o21, o22)) else gz 1 (some (1, o20, o21, o22))) = some (b01 (a || decide (ky w0 (evS E pv (bS tk bv) (gp G p) i v) < ky w0 (v (gp G p).1))), o') ∧ WS w0 362 o'.1 o'.2.1 o'.2.2 ω' ∧ FrM ω ω' ∧ MK ω' (gM2 E pv (bS tk bv) (gp G p) i v) ∧ ω' 72 = ω 72 := by
    intro o ω3 a R3 F3 M3 T3 H3
    obtain ⟨o4, e4, R4⟩ := w_append w0_9 R3 (n := 362) rfl (show 73 < 362 by decide) (show 218 + p * 6 + (i + 1) < 362 by omega)
    have vS : catW (ω3 73) (ω3 (218 + p * 6 + (i + 1))) = evS E pv (bS tk bv) (gp G p) i v := by
      rw [T3, F3 _ (by omega), hT p hp (i + 1) (by omega)]; rfl
    rw [vS] at R4
    obtain ⟨o5, e5, R5⟩ := w_lower w0_9 R4 (n := 362) rfl (show 54 + (10 + (gp G p).1) < 362 by omega) (show 73 < 362 by decide)
    have vM : updW ω3 73 (evS E pv (bS tk bv) (gp G p) i v) (54 + (10 + (gp G p).1)) = v (gp G p).1 := by
      rw [updW_n (by omega), (M3 (10 + (gp G p).1) (Or.inr ⟨by omega, by omega⟩)).1, mS_10, Nat.zero_add, gE_at]
    rw [vM, updW_s] at e5 R5
    refine ⟨o5, _, ?_, R5, FrM_upd (FrM_upd F3 (by omega) (by omega) _) (by omega) (by omega) _, MK_upd (MK_tmp M3 (Or.inr rfl) _) h8 _, by rw [updW_n (by omega), updW_n (by omega)]; exact H3⟩
    have e54 : (54 : Int32) + nI (10 + (gp G p).1) = nI (54 + (10 + (gp G p).1)) := nI_add 54 _
    have z73 : (nI 73 : Int32) = 73 := rfl
    rw [z73] at e4 e5
    simp only [nI_1, c_startingTail, obs, e4, bd3, c_leftSymbol hc hG hp, e54, e5, bd4]
    cases a <;> cases decide (ky w0 (evS E pv (bS tk bv) (gp G p) i v) < ky w0 (v (gp G p).1)) <;> simp [b01, gz]
  have e36 : (36 : Int32) + nI (sy (gp G p).2 i) = nI (36 + sy (gp G p).2 i) := nI_add 36 _
  have z72 : (nI 72 : Int32) = 72 := rfl
  have z73 : (nI 73 : Int32) = 73 := rfl
  rw [z72, z73] at e1
  rw [z73] at e2
  simp only [fX0_lowerEnded, e1, bd3, obs, ag_ok (show p < 24 by omega), cd, c_symbolOf hq hi, e36, e2, jn4, jn_]
  have e74 : fX0_plainTail (nI p) (nI i + 1) = some (nI (74 + p * 6 + (i + 1))) := by rw [nI_1, c_plainTail]
  simp only [e74, obs, e3]
  by_cases hvan : van E ((gp G p).2.drop (i + 1)) = true
  · rw [hvan, if_neg (by decide)]
    obtain ⟨o6, e6, R6⟩ := w_lower w0_9 R2 (n := 362) rfl (show 36 + (10 + (gp G p).1) < 362 by omega) (show 73 < 362 by decide)
    have vEn : ω2 (36 + (10 + (gp G p).1)) = v (8 + (gp G p).1) := by rw [(M2 (10 + (gp G p).1) (Or.inr ⟨by omega, by omega⟩)).2, mS_10]
    rw [vEn, T2] at e6 R6
    have e36' : (36 : Int32) + nI (10 + (gp G p).1) = nI (36 + (10 + (gp G p).1)) := nI_add 36 _
    rw [z73] at e6
    simp only [c_leftSymbol hc hG hp, obs, e36', e6, bd4]
    have hgE : gE E pv (gp G p) i v = updW v (8 + (gp G p).1) (minW w0 (v (8 + (gp G p).1)) (evT pv (gp G p) i v)) := by unfold gE; rw [if_pos hvan]
    obtain ⟨o', ω', q1, q2, q3, q4, q5⟩ := tail o6 _ (decide (ky w0 (evT pv (gp G p) i v) < ky w0 (v (8 + (gp G p).1)))) R6 (FrM_upd F2 (by omega) (by omega) _) (by rw [hgE]; exact MK_updE M2 h8 _) (by rw [updW_n (by omega)]; exact T2) (by rw [updW_n (by omega)]; exact H2)
    refine ⟨o', ω', ?_, q2, q3, q4, q5⟩
    have hd : dM2 E pv (bS tk bv) (gp G p) i v = (decide (ky w0 (evT pv (gp G p) i v) < ky w0 (v (8 + (gp G p).1))) || decide (ky w0 (evS E pv (bS tk bv) (gp G p) i v) < ky w0 (v (gp G p).1))) := by unfold dM2 dE; rw [hvan, Bool.true_and]
    rw [hd]
    simp only [c_leftSymbol hc hG hp, obs, bd3, bd4] at q1
    exact q1
  · have hvf : van E ((gp G p).2.drop (i + 1)) = false := by simpa using hvan
    rw [hvf, if_pos (by rfl)]
    have hgE : gE E pv (gp G p) i v = v := by unfold gE; rw [if_neg hvan]
    obtain ⟨o', ω', q1, q2, q3, q4, q5⟩ := tail o2 _ false R2 F2 (by rw [hgE]; exact M2) T2 H2
    refine ⟨o', ω', ?_, q2, q3, q4, q5⟩
    have hd : dM2 E pv (bS tk bv) (gp G p) i v = (false || decide (ky w0 (evS E pv (bS tk bv) (gp G p) i v) < ky w0 (v (gp G p).1))) := by unfold dM2 dE; rw [hvf, Bool.false_and]
    rw [hd]
    exact q1
end CM
