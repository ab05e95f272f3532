/-! THE CLASS'S rewriting: factor, turnRecursion -/
section FA
theorem c_prefixOf {q : gP} (hq : okP q) {m : Nat} (hm : m ≤ q.2.length) {N : Nat} (hN : 30 < N) : fX6_prefixOf N (nI (enc q)) (nI m) = some (nI (enc (q.1, q.2.take m))) := by
  have h5 := hq.2.1
  simp only [fX6_prefixOf, c_leftOf hq, obs, fX6_emptyOf, jn_]
  refine vlp2 (B := bX6_prefixOf_10 (nI (enc q)) (nI m) fun v => some v) (fun j v i => i = nI j ∧ j ≤ m ∧ v = nI (enc (q.1, q.2.take j))) (fun r => r = some (nI (enc (q.1, q.2.take m)))) m ?_ ?_ N _ 0 (by omega) ⟨rfl, Nat.zero_le _, rfl⟩
  · rintro j v i hj ⟨rfl, hb, rfl⟩
    left
    have hp : okP (q.1, q.2.take j) := ⟨hq.1, by show (q.2.take j).length ≤ 5; rw [List.length_take]; omega, fun s hs => hq.2.2 s (List.mem_of_mem_take hs)⟩
    refine ⟨nI (enc (q.1, q.2.take (j + 1))), nI (j + 1), ⟨rfl, by omega, rfl⟩, fun rc => ?_⟩
    simp only [bX6_prefixOf_10, lt_, nI_1]
    rw [if_neg (nI_ge hj (by omega)), c_symbolOf hq (by omega), obs, c_extended hp (by rw [List.length_take]; omega) (okP_sy hq (by omega)), obs, take_sy (by omega)]
  · rintro v i ⟨rfl, hb, rfl⟩
    refine ⟨_, rfl, fun rc => ?_⟩
    simp only [bX6_prefixOf_10]
    rw [if_pos (Int32.le_refl _)]
theorem c_suffixOf {q : gP} (hq : okP q) {a l : Nat} (ha : a ≤ q.2.length) (hl : l < 8) {N : Nat} (hN : 30 < N) : fX6_suffixOf N (nI (enc q)) (nI a) (nI l) = some (nI (enc (l, q.2.drop a))) := by
  have h5 := hq.2.1
  have hdl : (q.2.drop a).length = q.2.length - a := List.length_drop
  simp only [fX6_suffixOf, obs, fX6_emptyOf, jn_]
  refine vlp2 (B := bX6_suffixOf_8 (nI (enc q)) fun v => some v) (fun j v i => i = nI (a + j) ∧ a + j ≤ q.2.length ∧ v = nI (enc (l, (q.2.drop a).take j))) (fun r => r = some (nI (enc (l, q.2.drop a)))) (q.2.length - a) ?_ ?_ N _ (nI a) (by omega) ⟨rfl, by omega, rfl⟩
  · rintro j v i hj ⟨rfl, hb, rfl⟩
    left
    have hp : okP (l, (q.2.drop a).take j) := ⟨hl, by show ((q.2.drop a).take j).length ≤ 5; rw [List.length_take]; omega, fun s hs => hq.2.2 s (List.mem_of_mem_drop (List.mem_of_mem_take hs))⟩
    refine ⟨nI (enc (l, (q.2.drop a).take (j + 1))), nI (a + (j + 1)), ⟨rfl, by omega, rfl⟩, fun rc => ?_⟩
    simp only [bX6_suffixOf_8, lt_, nI_1, c_lengthOf hq, obs]
    rw [if_neg (nI_ge (by omega) (by omega)), c_symbolOf hq (by omega), obs, c_extended hp (by rw [List.length_take]; omega) (okP_sy hq (by omega)), obs, take_sy (show j < (q.2.drop a).length by omega), sy_drop]
    rfl
  · rintro v i ⟨rfl, hb, rfl⟩
    refine ⟨_, rfl, fun rc => ?_⟩
    simp only [bX6_suffixOf_8, c_lengthOf hq, obs]
    rw [if_pos (nI_le (by omega) (by omega)), List.take_of_length_le (by omega)]
theorem take_gp {G : List gP} {j : Nat} (h : j < G.length) : G.take (j + 1) = G.take j ++ [gp G j] := by
  rw [List.take_add_one]
  congr 1
  have e : gp G j = G[j] := by simp [gp, List.getD, h]
  rw [e, List.getElem?_eq_getElem h]
  rfl
theorem fm_take {G : List gP} (f : gP → List gP) {j : Nat} (h : j < G.length) : (G.take (j + 1)).flatMap f = (G.take j).flatMap f ++ f (gp G j) := by
  rw [take_gp h, List.flatMap_append]
  congr 1
  simp
theorem fm_mono {G : List gP} (f : gP → List gP) {j : Nat} (h : j < G.length) : ((G.take j).flatMap f).length + (f (gp G j)).length ≤ (G.flatMap f).length := by
  have e : G = G.take (j + 1) ++ G.drop (j + 1) := (List.take_append_drop _ _).symm
  have h2 : (G.flatMap f).length = ((G.take (j + 1)).flatMap f).length + ((G.drop (j + 1)).flatMap f).length := by
    rw [← List.length_append, ← List.flatMap_append, ← e]
  rw [h2, fm_take f h, List.length_append]
  omega
def tP (n M : Nat) (q0 q : gP) : Bool := q.1 == n && decide (M ≤ cmn q.2 q0.2)
def rA (n M fr : Nat) (q0 q : gP) : List gP := if q = q0 then [(n, q0.2.take M ++ [10 + fr])] else if tP n M q0 q = true then [] else [q]
def rB (n M fr : Nat) (q0 q : gP) : List gP := if tP n M q0 q = true then [(fr, q.2.drop M)] else []
theorem fAB_out {n M fr : Nat} {q0 : gP} : ∀ (G : List gP), q0 ∉ G → (G.flatMap (rA n M fr q0)).length + (G.flatMap (rB n M fr q0)).length = G.length
  | [], _ => rfl
  | q :: G, h => by
    have hq : ¬ q = q0 := fun e => h (by rw [e]; exact List.mem_cons_self)
    have ih := fAB_out G (fun hm => h (List.mem_cons_of_mem _ hm)) (n := n) (M := M) (fr := fr) (q0 := q0)
    simp only [List.flatMap_cons, List.length_append, List.length_cons]
    have : (rA n M fr q0 q).length + (rB n M fr q0 q).length = 1 := by
      unfold rA rB
      rw [if_neg hq]
      split <;> rfl
    omega
theorem fAB_len {n M fr : Nat} {q0 : gP} (h0 : tP n M q0 q0 = true) : ∀ (G : List gP), G.Nodup → (G.flatMap (rA n M fr q0)).length + (G.flatMap (rB n M fr q0)).length ≤ G.length + 1
  | [], _ => by simp
  | q :: G, h => by
    rw [List.nodup_cons] at h
    simp only [List.flatMap_cons, List.length_append, List.length_cons]
    by_cases e : q = q0
    · have ih := fAB_out G (by rw [← e]; exact h.1) (n := n) (M := M) (fr := fr) (q0 := q0)
      have : (rA n M fr q0 q).length + (rB n M fr q0 q).length = 2 := by
        unfold rA rB
        rw [if_pos e, e, if_pos h0]
        rfl
      omega
    · have ih := fAB_len h0 G h.2 (fr := fr)
      have : (rA n M fr q0 q).length + (rB n M fr q0 q).length = 1 := by
        unfold rA rB
        rw [if_neg e]
        split <;> rfl
      omega
variable {codes : Nat → Int32} {count : Int32} {G : List gP}
theorem c_factor (hc : RC codes count G) (hG : okG G) {n M lw fr : Nat} (hn : n < 8) (hlw : lw < G.length) (h1 : shA G n lw = M) (h2 : ∀ p, p < lw → shA G n p ≠ M) (h0 : tP n M (gp G lw) (gp G lw) = true) (hM4 : M ≤ 4) (hfr : fr < 8) (h24 : G.length < 24) (codes0 : Nat → Int32) (count0 : Int32) {N : Nat} (hN : 30 < N) : ∃ codes' count', fX6_factor N codes0 count0 codes count (nI n) (nI M) (nI fr) = some (codes', count') ∧ RC codes' count' (G.flatMap (rA n M fr (gp G lw)) ++ G.flatMap (rB n M fr (gp G lw))) := by
  have hl := hG.1
  have hq0 := okG_gp hG hlw
  have hlen := fAB_len h0 G hG.2.2 (fr := fr)
  have hMl : M ≤ (gp G lw).2.length := by
    unfold tP at h0
    rw [Bool.and_eq_true, decide_eq_true_eq] at h0
    exact Nat.le_trans h0.2 (cmn_le _ _).1
  have hn0 : (gp G lw).1 = n := by
    unfold tP at h0
    rw [Bool.and_eq_true, beq_iff_eq] at h0
    exact h0.1
  simp only [fX6_factor, c_lead hc hG hn hlw h1 h2 hN, obs, fX6_removeAll, jn2]
  rw [if_pos (show (0 : Int32) ≤ nI (enc (gp G lw)) from nI_le (a := 0) (Nat.zero_le _) (enc_lt hq0))]
  generalize hqq : gp G lw = q0 at *
  refine vlp3 (B := bX6_factor_21 N (nI n) (nI M) (nI fr) codes count (nI (enc q0)) fun v3 v4 => itr3 (bX6_factor_102 N (nI n) (nI M) (nI fr) codes count (nI (enc q0)) fun v5 v6 => some (v5, v6)) N 0 v3 v4) (fun j i f c => i = nI j ∧ j ≤ G.length ∧ RC f c ((G.take j).flatMap (rA n M fr q0))) (fun r => ∃ codes' count', r = some (codes', count') ∧ RC codes' count' (G.flatMap (rA n M fr q0) ++ G.flatMap (rB n M fr q0))) G.length ?_ ?_ N 0 codes0 0 (by omega) ⟨rfl, Nat.zero_le _, RC_nil _⟩
  · rintro j i f c hj ⟨rfl, hb, hr⟩
    left
    have hq := okG_gp hG hj
    have hmo := fm_mono (rA n M fr q0) hj
    have base : ∀ rc : Int32 → (Nat → Int32) → Int32 → Option ((Nat → Int32) × Int32), bX6_factor_21 N (nI n) (nI M) (nI fr) codes count (nI (enc q0)) (fun v3 v4 => itr3 (bX6_factor_102 N (nI n) (nI M) (nI fr) codes count (nI (enc q0)) fun v5 v6 => some (v5, v6)) N 0 v3 v4) rc (nI j) f c = if gp G j = q0 then bd2 (fX6_add f c (nI (enc (n, q0.2.take M ++ [10 + fr])))) (fun a b => rc (nI (j + 1)) a b) else if tP n M q0 (gp G j) = true then rc (nI (j + 1)) f c else bd2 (fX6_add f c (nI (enc (gp G j)))) (fun a b => rc (nI (j + 1)) a b) := by
      intro rc
      simp only [bX6_factor_21, jn2, jn_, lt_, nI_1]
      rw [hc.1, if_neg (nI_ge hj (by omega)), ag_ok (show j < 24 by omega), hc.2 j hj, obs]
      by_cases e : gp G j = q0
      · rw [if_pos (by rw [e]), if_pos e, e, c_prefixOf hq0 hMl hN, obs, n10, nI_add, hn0, c_extended (l := n) (w := q0.2.take M) ⟨hn, by show (q0.2.take M).length ≤ 5; rw [List.length_take]; omega, fun s hs => hq0.2.2 s (List.mem_of_mem_take hs)⟩ (by rw [List.length_take]; omega) (Or.inr ⟨by omega, by omega⟩), obs]
      · rw [if_neg (by rw [enc_eq_iff hq hq0]; exact e), if_neg e, c_isOf hq (by omega), obs]
        by_cases en : (gp G j).1 = n
        · rw [if_neg (by rw [en]; simp [b01]), c_common hq hq0 hN, obs]
          have hcm := (cmn_le (gp G j).2 q0.2).1
          have h5 := hq.2.1
          by_cases ec : M ≤ cmn (gp G j).2 q0.2
          · rw [if_pos (nI_le ec (by omega)), if_pos (show tP n M q0 (gp G j) = true by unfold tP; simp [en, ec])]
          · rw [if_neg (nI_ge (by omega) (by omega)), if_neg (show ¬ tP n M q0 (gp G j) = true by unfold tP; simp [ec])]
        · rw [if_pos (by simp [b01, en]), if_neg (show ¬ tP n M q0 (gp G j) = true by unfold tP; simp [en])]
    have hfa := fm_take (rA n M fr q0) hj
    have len24 : ∀ X, rA n M fr q0 (gp G j) = [X] → ((G.take j).flatMap (rA n M fr q0)).length < 24 := fun X hX => by
      rw [hX] at hmo
      have : [X].length = 1 := rfl
      omega
    by_cases e : gp G j = q0
    · have eX : rA n M fr q0 (gp G j) = [(n, q0.2.take M ++ [10 + fr])] := by unfold rA; rw [if_pos e]
      obtain ⟨f', c', a1, a2⟩ := c_add hr (q := (n, q0.2.take M ++ [10 + fr])) (len24 _ eX)
      refine ⟨nI (j + 1), f', c', ⟨rfl, by omega, by rw [hfa, eX]; exact a2⟩, fun rc => ?_⟩
      rw [base, if_pos e, a1]
      rfl
    · by_cases et : tP n M q0 (gp G j) = true
      · have eX : rA n M fr q0 (gp G j) = [] := by unfold rA; rw [if_neg e, if_pos et]
        refine ⟨nI (j + 1), f, c, ⟨rfl, by omega, by rw [hfa, eX, List.append_nil]; exact hr⟩, fun rc => ?_⟩
        rw [base, if_neg e, if_pos et]
      · have eX : rA n M fr q0 (gp G j) = [gp G j] := by unfold rA; rw [if_neg e, if_neg et]
        obtain ⟨f', c', a1, a2⟩ := c_add hr (q := gp G j) (len24 _ eX)
        refine ⟨nI (j + 1), f', c', ⟨rfl, by omega, by rw [hfa, eX]; exact a2⟩, fun rc => ?_⟩
        rw [base, if_neg e, if_neg et, a1]
        rfl
  · rintro i f c ⟨rfl, hb, hr⟩
    rw [List.take_length] at hr
    refine ⟨itr3 (bX6_factor_102 N (nI n) (nI M) (nI fr) codes count (nI (enc q0)) fun v5 v6 => some (v5, v6)) N 0 f c, ?_, fun rc => ?_⟩
    · refine vlp3 (B := bX6_factor_102 N (nI n) (nI M) (nI fr) codes count (nI (enc q0)) fun v5 v6 => some (v5, v6)) (fun j i f c => i = nI j ∧ j ≤ G.length ∧ RC f c (G.flatMap (rA n M fr q0) ++ (G.take j).flatMap (rB n M fr q0))) (fun r => ∃ codes' count', r = some (codes', count') ∧ RC codes' count' (G.flatMap (rA n M fr q0) ++ G.flatMap (rB n M fr q0))) G.length ?_ ?_ N 0 f c (by omega) ⟨rfl, Nat.zero_le _, by rw [List.take_zero, List.flatMap_nil, List.append_nil]; exact hr⟩
      · rintro j i f c hj ⟨rfl, hb, hr⟩
        left
        have hq := okG_gp hG hj
        have h5 := hq.2.1
        have hmo := fm_mono (rB n M fr q0) hj
        have hfb := fm_take (rB n M fr q0) hj
        have hcm := (cmn_le (gp G j).2 q0.2).1
        by_cases et : tP n M q0 (gp G j) = true
        · have eX : rB n M fr q0 (gp G j) = [(fr, (gp G j).2.drop M)] := by unfold rB; rw [if_pos et]
          have et' := et
          unfold tP at et'
          rw [Bool.and_eq_true, beq_iff_eq, decide_eq_true_eq] at et'
          rw [eX] at hmo
          have l1 : [(fr, (gp G j).2.drop M)].length = 1 := rfl
          obtain ⟨f', c', a1, a2⟩ := c_add hr (q := (fr, (gp G j).2.drop M)) (by rw [List.length_append]; omega)
          refine ⟨nI (j + 1), f', c', ⟨rfl, by omega, by rw [hfb, eX, ← List.append_assoc]; exact a2⟩, fun rc => ?_⟩
          simp only [bX6_factor_102, jn2, lt_, nI_1]
          rw [hc.1, if_neg (nI_ge hj (by omega)), ag_ok (show j < 24 by omega), hc.2 j hj, obs, c_isOf hq (by omega), obs, if_neg (by rw [et'.1]; simp [b01]), c_common hq hq0 hN, obs, if_neg (nI_nlt et'.2 (by omega)), c_suffixOf hq (by omega) hfr hN, obs, a1]
          rfl
        · have eX : rB n M fr q0 (gp G j) = [] := by unfold rB; rw [if_neg et]
          refine ⟨nI (j + 1), f, c, ⟨rfl, by omega, by rw [hfb, eX, List.append_nil]; exact hr⟩, fun rc => ?_⟩
          simp only [bX6_factor_102, jn2, lt_, nI_1]
          rw [hc.1, if_neg (nI_ge hj (by omega)), ag_ok (show j < 24 by omega), hc.2 j hj, obs, c_isOf hq (by omega), obs]
          by_cases en : (gp G j).1 = n
          · rw [if_neg (by rw [en]; simp [b01]), c_common hq hq0 hN, obs, if_pos (nI_lt (by
              by_cases ec : M ≤ cmn (gp G j).2 q0.2
              · exact absurd (show tP n M q0 (gp G j) = true by unfold tP; simp [en, ec]) et
              · omega) (by omega))]
          · rw [if_pos (by simp [b01, en])]
      · rintro i f c ⟨rfl, hb, hr⟩
        rw [List.take_length] at hr
        refine ⟨_, ⟨f, c, rfl, hr⟩, fun rc => ?_⟩
        simp only [bX6_factor_102]
        rw [hc.1, if_pos (Int32.le_refl _)]
    · simp only [bX6_factor_21]
      rw [hc.1, if_pos (Int32.le_refl _)]
end FA
