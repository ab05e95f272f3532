/-! THE CLASS'S removal of left recursion, and the grammar that comes of it -/
def rcP (n : Nat) (q : gP) : Bool := q.1 == n && recP q
def tA (n fr : Nat) (q : gP) : List gP := if q.1 = n then (if recP q = true then [] else [(q.1, q.2 ++ [10 + fr])]) else [q]
def tB (n fr : Nat) (q : gP) : List gP := if rcP n q = true then [(fr, q.2.drop 1 ++ [10 + fr])] else []
theorem tAB_len (n fr : Nat) : ∀ G : List gP, (G.flatMap (tA n fr)).length + (G.flatMap (tB n fr)).length = G.length
  | [] => rfl
  | q :: G => by
    have ih := tAB_len n fr G
    simp only [List.flatMap_cons, List.length_append, List.length_cons]
    have : (tA n fr q).length + (tB n fr q).length = 1 := by
      unfold tA tB rcP
      by_cases e : q.1 = n
      · rw [if_pos e]
        cases h : recP q <;> simp [e]
      · rw [if_neg e]
        simp [e]
    omega
section TU
variable {codes : Nat → Int32} {count : Int32} {G : List gP}
theorem c_turn (hc : RC codes count G) (hG : okG G) {n fr : Nat} (hn : n < 8) (hfr : fr < 8) (hfil : ∀ p, p < G.length → filP G n p = false) (h24 : G.length < 24) (codes0 : Nat → Int32) (count0 : Int32) {N : Nat} (hN : 30 < N) : ∃ codes' count', fX6_turnRecursion N codes0 count0 codes count (nI n) (nI fr) = some (codes', count') ∧ RC codes' count' ((G.flatMap (tA n fr) ++ G.flatMap (tB n fr)) ++ [(fr, [])]) := by
  have hl := hG.1
  have hlen := tAB_len n fr G
  have x10 : (10 : Int32) + nI fr = nI (10 + fr) := by rw [n10, nI_add]
  have sfr : okS (10 + fr) := Or.inr ⟨by omega, by omega⟩
  simp only [fX6_turnRecursion, lt_, fX6_removeAll, obs, jn2, x10]
  refine vlp3 (B := bX6_turnRecursion_13 (nI n) codes count (nI (10 + fr)) fun v3 v4 => itr3 (bX6_turnRecursion_77 N (nI n) (nI fr) codes count (nI (10 + fr)) fun v5 v6 => (fX6_emptyOf (nI fr)).bind fun x7 => bd2 (fX6_add v5 v6 x7) fun o8 o9 => some (o8, o9)) N 0 v3 v4) (fun j i f c => i = nI j ∧ j ≤ G.length ∧ RC f c ((G.take j).flatMap (tA n fr))) (fun r => ∃ codes' count', r = some (codes', count') ∧ RC codes' count' ((G.flatMap (tA n fr) ++ G.flatMap (tB n fr)) ++ [(fr, [])])) G.length ?_ ?_ N 0 codes0 0 (by omega) ⟨rfl, Nat.zero_le _, RC_nil _⟩
  · rintro j i f c hj ⟨rfl, hb, hr⟩
    left
    have hq := okG_gp hG hj
    have h5 := hq.2.1
    have hmo := fm_mono (tA n fr) hj
    have hfa := fm_take (tA n fr) hj
    have len24 : ∀ X, tA n fr (gp G j) = [X] → ((G.take j).flatMap (tA n fr)).length < 24 := fun X hX => by
      rw [hX] at hmo
      have : [X].length = 1 := rfl
      omega
    by_cases en : (gp G j).1 = n
    · cases er : recP (gp G j) with
      | true =>
        have eX : tA n fr (gp G j) = [] := by unfold tA; rw [if_pos en, er]; rfl
        refine ⟨nI (j + 1), f, c, ⟨rfl, by omega, by rw [hfa, eX, List.append_nil]; exact hr⟩, fun rc => ?_⟩
        simp only [bX6_turnRecursion_13, jn2, lt_, nI_1]
        rw [hc.1, if_neg (nI_ge hj (by omega)), ag_ok (show j < 24 by omega), hc.2 j hj, obs, c_isOf hq (by omega), obs, if_neg (by rw [en]; simp [b01]), c_isRecursive hq, obs, er, if_neg (by decide)]
      | false =>
        have h4 : (gp G j).2.length ≤ 4 := by
          have := hfil j hj
          unfold filP at this
          rw [er] at this
          have hne : (gp G j).2.length ≠ 5 := by
            intro e
            rw [en, e] at this
            simp at this
          omega
        have eX : tA n fr (gp G j) = [((gp G j).1, (gp G j).2 ++ [10 + fr])] := by unfold tA; rw [if_pos en, er]; rfl
        obtain ⟨f', c', a1, a2⟩ := c_add hr (q := ((gp G j).1, (gp G j).2 ++ [10 + fr])) (len24 _ eX)
        refine ⟨nI (j + 1), f', c', ⟨rfl, by omega, by rw [hfa, eX]; exact a2⟩, fun rc => ?_⟩
        simp only [bX6_turnRecursion_13, jn2, lt_, nI_1]
        rw [hc.1, if_neg (nI_ge hj (by omega)), ag_ok (show j < 24 by omega), hc.2 j hj, obs, c_isOf hq (by omega), obs, if_neg (by rw [en]; simp [b01]), c_isRecursive hq, obs, er, if_pos (by rfl), c_extended (l := (gp G j).1) (w := (gp G j).2) hq h4 sfr, obs, a1]
        rfl
    · have eX : tA n fr (gp G j) = [gp G j] := by unfold tA; rw [if_neg en]
      obtain ⟨f', c', a1, a2⟩ := c_add hr (q := gp G j) (len24 _ eX)
      refine ⟨nI (j + 1), f', c', ⟨rfl, by omega, by rw [hfa, eX]; exact a2⟩, fun rc => ?_⟩
      simp only [bX6_turnRecursion_13, jn2, lt_, nI_1]
      rw [hc.1, if_neg (nI_ge hj (by omega)), ag_ok (show j < 24 by omega), hc.2 j hj, obs, c_isOf hq (by omega), obs, if_pos (by simp [b01, en]), a1]
      rfl
  · rintro i f c ⟨rfl, hb, hr⟩
    rw [List.take_length] at hr
    refine ⟨itr3 (bX6_turnRecursion_77 N (nI n) (nI fr) codes count (nI (10 + fr)) fun v5 v6 => (fX6_emptyOf (nI fr)).bind fun x7 => bd2 (fX6_add v5 v6 x7) fun o8 o9 => some (o8, o9)) N 0 f c, ?_, fun rc => ?_⟩
    · refine vlp3 (B := bX6_turnRecursion_77 N (nI n) (nI fr) codes count (nI (10 + fr)) fun v5 v6 => (fX6_emptyOf (nI fr)).bind fun x7 => bd2 (fX6_add v5 v6 x7) fun o8 o9 => some (o8, o9)) (fun j i f c => i = nI j ∧ j ≤ G.length ∧ RC f c (G.flatMap (tA n fr) ++ (G.take j).flatMap (tB n fr))) (fun r => ∃ codes' count', r = some (codes', count') ∧ RC codes' count' ((G.flatMap (tA n fr) ++ G.flatMap (tB n fr)) ++ [(fr, [])])) G.length ?_ ?_ N 0 f c (by omega) ⟨rfl, Nat.zero_le _, by rw [List.take_zero, List.flatMap_nil, List.append_nil]; exact hr⟩
      · rintro j i f c hj ⟨rfl, hb, hr⟩
        left
        have hq := okG_gp hG hj
        have h5 := hq.2.1
        have hmo := fm_mono (tB n fr) hj
        have hfb := fm_take (tB n fr) hj
        by_cases et : rcP n (gp G j) = true
        · have eX : tB n fr (gp G j) = [(fr, (gp G j).2.drop 1 ++ [10 + fr])] := by unfold tB; rw [if_pos et]
          have et' := et
          unfold rcP at et'
          rw [Bool.and_eq_true, beq_iff_eq] at et'
          have h1 : 1 ≤ (gp G j).2.length := by
            have := et'.2
            unfold recP at this
            rw [Bool.and_eq_true, decide_eq_true_eq] at this
            exact this.1
          have hdl : ((gp G j).2.drop 1).length = (gp G j).2.length - 1 := List.length_drop
          rw [eX] at hmo
          have l1 : [(fr, (gp G j).2.drop 1 ++ [10 + fr])].length = 1 := rfl
          obtain ⟨f', c', a1, a2⟩ := c_add hr (q := (fr, (gp G j).2.drop 1 ++ [10 + fr])) (by rw [List.length_append]; omega)
          have hp : okP (fr, (gp G j).2.drop 1) := ⟨hfr, by show ((gp G j).2.drop 1).length ≤ 5; omega, fun s hs => hq.2.2 s (List.mem_of_mem_drop hs)⟩
          have hs1 : fX6_suffixOf N (nI (enc (gp G j))) 1 (nI fr) = some (nI (enc (fr, (gp G j).2.drop 1))) := c_suffixOf (a := 1) hq h1 hfr hN
          refine ⟨nI (j + 1), f', c', ⟨rfl, by omega, by rw [hfb, eX, ← List.append_assoc]; exact a2⟩, fun rc => ?_⟩
          simp only [bX6_turnRecursion_77, jn2, lt_, nI_1]
          rw [hc.1, if_neg (nI_ge hj (by omega)), ag_ok (show j < 24 by omega), hc.2 j hj, obs, c_isOf hq (by omega), obs, if_neg (by rw [et'.1]; simp [b01]), c_isRecursive hq, obs, et'.2, if_neg (by decide), hs1, obs, c_extended hp (by omega) sfr, obs, a1]
          rfl
        · have eX : tB n fr (gp G j) = [] := by unfold tB; rw [if_neg et]
          refine ⟨nI (j + 1), f, c, ⟨rfl, by omega, by rw [hfb, eX, List.append_nil]; exact hr⟩, fun rc => ?_⟩
          simp only [bX6_turnRecursion_77, jn2, lt_, nI_1]
          rw [hc.1, if_neg (nI_ge hj (by omega)), ag_ok (show j < 24 by omega), hc.2 j hj, obs, c_isOf hq (by omega), obs]
          by_cases en : (gp G j).1 = n
          · have er : recP (gp G j) = false := by
              cases h : recP (gp G j) with
              | false => rfl
              | true => exact absurd (show rcP n (gp G j) = true by unfold rcP; rw [h]; simp [en]) et
            rw [if_neg (by rw [en]; simp [b01]), c_isRecursive hq, obs, er, if_pos (by rfl)]
          · rw [if_pos (by simp [b01, en])]
      · rintro i f c ⟨rfl, hb, hr⟩
        rw [List.take_length] at hr
        obtain ⟨f', c', a1, a2⟩ := c_add hr (q := (fr, [])) (by rw [List.length_append]; omega)
        refine ⟨_, ⟨f', c', rfl, a2⟩, fun rc => ?_⟩
        simp only [bX6_turnRecursion_77]
        have e0 : nI (enc (fr, [])) = nI fr := rfl
        rw [hc.1, if_pos (Int32.le_refl _)]
        simp only [fX6_emptyOf, obs]
        rw [← e0, a1]
        rfl
    · simp only [bX6_turnRecursion_13]
      rw [hc.1, if_pos (Int32.le_refl _)]
end TU
section TG
variable {n fr : Nat} {G : List gP}
theorem recP_pos {q : gP} (h : recP q = true) : 0 < q.2.length ∧ sy q.2 0 = 10 + q.1 := by
  unfold recP at h
  rw [Bool.and_eq_true, decide_eq_true_eq, beq_iff_eq] at h
  exact h
theorem cons_sy {w : List Nat} (h : 0 < w.length) : w = sy w 0 :: w.drop 1 := by
  cases w with
  | nil => exact absurd h (by simp)
  | cons a r => rfl
theorem turn_ok (hG : okG G) (h24 : G.length < 24) (hn : n < 8) (hfr : fr < 8) (hfn : fr ≠ n) (hfil : ∀ p, p < G.length → filP G n p = false) (hf : ∀ q ∈ G, q.1 ≠ fr ∧ 10 + fr ∉ q.2) : okG ((G.flatMap (tA n fr) ++ G.flatMap (tB n fr)) ++ [(fr, [])]) := by
  have sfr : okS (10 + fr) := Or.inr ⟨by omega, by omega⟩
  have hA : ∀ a ∈ G, ∀ x ∈ tA n fr a, (a.1 = n ∧ recP a = false ∧ x = (a.1, a.2 ++ [10 + fr])) ∨ (a.1 ≠ n ∧ x = a) := by
    intro a ha x hx
    unfold tA at hx
    by_cases e : a.1 = n
    · rw [if_pos e] at hx
      cases hr : recP a with
      | true => rw [hr, if_pos rfl] at hx; exact absurd hx (by simp)
      | false => rw [hr, if_neg (by decide), List.mem_singleton] at hx; exact Or.inl ⟨e, rfl, hx⟩
    · rw [if_neg e, List.mem_singleton] at hx
      exact Or.inr ⟨e, hx⟩
  have hB : ∀ a ∈ G, ∀ x ∈ tB n fr a, a.1 = n ∧ recP a = true ∧ x = (fr, a.2.drop 1 ++ [10 + fr]) := by
    intro a ha x hx
    unfold tB at hx
    cases ht : rcP n a with
    | true =>
      rw [ht, if_pos rfl, List.mem_singleton] at hx
      unfold rcP at ht
      rw [Bool.and_eq_true, beq_iff_eq] at ht
      exact ⟨ht.1, ht.2, hx⟩
    | false => rw [ht, if_neg (by decide)] at hx; exact absurd hx (by simp)
  have h4 : ∀ a ∈ G, a.1 = n → recP a = false → a.2.length ≤ 4 := by
    intro a ha e1 e2
    obtain ⟨p, hp, e⟩ := List.getElem_of_mem ha
    have eg : gp G p = a := by rw [← e]; simp [gp, List.getD, hp]
    have := hfil p hp
    unfold filP at this
    rw [eg, e2] at this
    have h5 := (hG.2.1 a ha).2.1
    have hne : a.2.length ≠ 5 := by
      intro e
      rw [e1, e] at this
      simp at this
    omega
  have hlen := tAB_len n fr G
  have app_inj : ∀ a b : List Nat, a ++ [10 + fr] = b ++ [10 + fr] → a = b := fun a b h => List.append_cancel_right h
  refine ⟨by rw [List.length_append, List.length_append, List.length_singleton]; omega, fun q hq => ?_, ?_⟩
  · rcases List.mem_append.mp hq with hq | hq
    · rcases List.mem_append.mp hq with hq | hq
      · obtain ⟨a, ha, hx⟩ := List.mem_flatMap.mp hq
        have oa := hG.2.1 a ha
        rcases hA a ha q hx with ⟨e1, e2, rfl⟩ | ⟨_, rfl⟩
        · refine ⟨oa.1, ?_, fun s hs => ?_⟩
          · show (a.2 ++ [10 + fr]).length ≤ 5
            have := h4 a ha e1 e2
            rw [List.length_append, List.length_singleton]; omega
          · rcases List.mem_append.mp (show s ∈ a.2 ++ [10 + fr] from hs) with hs | hs
            · exact oa.2.2 s hs
            · rw [List.mem_singleton.mp hs]; exact sfr
        · exact oa
      · obtain ⟨a, ha, hx⟩ := List.mem_flatMap.mp hq
        have oa := hG.2.1 a ha
        obtain ⟨_, e2, rfl⟩ := hB a ha q hx
        have h1 := (recP_pos e2).1
        refine ⟨hfr, ?_, fun s hs => ?_⟩
        · show (a.2.drop 1 ++ [10 + fr]).length ≤ 5
          have := oa.2.1
          rw [List.length_append, List.length_drop, List.length_singleton]; omega
        · rcases List.mem_append.mp (show s ∈ a.2.drop 1 ++ [10 + fr] from hs) with hs | hs
          · exact oa.2.2 s (List.mem_of_mem_drop hs)
          · rw [List.mem_singleton.mp hs]; exact sfr
    · rw [List.mem_singleton.mp hq]
      exact ⟨hfr, Nat.zero_le _, fun s hs => absurd hs (by simp)⟩
  · have ndA : (G.flatMap (tA n fr)).Nodup := by
      unfold List.Nodup
      rw [List.pairwise_flatMap]
      refine ⟨fun a ha => ?_, List.Pairwise.imp_of_mem (R := fun a b => a ≠ b) ?_ hG.2.2⟩
      · unfold tA
        split
        · split <;> simp
        · simp
      · intro a b ha hb hab x hx y hy
        rcases hA a ha x hx with ⟨e1, e2, rfl⟩ | ⟨e1, rfl⟩
        · rcases hA b hb y hy with ⟨d1, d2, rfl⟩ | ⟨d1, rfl⟩
          · intro e
            exact hab (Prod.ext (Prod.mk.inj e).1 (app_inj _ _ (Prod.mk.inj e).2))
          · intro e
            refine (hf y hb).2 ?_
            rw [← e]
            exact List.mem_append.mpr (Or.inr (List.mem_singleton.mpr rfl))
        · rcases hA b hb y hy with ⟨d1, d2, rfl⟩ | ⟨d1, rfl⟩
          · intro e
            refine (hf x ha).2 ?_
            rw [e]
            exact List.mem_append.mpr (Or.inr (List.mem_singleton.mpr rfl))
          · exact hab
    have ndB : (G.flatMap (tB n fr)).Nodup := by
      unfold List.Nodup
      rw [List.pairwise_flatMap]
      refine ⟨fun a ha => ?_, List.Pairwise.imp_of_mem (R := fun a b => a ≠ b) ?_ hG.2.2⟩
      · unfold tB
        split <;> simp
      · intro a b ha hb hab x hx y hy
        obtain ⟨e1, e2, rfl⟩ := hB a ha x hx
        obtain ⟨d1, d2, rfl⟩ := hB b hb y hy
        intro e
        obtain ⟨p1, p2⟩ := recP_pos e2
        obtain ⟨r1, r2⟩ := recP_pos d2
        refine hab (Prod.ext (by rw [e1, d1]) ?_)
        rw [cons_sy p1, cons_sy r1, p2, r2, e1, d1, app_inj _ _ (congrArg Prod.snd e)]
    have fA : ∀ x ∈ G.flatMap (tA n fr), x.1 ≠ fr := fun x hx => by
      obtain ⟨a, ha, hxa⟩ := List.mem_flatMap.mp hx
      rcases hA a ha x hxa with ⟨e1, e2, rfl⟩ | ⟨e1, rfl⟩
      · exact (hf a ha).1
      · exact (hf x ha).1
    rw [List.nodup_append, List.nodup_append]
    refine ⟨⟨ndA, ndB, fun x hx y hy => ?_⟩, by simp, fun x hx y hy => ?_⟩
    · obtain ⟨b, hb, hyb⟩ := List.mem_flatMap.mp hy
      obtain ⟨_, _, rfl⟩ := hB b hb y hyb
      exact fun e => fA x hx (congrArg Prod.fst e)
    · rw [List.mem_singleton] at hy
      subst hy
      rcases List.mem_append.mp hx with hx | hx
      · exact fun e => fA x hx (congrArg Prod.fst e)
      · obtain ⟨b, hb, hyb⟩ := List.mem_flatMap.mp hx
        obtain ⟨_, _, rfl⟩ := hB b hb x hyb
        intro e
        exact absurd (congrArg Prod.snd e) (by simp)
/-- what a row becomes before rows are dropped -/
def uP (n fr : Nat) (q : gP) : gP := if q.1 = n ∧ recP q = false then (q.1, q.2 ++ [10 + fr]) else q
theorem recP_uP (hfn : fr ≠ n) (q : gP) : rcP n (uP n fr q) = rcP n q := by
  unfold uP
  by_cases e : q.1 = n ∧ recP q = false
  · rw [if_pos e]
    have h1 : rcP n q = false := by unfold rcP; rw [e.2, Bool.and_false]
    rw [h1]
    cases hr : rcP n (q.1, q.2 ++ [10 + fr]) with
    | false => rfl
    | true =>
      exfalso
      unfold rcP at hr
      rw [Bool.and_eq_true] at hr
      obtain ⟨p1, p2⟩ := recP_pos hr.2
      have p2' : sy (q.2 ++ [10 + fr]) 0 = 10 + q.1 := p2
      by_cases h0 : 0 < q.2.length
      · rw [sy_app_l h0] at p2'
        have := e.2
        unfold recP at this
        rw [decide_eq_true h0, Bool.true_and, beq_eq_false_iff_ne] at this
        exact this p2'
      · have hz : q.2 = [] := List.eq_nil_of_length_eq_zero (by omega)
        rw [hz] at p2'
        have : 10 + fr = 10 + q.1 := p2'
        rw [e.1] at this
        omega
  · rw [if_neg e]
theorem turn_A (hfn : fr ≠ n) : ∀ G : List gP, (G.map (uP n fr)).filter (fun q => !rcP n q) = G.flatMap (tA n fr)
  | [] => rfl
  | q :: G => by
    rw [List.map_cons, List.filter_cons, List.flatMap_cons, turn_A hfn G, recP_uP hfn]
    unfold tA uP rcP
    by_cases e : q.1 = n
    · cases h : recP q <;> simp [e]
    · simp [e]
def fMr (n : Nat) (q : gP) : List (List Nat) := if rcP n q = true then [q.2.drop 1] else []
theorem turn_B : ∀ G : List gP, ((G.flatMap (fMr n)).map fun w => (fr, w ++ [10 + fr])) = G.flatMap (tB n fr)
  | [] => rfl
  | q :: G => by
    rw [List.flatMap_cons, List.flatMap_cons, List.map_append, turn_B G]
    congr 1
    unfold fMr tB
    split <;> rfl
theorem uP_ok (hG : okG G) (hn : n < 8) (hfr : fr < 8) (hfil : ∀ p, p < G.length → filP G n p = false) (hf : ∀ q ∈ G, q.1 ≠ fr ∧ 10 + fr ∉ q.2) : okG (G.map (uP n fr)) := by
  refine ⟨by rw [List.length_map]; exact hG.1, fun q hq => ?_, ?_⟩
  · obtain ⟨a, ha, rfl⟩ := List.mem_map.mp hq
    have oa := hG.2.1 a ha
    unfold uP
    by_cases e : a.1 = n ∧ recP a = false
    · rw [if_pos e]
      obtain ⟨p, hp, ep⟩ := List.getElem_of_mem ha
      have eg : gp G p = a := by rw [← ep]; simp [gp, List.getD, hp]
      have := hfil p hp
      unfold filP at this
      rw [eg, e.2] at this
      have hne : a.2.length ≠ 5 := by
        intro e5
        rw [e.1, e5] at this
        simp at this
      have h5 := oa.2.1
      refine ⟨oa.1, ?_, fun s hs => ?_⟩
      · show (a.2 ++ [10 + fr]).length ≤ 5
        rw [List.length_append, List.length_singleton]; omega
      · rcases List.mem_append.mp (show s ∈ a.2 ++ [10 + fr] from hs) with hs | hs
        · exact oa.2.2 s hs
        · rw [List.mem_singleton.mp hs]; exact Or.inr ⟨by omega, by omega⟩
    · rw [if_neg e]; exact oa
  · unfold List.Nodup
    rw [List.pairwise_map]
    refine List.Pairwise.imp_of_mem (R := fun a b => a ≠ b) ?_ hG.2.2
    intro a b ha hb hab e
    unfold uP at e
    by_cases e1 : a.1 = n ∧ recP a = false
    · by_cases e2 : b.1 = n ∧ recP b = false
      · rw [if_pos e1, if_pos e2] at e
        exact hab (Prod.ext (Prod.mk.inj e).1 (List.append_cancel_right (Prod.mk.inj e).2))
      · rw [if_pos e1, if_neg e2] at e
        refine (hf b hb).2 ?_
        rw [← e]
        exact List.mem_append.mpr (Or.inr (List.mem_singleton.mpr rfl))
    · by_cases e2 : b.1 = n ∧ recP b = false
      · rw [if_neg e1, if_pos e2] at e
        refine (hf a ha).2 ?_
        rw [e]
        exact List.mem_append.mpr (Or.inr (List.mem_singleton.mpr rfl))
      · rw [if_neg e1, if_neg e2] at e
        exact hab e
end TG
