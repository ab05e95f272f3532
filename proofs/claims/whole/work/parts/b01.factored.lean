/-! THE FACTORED GRAMMAR: the same on both sides, and well formed -/
section FG
variable {n M fr lw : Nat} {q0 : gP} {G : List gP}
theorem rA_keep : ∀ A : List gP, (∀ q ∈ A, q ≠ q0 ∧ tP n M q0 q = false) → A.flatMap (rA n M fr q0) = A
  | [], _ => rfl
  | q :: A, h => by
    obtain ⟨h1, h2⟩ := h q List.mem_cons_self
    rw [List.flatMap_cons, rA_keep A (fun r hr => h r (List.mem_cons_of_mem _ hr))]
    unfold rA
    rw [if_neg h1, if_neg (by rw [h2]; decide)]
    rfl
theorem rA_filter : ∀ A : List gP, q0 ∉ A → A.flatMap (rA n M fr q0) = A.filter fun q => !tP n M q0 q
  | [], _ => rfl
  | q :: A, h => by
    have h1 : ¬ q = q0 := fun e => h (by rw [e]; exact List.mem_cons_self)
    rw [List.flatMap_cons, rA_filter A (fun hr => h (List.mem_cons_of_mem _ hr)), List.filter_cons]
    unfold rA
    rw [if_neg h1]
    cases tP n M q0 q <;> rfl
theorem fac_A (hG : okG G) (hlw : lw < G.length) (hb4 : ∀ p, p < lw → tP n M (gp G lw) (gp G p) = false) : (dpL (fun q => !tP n M (gp G lw) q) G (lw + 1)).set lw (n, (gp G lw).2.take M ++ [10 + fr]) = G.flatMap (rA n M fr (gp G lw)) := by
  have eG : G = G.take lw ++ gp G lw :: G.drop (lw + 1) := by rw [← drop_gp hlw, List.take_append_drop]
  have hl : (G.take lw).length = lw := by rw [List.length_take]; omega
  have hnd := hG.2.2
  rw [eG, List.nodup_append, List.nodup_cons] at hnd
  obtain ⟨_, ⟨nd1, _⟩, nd2⟩ := hnd
  have nd3 : ∀ q ∈ G.take lw, q ≠ gp G lw := fun q hq => nd2 q hq _ List.mem_cons_self
  have hk : ∀ q ∈ G.take lw, tP n M (gp G lw) q = false := fun q hq => by
    obtain ⟨p, hp, e⟩ := List.getElem_of_mem hq
    have : gp G p = q := by
      rw [← e, List.getElem_take]
      simp [gp, List.getD, show p < G.length by omega]
    rw [← this]
    exact hb4 p (by omega)
  have e2 : G.flatMap (rA n M fr (gp G lw)) = (G.take lw ++ gp G lw :: G.drop (lw + 1)).flatMap (rA n M fr (gp G lw)) := by rw [← eG]
  rw [e2]
  unfold dpL
  rw [take_gp hlw]
  generalize gp G lw = q0 at *
  rw [List.flatMap_append, List.flatMap_cons, rA_keep _ (fun q hq => ⟨nd3 q hq, hk q hq⟩), rA_filter _ nd1, List.append_assoc, List.set_append, if_neg (by omega), hl, Nat.sub_self]
  have : rA n M fr q0 q0 = [(n, q0.2.take M ++ [10 + fr])] := by unfold rA; rw [if_pos rfl]
  rw [this]
  rfl
theorem fac_B : ∀ G : List gP, ((G.flatMap (fMv n M q0)).map fun w => (fr, w)) = G.flatMap (rB n M fr q0)
  | [] => rfl
  | q :: G => by
    rw [List.flatMap_cons, List.flatMap_cons, List.map_append, fac_B G]
    congr 1
    unfold fMv rB
    split <;> rfl
theorem tP_pre (hq0 : tP n M q0 q0 = true) {q : gP} (h : tP n M q0 q = true) : q.1 = n ∧ M ≤ q.2.length ∧ q.2.take M = q0.2.take M := by
  unfold tP at h
  rw [Bool.and_eq_true, beq_iff_eq, decide_eq_true_eq] at h
  have := (cmn_le q.2 q0.2).1
  exact ⟨h.1, by omega, cmn_take _ _ _ h.2⟩
theorem fac_ok (hG : okG G) (h24 : G.length < 24) (hq0 : q0 ∈ G) (h0 : tP n M q0 q0 = true) (hM4 : M ≤ 4) (hn : n < 8) (hfr : fr < 8) (hfn : fr ≠ n) (hf : ∀ q ∈ G, q.1 ≠ fr ∧ 10 + fr ∉ q.2) : okG (G.flatMap (rA n M fr q0) ++ G.flatMap (rB n M fr q0)) := by
  have hA : ∀ a ∈ G, ∀ x ∈ rA n M fr q0 a, (a = q0 ∧ x = (n, q0.2.take M ++ [10 + fr])) ∨ (a ≠ q0 ∧ tP n M q0 a = false ∧ x = a) := by
    intro a ha x hx
    unfold rA at hx
    by_cases e : a = q0
    · rw [if_pos e, List.mem_singleton] at hx
      exact Or.inl ⟨e, hx⟩
    · rw [if_neg e] at hx
      cases ht : tP n M q0 a with
      | true => rw [ht, if_pos rfl] at hx; exact absurd hx (by simp)
      | false => rw [ht, if_neg (by decide), List.mem_singleton] at hx; exact Or.inr ⟨e, rfl, hx⟩
  have hB : ∀ a ∈ G, ∀ x ∈ rB n M fr q0 a, tP n M q0 a = true ∧ x = (fr, a.2.drop M) := by
    intro a ha x hx
    unfold rB at hx
    cases ht : tP n M q0 a with
    | true => rw [ht, if_pos rfl, List.mem_singleton] at hx; exact ⟨rfl, hx⟩
    | false => rw [ht, if_neg (by decide)] at hx; exact absurd hx (by simp)
  have hlen := fAB_len h0 G hG.2.2 (fr := fr)
  have oq0 := hG.2.1 q0 hq0
  refine ⟨by rw [List.length_append]; omega, fun q hq => ?_, ?_⟩
  · rcases List.mem_append.mp hq with hq | hq
    · obtain ⟨a, ha, hx⟩ := List.mem_flatMap.mp hq
      rcases hA a ha q hx with ⟨_, rfl⟩ | ⟨_, _, rfl⟩
      · refine ⟨hn, ?_, fun s hs => ?_⟩
        · show (q0.2.take M ++ [10 + fr]).length ≤ 5
          rw [List.length_append, List.length_take, List.length_singleton]; omega
        · rcases List.mem_append.mp (show s ∈ q0.2.take M ++ [10 + fr] from hs) with hs | hs
          · exact oq0.2.2 s (List.mem_of_mem_take hs)
          · rw [List.mem_singleton] at hs
            exact Or.inr ⟨by omega, by omega⟩
      · exact hG.2.1 q ha
    · obtain ⟨a, ha, hx⟩ := List.mem_flatMap.mp hq
      obtain ⟨_, rfl⟩ := hB a ha q hx
      have oa := hG.2.1 a ha
      refine ⟨hfr, ?_, fun s hs => oa.2.2 s (List.mem_of_mem_drop hs)⟩
      show (a.2.drop M).length ≤ 5
      have := oa.2.1
      rw [List.length_drop]; omega
  · rw [List.nodup_append]
    refine ⟨?_, ?_, fun x hx y hy => ?_⟩
    · unfold List.Nodup
      rw [List.pairwise_flatMap]
      refine ⟨fun a ha => ?_, List.Pairwise.imp_of_mem (R := fun a b => a ≠ b) ?_ hG.2.2⟩
      · unfold rA
        split
        · simp
        · split <;> simp
      · intro a b ha hb hab x hx y hy
        rcases hA a ha x hx with ⟨e1, rfl⟩ | ⟨_, _, rfl⟩
        · rcases hA b hb y hy with ⟨e2, rfl⟩ | ⟨_, _, rfl⟩
          · exact absurd (e1.trans e2.symm) hab
          · intro e
            refine (hf y hb).2 ?_
            rw [← e]
            exact List.mem_append.mpr (Or.inr (List.mem_singleton.mpr rfl))
        · rcases hA b hb y hy with ⟨e2, rfl⟩ | ⟨_, _, rfl⟩
          · intro e
            refine (hf x ha).2 ?_
            rw [e]
            exact List.mem_append.mpr (Or.inr (List.mem_singleton.mpr rfl))
          · exact hab
    · unfold List.Nodup
      rw [List.pairwise_flatMap]
      refine ⟨fun a ha => ?_, List.Pairwise.imp_of_mem (R := fun a b => a ≠ b) ?_ hG.2.2⟩
      · unfold rB
        split <;> simp
      · intro a b ha hb hab x hx y hy
        obtain ⟨t1, rfl⟩ := hB a ha x hx
        obtain ⟨t2, rfl⟩ := hB b hb y hy
        intro e
        obtain ⟨c1, c2, c3⟩ := tP_pre h0 t1
        obtain ⟨d1, d2, d3⟩ := tP_pre h0 t2
        have e2 : a.2.drop M = b.2.drop M := congrArg Prod.snd e
        refine hab (Prod.ext (by rw [c1, d1]) ?_)
        rw [← List.take_append_drop M a.2, ← List.take_append_drop M b.2, c3, d3, e2]
    · obtain ⟨b, hb, hyb⟩ := List.mem_flatMap.mp hy
      obtain ⟨_, rfl⟩ := hB b hb y hyb
      obtain ⟨a, ha, hxa⟩ := List.mem_flatMap.mp hx
      intro e
      rcases hA a ha x hxa with ⟨_, rfl⟩ | ⟨_, _, rfl⟩
      · exact hfn (congrArg Prod.fst e).symm
      · exact (hf x ha).1 (congrArg Prod.fst e)
end FG
