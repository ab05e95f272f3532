/-! THE CLASS'S findLeastInsertions; the kept word -/
def KP (c : Nat → Int32) (h l : Nat → Int64) (x : wW) : Prop := ∃ wt, wt9 wt ∧ c 1468 = nI (cN wt x.1) ∧ h 1468 = hI x.1 ∧ l 1468 = lI x.1
section CL
variable {wt : Nat → Nat} {I : List Nat} {G : List gP} {K : Int32 × Int64 × Int64}
theorem RepI_congr {a b a' b' : Nat} (hS : ∀ m e, Sd I.length a b m e ↔ Sd I.length a' b' m e) {c : Nat → Int32} {h l : Nat → Int64} (hP : RepI wt I G K a b c h l) : RepI wt I G K a' b' c h l := by
  obtain ⟨ω, v, R, hRW, hup, hcl, hno⟩ := hP
  exact ⟨ω, v, R, fun m e hme => hRW m e ((hS m e).mpr hme), hup, fun m e hme => hcl m e ((hS m e).mpr hme), fun m e hm he hn => hno m e hm he (fun z => hn ((hS m e).mp z))⟩
theorem kp_read {c : Nat → Int32} {h l : Nat → Int64} {x : wW} (hk : KP c h l x) (k : Int32) : fX10_lengthOf 1469 c 1468 = some (wlI x.1) ∧ fX10_terminalOf 1469 c h l 1468 k = some (wtI x.1 k) := by
  obtain ⟨wt, hw, k1, k2, k3⟩ := hk
  have R2 : WS wt 1469 (fun _ => c 1468) (fun _ => h 1468) (fun _ => l 1468) (fun _ => x) := fun w hw => ⟨k1, k2, k3⟩
  have hi : 1468 < 1469 := by decide
  have e1 := w_lengthOf hw R2 (n := 1469) rfl hi
  have e2 := w_terminalOf hw R2 (n := 1469) rfl hi k
  have z : (nI 1468 : Int32) = 1468 := rfl
  have a1 : ∀ f : Nat → Int32, ag f 1469 1468 = some (f 1468) := fun f => by rw [← z]; exact ag_ok hi
  have a2 : ∀ f : Nat → Int64, agL f 1469 1468 = some (f 1468) := fun f => by rw [← z]; exact agL_ok hi
  rw [z] at e1 e2
  simp only [fX10_terminalOf, fX10_lengthOf, fX10_exists, a1, a2, obs] at e1 e2 ⊢
  exact ⟨e1, e2⟩
theorem c_leastRow {codes tm cw : Nat → Int32} {count len : Int32} (hc : RC codes count G) (hG : okG G) (hI : IC tm len I) (hW : WC cw wt) (hL : I.length ≤ 8) {a : Nat} (ha : a ≤ I.length) {c : Nat → Int32} {h l : Nat → Int64} (hP : RepI wt I G K a a c h l) {N : Nat} (hN : 2000 < N) : ∃ o : wsT, (∀ k21, itr4 (bX5_findLeastInsertions_21 N codes count tm len cw (nI I.length) (nI a) k21) N (nI a) c h l = k21 o.1 o.2.1 o.2.2) ∧ RepI wt I G K a (I.length + 1) o.1 o.2.1 o.2.2 := by
  refine vlq4 (B := fun k21 => bX5_findLeastInsertions_21 N codes count tm len cw (nI I.length) (nI a) k21) (fun j i c h l => i = nI (a + j) ∧ j ≤ I.length + 1 - a ∧ RepI wt I G K a (a + j) c h l) (fun r => ∃ o : wsT, (∀ k21, r k21 = k21 o.1 o.2.1 o.2.2) ∧ RepI wt I G K a (I.length + 1) o.1 o.2.1 o.2.2) (I.length + 1 - a) ?_ ?_ N (nI a) c h l (by omega) ⟨rfl, Nat.zero_le _, hP⟩
  · rintro j i c h l hj ⟨rfl, _, hP1⟩
    left
    obtain ⟨o, e, hP2⟩ := c_findWords hc hG hI hW hL (show a ≤ a + j by omega) (show a + j ≤ I.length by omega) hP1 hN
    refine ⟨nI (a + (j + 1)), o.1, o.2.1, o.2.2, ⟨rfl, by omega, hP2⟩, fun k21 rc => ?_⟩
    simp only [bX5_findLeastInsertions_21]
    rw [if_neg (nI_nlt (by omega) (by omega)), e]
    simp only [bd3, obs, lt_, nI_1]
    rfl
  · rintro i c h l ⟨rfl, _, hP1⟩
    have e1 : a + (I.length + 1 - a) = I.length + 1 := by omega
    rw [e1] at hP1 ⊢
    refine ⟨_, ⟨(c, h, l), fun _ => rfl, hP1⟩, fun k21 rc => ?_⟩
    simp only [bX5_findLeastInsertions_21]
    rw [if_pos (nI_lt (by omega) (by omega))]
theorem c_leastAll {codes tm cw : Nat → Int32} {count len : Int32} (hc : RC codes count G) (hG : okG G) (hI : IC tm len I) (hW : WC cw wt) (hL : I.length ≤ 8) {c : Nat → Int32} {h l : Nat → Int64} (hP : RepI wt I G K (I.length + 1) (I.length + 1) c h l) {N : Nat} (hN : 2000 < N) : ∃ o : wsT, (∀ k11, itr4 (bX5_findLeastInsertions_15 N codes count tm len cw (nI I.length) k11) N (nI I.length) c h l = k11 o.1 o.2.1 o.2.2) ∧ RepI wt I G K 0 (I.length + 1) o.1 o.2.1 o.2.2 := by
  refine vlq4 (B := fun k11 => bX5_findLeastInsertions_15 N codes count tm len cw (nI I.length) k11) (fun j i c h l => i = nI (I.length + 1 - j) - 1 ∧ j ≤ I.length + 1 ∧ RepI wt I G K (I.length + 1 - j) (I.length + 1) c h l) (fun r => ∃ o : wsT, (∀ k11, r k11 = k11 o.1 o.2.1 o.2.2) ∧ RepI wt I G K 0 (I.length + 1) o.1 o.2.1 o.2.2) (I.length + 1) ?_ ?_ N (nI I.length) c h l (by omega) ⟨by rw [Nat.sub_zero, nI_sub1 (by omega)]; rfl, Nat.zero_le _, hP⟩
  · rintro j i c h l hj ⟨rfl, _, hP1⟩
    left
    have e1 : nI (I.length + 1 - j) - 1 = nI (I.length - j) := by rw [nI_sub1 (by omega)]; congr 1; omega
    have e2 : I.length + 1 - (j + 1) = I.length - j := by omega
    have hP2 : RepI wt I G K (I.length - j) (I.length - j) c h l := RepI_congr (fun m e => by unfold Sd; omega) hP1
    rw [e1, e2]
    obtain ⟨o, e, hP3⟩ := c_leastRow hc hG hI hW hL (show I.length - j ≤ I.length by omega) hP2 hN
    refine ⟨nI (I.length - j) - 1, o.1, o.2.1, o.2.2, ⟨rfl, by omega, hP3⟩, fun k11 rc => ?_⟩
    simp only [bX5_findLeastInsertions_15]
    rw [if_neg (nI_pos (by omega))]
    simp only [jn3]
    rw [e]
    simp only [lt_]
    rw [nIm1]
  · rintro i c h l ⟨rfl, _, hP1⟩
    rw [Nat.sub_self] at hP1 ⊢
    refine ⟨_, ⟨(c, h, l), fun _ => rfl, hP1⟩, fun k11 rc => ?_⟩
    simp only [bX5_findLeastInsertions_15]
    rw [if_pos (by decide)]
theorem c_findLeast {codes tm cw : Nat → Int32} {count len : Int32} (hc : RC codes count G) (hG : okG G) (hI : IC tm len I) (hW : WC cw wt) (hL : I.length ≤ 8) {c : Nat → Int32} {h l : Nat → Int64} {x0 : wW} (hK : KP c h l x0) {N : Nat} (hN : 2000 < N) : ∃ (o : wsT) (v : vW), RepOK wt I G v ∧ (((v (rs 0 0 I.length)).1 = none ∧ fX5_findLeastInsertions N codes count tm len cw c h l = some (-2, o) ∧ KP o.1 o.2.1 o.2.2 x0) ∨ ∃ u, (v (rs 0 0 I.length)).1 = some u ∧ fX5_findLeastInsertions N codes count tm len cw c h l = some (nI u.length - nI I.length, o) ∧ KP o.1 o.2.1 o.2.2 (v (rs 0 0 I.length))) := by
  have hw := WC_9 hW
  have h0 : RepI wt I G (c 1468, h 1468, l 1468) (I.length + 1) (I.length + 1) c h l := by
    refine ⟨fun _ => none, fun _ => wNo, ⟨fun w _ x hx => by simp at hx, rfl⟩, fun m e hme => by unfold Sd at hme; omega, upR_no hw, fun m e hme => by unfold Sd at hme; omega, fun _ _ _ _ _ _ => rfl⟩
  obtain ⟨o, e, ω, v, R, hRW, hup, hcl, hno⟩ := c_leastAll hc hG hI hW hL h0 hN
  have hok : RepOK wt I G v := by
    refine ⟨?_, hup⟩
    rintro s ev ⟨p, a, b, hp, hab, hb, rfl, rfl⟩
    exact hcl a b (by unfold Sd; omega) p hp
  have hme : Sd I.length 0 (I.length + 1) 0 I.length := by unfold Sd; omega
  have hx : ω (wi 0 I.length 10) = some (v (rs 0 0 I.length)) := by
    rw [(hRW 0 I.length hme).2.2 10 (Or.inr ⟨by decide, by decide⟩)]
    rfl
  have hwi := wi_lt (show 0 < 9 by decide) (show I.length < 9 by omega) (show 10 < 18 by decide)
  have ex := wo_exists hw R (show wi 0 I.length 10 < 1468 by omega) hx
  have hlen : (if 8 < len then 8 else len) = nI I.length := by
    rw [hI.1]
    by_cases q : I.length = 8
    · rw [if_neg (by rw [q]; decide)]
    · rw [if_neg (by show ¬ nI 8 < nI I.length; exact nI_nlt (by omega) (by omega))]
  have hwo : fX5_wordOf 0 (nI I.length) 10 = some (nI (wi 0 I.length 10)) := c_wordOf 0 I.length 10
  have hrun : fX5_findLeastInsertions N codes count tm len cw c h l = if b01 (decide ((v (rs 0 0 I.length)).1 ≠ none)) = 0 then some (-2, o) else bd3 (fX10_putCopy 1469 o.1 o.2.1 o.2.2 1468 (nI (wi 0 I.length 10))) fun o7 o8 o9 => (fX10_lengthOf 1469 o7 1468).bind fun x10 => some (x10 - nI I.length, o7, o8, o9) := by
    simp only [fX5_findLeastInsertions, lt_, jn3]
    rw [hlen, e]
    simp only [hwo, obs, ex]
  obtain ⟨wt', hw', k1, k2, k3⟩ := hK
  have hR2 := R.2
  simp only [Prod.mk.injEq] at hR2
  cases hv : (v (rs 0 0 I.length)).1 with
  | none =>
    refine ⟨o, v, hok, Or.inl ⟨hv, ?_, wt', hw', by rw [hR2.1]; exact k1, by rw [hR2.2.1]; exact k2, by rw [hR2.2.2]; exact k3⟩⟩
    rw [hrun, hv, if_pos (by simp [b01])]
  | some u =>
    obtain ⟨a1, a2, a3⟩ := R.1 _ (show wi 0 I.length 10 < 1468 by omega) _ hx
    have hj : wi 0 I.length 10 < 1469 := by omega
    have z : (nI 1468 : Int32) = 1468 := rfl
    have hcopy : fX10_putCopy 1469 o.1 o.2.1 o.2.2 1468 (nI (wi 0 I.length 10)) = some (upd o.1 1468 (o.1 (wi 0 I.length 10)), vp_updL o.2.1 1468 (o.2.1 (wi 0 I.length 10)), vp_updL o.2.2 1468 (o.2.2 (wi 0 I.length 10))) := by
      rw [← z]
      simp only [fX10_putCopy, fX10_put, ag_ok hj, agL_ok hj, obs, as_ok (show 1468 < 1469 by decide), asL_ok (show 1468 < 1469 by decide), bd3]
    have hKP : KP (upd o.1 1468 (o.1 (wi 0 I.length 10))) (vp_updL o.2.1 1468 (o.2.1 (wi 0 I.length 10))) (vp_updL o.2.2 1468 (o.2.2 (wi 0 I.length 10))) (v (rs 0 0 I.length)) := ⟨wt, hw, by rw [pk_us]; exact a1, by rw [pk_uLs]; exact a2, by rw [pk_uLs]; exact a3⟩
    have hlen2 := (kp_read hKP 0).1
    refine ⟨(upd o.1 1468 (o.1 (wi 0 I.length 10)), vp_updL o.2.1 1468 (o.2.1 (wi 0 I.length 10)), vp_updL o.2.2 1468 (o.2.2 (wi 0 I.length 10))), v, hok, Or.inr ⟨u, hv, ?_, hKP⟩⟩
    rw [hrun, hv, if_neg (by simp [b01]), hcopy]
    simp only [bd3, obs, hlen2]
    rw [hv]
    rfl
end CL
