/-! ROWS OF WORDS of which some are left over from earlier: what a slot holds is known or not; the last slot is kept as it is -/
def updO (ω : Nat → Option wW) (i : Nat) (x : wW) : Nat → Option wW := fun j => if j = i then some x else ω j
theorem updO_s {ω : Nat → Option wW} {i : Nat} {x : wW} : updO ω i x i = some x := by unfold updO; rw [if_pos rfl]
theorem updO_n {ω : Nat → Option wW} {i j : Nat} {x : wW} (h : j ≠ i) : updO ω i x j = ω j := by unfold updO; rw [if_neg h]
theorem updO_same {ω : Nat → Option wW} {i : Nat} {x : wW} (h : ω i = some x) : updO ω i x = ω := by
  funext j
  by_cases e : j = i
  · subst e; rw [updO_s, h]
  · exact updO_n e
def WO (wt : Nat → Nat) (K : Int32 × Int64 × Int64) (c : Nat → Int32) (h l : Nat → Int64) (ω : Nat → Option wW) : Prop := (∀ w, w < 1468 → ∀ x, ω w = some x → c w = nI (cN wt x.1) ∧ h w = hI x.1 ∧ l w = lI x.1) ∧ (c 1468, h 1468, l 1468) = K
section WOO
variable {wt : Nat → Nat} {K : Int32 × Int64 × Int64} {c : Nat → Int32} {h l : Nat → Int64} {ω : Nat → Option wW}
theorem wo_put (R : WO wt K c h l ω) {i : Nat} (hi : i < 1468) (x : wW) {k : Int32} {a b : Int64} (e1 : k = nI (cN wt x.1)) (e2 : a = hI x.1) (e3 : b = lI x.1) : ∃ o : wsT, fX10_put 1469 c h l (nI i) k a b = some o ∧ WO wt K o.1 o.2.1 o.2.2 (updO ω i x) := by
  have hi' : i < 1469 := by omega
  simp only [fX10_put, as_ok hi', asL_ok hi', obs]
  refine ⟨_, rfl, fun w hw y hy => ?_, ?_⟩
  · by_cases e : w = i
    · subst e
      rw [updO_s] at hy
      have := Option.some.inj hy
      subst this
      simp only [pk_us, pk_uLs]
      exact ⟨e1, e2, e3⟩
    · rw [updO_n e] at hy
      simp only [pk_un e, pk_uLn e]
      exact R.1 w hw y hy
  · simp only [pk_un (show (1468 : Nat) ≠ i by omega), pk_uLn (show (1468 : Nat) ≠ i by omega)]
    exact R.2
theorem wo_putNone (R : WO wt K c h l ω) {i : Nat} (hi : i < 1468) : ∃ o : wsT, fX10_putNone 1469 c h l (nI i) = some o ∧ WO wt K o.1 o.2.1 o.2.2 (updO ω i wNo) := by
  obtain ⟨o, e, R1⟩ := wo_put R hi wNo (k := 41984) (a := 0) (b := 0) rfl rfl rfl
  refine ⟨o, ?_, R1⟩
  simp only [fX10_putNone, e, bd3, obs]
theorem wo_putEmpty (R : WO wt K c h l ω) {i : Nat} (hi : i < 1468) : ∃ o : wsT, fX10_putEmpty 1469 c h l (nI i) = some o ∧ WO wt K o.1 o.2.1 o.2.2 (updO ω i wEm) := by
  obtain ⟨o, e, R1⟩ := wo_put R hi wEm (k := 0) (a := 0) (b := 0) rfl rfl rfl
  refine ⟨o, ?_, R1⟩
  simp only [fX10_putEmpty, e, bd3, obs]
theorem wo_putTerminal (R : WO wt K c h l ω) {i : Nat} (hi : i < 1468) {t : Nat} (ht : t < 8) : ∃ o : wsT, fX10_putTerminal 1469 c h l (nI i) (nI t) (nI (wt t)) = some o ∧ WO wt K o.1 o.2.1 o.2.2 (updO ω i (wT t)) := by
  have hv : valN [t] = t := by simp [valN]
  obtain ⟨o, e, R1⟩ := wo_put R hi (wT t) (k := 1024 + nI (wt t)) (a := 0) (b := (nI t).toInt64) (by
    rw [wT_val ht]
    show nI 1024 + _ = _
    rw [nI_add]
    simp only [cN, wsum, List.length_cons, List.length_nil]
    congr 1) (by
    rw [wT_val ht]
    simp only [hI, vN, hv]
    rw [Nat.div_eq_of_lt (by omega)]; rfl) (by
    rw [wT_val ht, nI_l (by omega)]
    simp only [lI, vN, hv]
    rw [Nat.mod_eq_of_lt (by omega)])
  refine ⟨o, ?_, R1⟩
  simp only [fX10_putTerminal, e, bd3, obs]
theorem wo_putCopy (R : WO wt K c h l ω) {i j : Nat} (hi : i < 1468) (hj : j < 1468) {y : wW} (ej : ω j = some y) : ∃ o : wsT, fX10_putCopy 1469 c h l (nI i) (nI j) = some o ∧ WO wt K o.1 o.2.1 o.2.2 (updO ω i y) := by
  have hj' : j < 1469 := by omega
  obtain ⟨a1, a2, a3⟩ := R.1 j hj y ej
  obtain ⟨o, e, R1⟩ := wo_put R hi y a1 a2 a3
  refine ⟨o, ?_, R1⟩
  simp only [fX10_putCopy, ag_ok hj', agL_ok hj', obs, e, bd3]
/-- a row that is all known, and agrees at two places -/
theorem wo_two (R : WO wt K c h l ω) {i j : Nat} (hi : i < 1468) (hj : j < 1468) {x y : wW} (ei : ω i = some x) (ej : ω j = some y) : ∃ (c2 : Nat → Int32) (h2 l2 : Nat → Int64) (ω2 : vW), WS wt 1469 c2 h2 l2 ω2 ∧ (c2 i = c i ∧ h2 i = h i ∧ l2 i = l i ∧ ω2 i = x) ∧ (c2 j = c j ∧ h2 j = h j ∧ l2 j = l j ∧ ω2 j = y) := by
  obtain ⟨a1, a2, a3⟩ := R.1 i hi x ei
  obtain ⟨b1, b2, b3⟩ := R.1 j hj y ej
  refine ⟨fun w => if w = j then c j else c i, fun w => if w = j then h j else h i, fun w => if w = j then l j else l i, fun w => if w = j then y else x, fun w hw => ?_, ?_, ?_⟩
  · by_cases e : w = j
    · simp only [if_pos e]; exact ⟨b1, b2, b3⟩
    · simp only [if_neg e]; exact ⟨a1, a2, a3⟩
  · by_cases e : i = j
    · subst e
      rw [ei] at ej
      have := Option.some.inj ej
      subst this
      simp
    · simp [e]
  · simp
theorem wo_joined (hw : wt9 wt) (R : WO wt K c h l ω) {i j : Nat} (hi : i < 1468) (hj : j < 1468) {x y : wW} (ei : ω i = some x) (ej : ω j = some y) {u v : List Nat} (eu : x.1 = some u) (ev : y.1 = some v) (hlen : (u ++ v).length ≤ 40) : fX10_joinedHigh 1469 c h l (nI i) (nI j) = some (hI (some (u ++ v))) ∧ fX10_joinedLow 1469 c l (nI i) (nI j) = some (lI (some (u ++ v))) := by
  have hi' : i < 1469 := by omega
  have hj' : j < 1469 := by omega
  obtain ⟨c2, h2, l2, ω2, R2, ⟨p1, p2, p3, p4⟩, q1, q2, q3, q4⟩ := wo_two R hi hj ei ej
  have j1 := c_joinedHigh hw (WS_WR R2) (n := 1469) rfl hi' hj' (u := u) (v := v) (by rw [p4]; exact eu) (by rw [q4]; exact ev) hlen
  have j2 := c_joinedLow hw (WS_WR R2) (n := 1469) rfl hi' hj' (u := u) (v := v) (by rw [p4]; exact eu) (by rw [q4]; exact ev) hlen
  simp only [fX10_joinedHigh, fX10_joinedLow, ag_ok hj', agL_ok hi', agL_ok hj', obs, lt_, p1, p2, p3, q1, q2, q3] at j1 j2 ⊢
  exact ⟨j1, j2⟩
theorem wo_isLess (hw : wt9 wt) (R : WO wt K c h l ω) {i : Nat} (hi : i < 1468) {y : wW} (ei : ω i = some y) (x : wW) {k : Int32} {a b : Int64} (e1 : k = nI (cN wt x.1)) (e2 : a = hI x.1) (e3 : b = lI x.1) : fX10_isLess 1469 c h l (nI i) k a b = some (b01 (decide (ky wt x < ky wt y))) := by
  have hi' : i < 1469 := by omega
  obtain ⟨c2, h2, l2, ω2, R2, ⟨p1, p2, p3, p4⟩, _⟩ := wo_two R hi hi ei ei
  have := w_isLess hw R2 (n := 1469) rfl hi' x e1 e2 e3
  simp only [fX10_isLess, ag_ok hi', agL_ok hi', obs, p1, p2, p3, p4] at this ⊢
  exact this
theorem wo_lower (hw : wt9 wt) (R : WO wt K c h l ω) {i j : Nat} (hi : i < 1468) (hj : j < 1468) {x y : wW} (ei : ω i = some x) (ej : ω j = some y) : ∃ o : wsT, fX10_lower 1469 c h l (nI i) (nI j) = some (b01 (decide (ky wt y < ky wt x)), o) ∧ WO wt K o.1 o.2.1 o.2.2 (updO ω i (minW wt x y)) := by
  have hj' : j < 1469 := by omega
  obtain ⟨b1, b2, b3⟩ := R.1 j hj y ej
  simp only [fX10_lower, ag_ok hj', agL_ok hj', obs, wo_isLess hw R hi ei y b1 b2 b3]
  unfold minW
  by_cases e : ky wt y < ky wt x
  · obtain ⟨o, e1, R1⟩ := wo_putCopy R hi hj ej
    simp only [fX10_putCopy, ag_ok hj', agL_ok hj', obs, bd3_id] at e1
    refine ⟨o, ?_, by rw [if_pos e]; exact R1⟩
    rw [if_neg (by simp [b01, e]), e1]
    simp [bd3, b01, e]
  · refine ⟨(c, h, l), ?_, by rw [if_neg e, updO_same ei]; exact R⟩
    rw [if_pos (by simp [b01, e])]
    simp [b01, e]
theorem wo_lowerToJoined (hw : wt9 wt) (R : WO wt K c h l ω) {i j k : Nat} (hi : i < 1468) (hj : j < 1468) (hk : k < 1468) {x y z : wW} (ei : ω i = some x) (ej : ω j = some y) (ek : ω k = some z) : ∃ o : wsT, fX10_lowerToJoined 1469 c h l (nI i) (nI j) (nI k) = some o ∧ WO wt K o.1 o.2.1 o.2.2 (updO ω i (minW wt x (catW y z))) := by
  have hi' : i < 1469 := by omega
  have hj' : j < 1469 := by omega
  have hk' : k < 1469 := by omega
  obtain ⟨a1, a2, a3⟩ := R.1 i hi x ei
  obtain ⟨b1, b2, b3⟩ := R.1 j hj y ej
  obtain ⟨d1, d2, d3⟩ := R.1 k hk z ek
  have l1 := cN_lt31 hw y
  have l2 := cN_lt31 hw z
  have l3 := cN_lt31 hw x
  have same : minW wt x (catW y z) = x → ∃ o : wsT, (some (c, h, l) : Option wsT) = some o ∧ WO wt K o.1 o.2.1 o.2.2 (updO ω i (minW wt x (catW y z))) := fun e => ⟨(c, h, l), rfl, by rw [e, updO_same ei]; exact R⟩
  simp only [fX10_lowerToJoined, ag_ok hj', ag_ok hk', ag_ok hi', obs, lt_, jn_, jn3, b1, d1, a1, nI_add]
  rw [n41984]
  by_cases hlt : cN wt y.1 + cN wt z.1 < 41984
  · rw [if_neg (nI_ge (b := 41984) hlt (by decide))]
    obtain ⟨u, v, eu, ev, hlen, ec, ecat⟩ := cat_some_iff hw _ _ hlt
    by_cases hle : cN wt y.1 + cN wt z.1 ≤ cN wt x.1
    · obtain ⟨j1, j2⟩ := wo_joined hw R hj hk ej ek eu ev hlen
      rw [if_pos (nI_le hle (by omega)), j1, j2]
      have q1 : nI (cN wt y.1 + cN wt z.1) = nI (cN wt (catW y z).1) := by rw [ec]
      have q2 : hI (some (u ++ v)) = hI (catW y z).1 := by rw [ecat]
      have q3 : lI (some (u ++ v)) = lI (catW y z).1 := by rw [ecat]
      simp only [obs, wo_isLess hw R hi ei (catW y z) q1 q2 q3]
      by_cases e : ky wt (catW y z) < ky wt x
      · obtain ⟨o, e1, R1⟩ := wo_put R hi (catW y z) q1 q2 q3
        rw [if_neg (by simp [b01, e]), e1]
        refine ⟨o, by simp [bd3], ?_⟩
        unfold minW
        rw [if_pos e]; exact R1
      · rw [if_pos (by simp [b01, e])]
        exact same (by unfold minW; rw [if_neg e])
    · rw [if_neg (nI_ge (by omega) (by omega))]
      refine same ?_
      unfold minW
      rw [if_neg]
      rw [ky_lt_iff, ec]
      omega
  · rw [if_pos (nI_le (a := 41984) (by omega) (by omega))]
    refine same ?_
    rw [cat_none_of hw _ _ hlt, minW_no_r hw]
theorem wo_exists (hw : wt9 wt) (R : WO wt K c h l ω) {i : Nat} (hi : i < 1468) {x : wW} (ei : ω i = some x) : fX10_exists 1469 c (nI i) = some (b01 (decide (x.1 ≠ none))) := by
  have hi' : i < 1469 := by omega
  obtain ⟨c2, h2, l2, ω2, R2, ⟨p1, p2, p3, p4⟩, _⟩ := wo_two R hi hi ei ei
  have := w_exists hw R2 (n := 1469) rfl hi'
  simp only [fX10_exists, ag_ok hi', obs, p1, p4] at this ⊢
  exact this
end WOO
