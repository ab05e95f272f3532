/-! WORDS: what the class's operations do to a row of words -/
def WS (wt : Nat → Nat) (n : Nat) (c : Nat → Int32) (h l : Nat → Int64) (ω : vW) : Prop := ∀ w, w < n → c w = nI (cN wt (ω w).1) ∧ h w = hI (ω w).1 ∧ l w = lI (ω w).1
theorem updW_same (ω : vW) (i : Nat) : updW ω i (ω i) = ω := by
  funext j
  by_cases e : j = i
  · subst e; exact updW_s
  · exact updW_n e
theorem cN_lt31 {wt : Nat → Nat} (hw : wt9 wt) (a : wW) : cN wt a.1 ≤ 41984 := (cN_le hw a.2).1
theorem vN_hi (a : wW) : vN a.1 / 2 ^ 60 < 2 ^ 60 := by
  have h := vN_lt a.2
  rw [Nat.div_lt_iff_lt_mul (Nat.two_pow_pos 60), ← Nat.pow_add]
  exact h
theorem vN_lo (a : wW) : vN a.1 % 2 ^ 60 < 2 ^ 60 := Nat.mod_lt _ (Nat.two_pow_pos 60)
theorem p60_63 {a : Nat} (h : a < 2 ^ 60) : a < 2 ^ 63 := Nat.lt_of_lt_of_le h (by decide)
theorem ky_lt_iff (wt : Nat → Nat) (a b : wW) : ky wt a < ky wt b ↔ cN wt a.1 < cN wt b.1 ∨ (cN wt a.1 = cN wt b.1 ∧ vN a.1 < vN b.1) := by
  have h := ky_le_iff wt b a
  constructor
  · intro h1
    have h2 : ¬ ky wt b ≤ ky wt a := by omega
    rw [h] at h2
    omega
  · intro h1
    rcases Nat.lt_or_ge (ky wt a) (ky wt b) with h2 | h2
    · exact h2
    · have := h.mp h2
      omega
theorem vN_lt_iff (a b : wW) : vN a.1 < vN b.1 ↔ vN a.1 / 2 ^ 60 < vN b.1 / 2 ^ 60 ∨ (vN a.1 / 2 ^ 60 = vN b.1 / 2 ^ 60 ∧ vN a.1 % 2 ^ 60 < vN b.1 % 2 ^ 60) := by
  have ea := Nat.div_add_mod (vN a.1) (2 ^ 60)
  have eb := Nat.div_add_mod (vN b.1) (2 ^ 60)
  have hp := pair_le (c := vN b.1 / 2 ^ 60) (c' := vN a.1 / 2 ^ 60) (vN_lo b) (vN_lo a)
  rw [Nat.mul_comm _ (2 ^ 60), Nat.mul_comm _ (2 ^ 60), ea, eb] at hp
  constructor
  · intro h1
    have h2 : ¬ vN b.1 ≤ vN a.1 := by omega
    rw [hp] at h2
    omega
  · intro h1
    rcases Nat.lt_or_ge (vN a.1) (vN b.1) with h2 | h2
    · exact h2
    · have := hp.mp h2
      omega
theorem nI_eqI {a b : Nat} (ha : a < 2 ^ 31) (hb : b < 2 ^ 31) (P : Prop) [Decidable P] (h : P ↔ a = b) : (nI a = nI b) ↔ P := by
  rw [nI_eq ha hb]; exact h.symm
abbrev wsT : Type := (Nat → Int32) × (Nat → Int64) × (Nat → Int64)
theorem n41984 : (41984 : Int32) = nI 41984 := rfl
theorem n20 : (20 : Int32) = nI 20 := rfl
section WOPS
variable {wt : Nat → Nat} {n : Nat} {c : Nat → Int32} {h l : Nat → Int64} {ω : vW}
theorem WS_WR (R : WS wt n c h l ω) : WR wt n c h l (fun w => (ω w).1) := fun w hw => ⟨(R w hw).1, (R w hw).2.1, (R w hw).2.2, (ω w).2⟩
theorem w_put (R : WS wt n c h l ω) (hn : Nat.ble n 100000 = true) {i : Nat} (hi : i < n) (x : wW) {k : Int32} {a b : Int64} (e1 : k = nI (cN wt x.1)) (e2 : a = hI x.1) (e3 : b = lI x.1) : ∃ o : wsT, fX10_put n c h l (nI i) k a b = some o ∧ WS wt n o.1 o.2.1 o.2.2 (updW ω i x) := by
  simp only [fX10_put, as_ok hi hn, asL_ok hi hn, obs]
  refine ⟨_, rfl, fun w hw => ?_⟩
  by_cases e : w = i
  · subst e
    simp only [pk_us, pk_uLs, updW_s]
    exact ⟨e1, e2, e3⟩
  · simp only [pk_un e, pk_uLn e, updW_n e]
    exact R w hw
theorem w_putNone (R : WS wt n c h l ω) (hn : Nat.ble n 100000 = true) {i : Nat} (hi : i < n) : ∃ o : wsT, fX10_putNone n c h l (nI i) = some o ∧ WS wt n o.1 o.2.1 o.2.2 (updW ω i wNo) := by
  obtain ⟨o, e, R1⟩ := w_put R hn hi wNo (k := 41984) (a := 0) (b := 0) rfl rfl rfl
  refine ⟨o, ?_, R1⟩
  simp only [fX10_putNone, e, bd3, obs]
theorem w_putEmpty (R : WS wt n c h l ω) (hn : Nat.ble n 100000 = true) {i : Nat} (hi : i < n) : ∃ o : wsT, fX10_putEmpty n c h l (nI i) = some o ∧ WS wt n o.1 o.2.1 o.2.2 (updW ω i wEm) := by
  obtain ⟨o, e, R1⟩ := w_put R hn hi wEm (k := 0) (a := 0) (b := 0) rfl rfl rfl
  refine ⟨o, ?_, R1⟩
  simp only [fX10_putEmpty, e, bd3, obs]
theorem w_putTerminal (R : WS wt n c h l ω) (hn : Nat.ble n 100000 = true) {i : Nat} (hi : i < n) {t : Nat} (ht : t < 8) {m : Nat} (hm : m = wt t) : ∃ o : wsT, fX10_putTerminal n c h l (nI i) (nI t) (nI m) = some o ∧ WS wt n o.1 o.2.1 o.2.2 (updW ω i (wT t)) := by
  have hv : valN [t] = t := by simp [valN]
  obtain ⟨o, e, R1⟩ := w_put R hn hi (wT t) (k := 1024 + nI m) (a := 0) (b := (nI t).toInt64) (by
    rw [wT_val ht, hm]
    show nI 1024 + _ = _
    rw [nI_add]
    simp only [cN, wsum, List.length_cons, List.length_nil]
    congr 1) (by
    rw [wT_val ht]
    simp only [hI, vN, hv]
    rw [Nat.div_eq_of_lt (by omega)]; rfl) (by
    rw [wT_val ht, nI_l (by omega)]
    simp only [lI, vN, hv]
    rw [Nat.mod_eq_of_lt (by omega)])
  refine ⟨o, ?_, R1⟩
  simp only [fX10_putTerminal, e, bd3, obs]
theorem w_putCopy (R : WS wt n c h l ω) (hn : Nat.ble n 100000 = true) {i j : Nat} (hi : i < n) (hj : j < n) : ∃ o : wsT, fX10_putCopy n c h l (nI i) (nI j) = some o ∧ WS wt n o.1 o.2.1 o.2.2 (updW ω i (ω j)) := by
  obtain ⟨o, e, R1⟩ := w_put R hn hi (ω j) (R j hj).1 (R j hj).2.1 (R j hj).2.2
  refine ⟨o, ?_, R1⟩
  simp only [fX10_putCopy, ag_ok hj hn, agL_ok hj hn, obs, e, bd3]
theorem cat_some_iff {wt : Nat → Nat} (hw : wt9 wt) (a b : wW) : (cN wt a.1 + cN wt b.1 < 41984) → ∃ u v, a.1 = some u ∧ b.1 = some v ∧ (u ++ v).length ≤ 40 ∧ cN wt (catW a b).1 = cN wt a.1 + cN wt b.1 ∧ (catW a b).1 = some (u ++ v) := by
  intro hlt
  obtain ⟨a, ha⟩ := a
  obtain ⟨b, hb⟩ := b
  simp only [catW] at *
  cases a with
  | none => rw [cN_none] at hlt; omega
  | some u =>
  cases b with
  | none => rw [cN_none] at hlt; omega
  | some v =>
  have hlen : (u ++ v).length ≤ 40 := by
    simp only [cN] at hlt
    simp only [List.length_append]
    omega
  have e : cat (some u) (some v) = some (u ++ v) := by rw [cat_some, if_pos hlen]
  exact ⟨u, v, rfl, rfl, hlen, by rw [e, cN_cat], e⟩
theorem cat_none_of {wt : Nat → Nat} (hw : wt9 wt) (a b : wW) : ¬ (cN wt a.1 + cN wt b.1 < 41984) → catW a b = wNo := by
  intro hlt
  apply Subtype.ext
  obtain ⟨a, ha⟩ := a
  obtain ⟨b, hb⟩ := b
  simp only [catW] at *
  cases a with
  | none => exact cat_none_l _
  | some u =>
  cases b with
  | none => exact cat_none_r _
  | some v =>
  rw [cat_some]
  by_cases hl : (u ++ v).length ≤ 40
  · exfalso
    have h1 := wsum_le hw u ha.1
    have h2 := wsum_le hw v hb.1
    simp only [List.length_append] at hl
    simp only [cN] at hlt
    omega
  · rw [if_neg hl]; rfl
theorem bd3_id {A B C : Type} (O : Option (A × B × C)) : bd3 O (fun a b c => some (a, b, c)) = O := by cases O <;> rfl
theorem w_append (hw : wt9 wt) (R : WS wt n c h l ω) (hn : Nat.ble n 100000 = true) {i j : Nat} (hi : i < n) (hj : j < n) : ∃ o : wsT, fX10_append n c h l (nI i) (nI j) = some o ∧ WS wt n o.1 o.2.1 o.2.2 (updW ω i (catW (ω i) (ω j))) := by
  have l1 := cN_lt31 hw (ω i)
  have l2 := cN_lt31 hw (ω j)
  simp only [fX10_append, ag_ok hi hn, ag_ok hj hn, obs, lt_, jn3, (R i hi).1, (R j hj).1, nI_add]
  rw [n41984]
  by_cases hlt : cN wt (ω i).1 + cN wt (ω j).1 < 41984
  · rw [if_pos (nI_lt (b := 41984) hlt (by decide))]
    obtain ⟨u, v, eu, ev, hlen, ec, ecat⟩ := cat_some_iff hw _ _ hlt
    rw [c_joinedHigh hw (WS_WR R) hn hi hj eu ev hlen, c_joinedLow hw (WS_WR R) hn hi hj eu ev hlen]
    obtain ⟨o, e, R1⟩ := w_put R hn hi (catW (ω i) (ω j)) (k := nI (cN wt (ω i).1 + cN wt (ω j).1)) (a := hI (some (u ++ v))) (b := lI (some (u ++ v))) (by rw [ec]) (by rw [ecat]) (by rw [ecat])
    refine ⟨o, ?_, R1⟩
    simp only [obs, e, bd3]
  · rw [if_neg (nI_nlt (b := 41984) (by omega) (by omega))]
    obtain ⟨o, e, R1⟩ := w_putNone R hn hi
    rw [show fX10_putNone n c h l (nI i) = fX10_put n c h l (nI i) 41984 0 0 from bd3_id _, n41984] at e
    rw [cat_none_of hw _ _ hlt]
    refine ⟨o, ?_, R1⟩
    simp only [e, bd3, obs]
theorem w_exists (hw : wt9 wt) (R : WS wt n c h l ω) (hn : Nat.ble n 100000 = true) {i : Nat} (hi : i < n) : fX10_exists n c (nI i) = some (b01 (decide ((ω i).1 ≠ none))) := by
  have l1 := cN_le hw (ω i).2
  simp only [fX10_exists, ag_ok hi hn, obs, jn_, gz, (R i hi).1]
  by_cases e : (ω i).1 = none
  · rw [e, cN_none, if_pos (by decide)]
    simp [b01]
  · have := l1.2 e
    rw [n41984, if_neg (nI_ge (b := 41984) this (by decide))]
    simp [b01, e]
theorem w_isEmpty (hw : wt9 wt) (R : WS wt n c h l ω) (hn : Nat.ble n 100000 = true) {i : Nat} (hi : i < n) : fX10_isEmpty n c (nI i) = some (b01 (decide ((ω i).1 = some []))) := by
  have l1 := cN_lt31 hw (ω i)
  simp only [fX10_isEmpty, ag_ok hi hn, obs, jn_, gz, (R i hi).1]
  generalize (ω i).1 = o at *
  cases o with
  | none =>
    rw [cN_none, if_neg (by decide)]
    simp [b01]
  | some u =>
    cases u with
    | nil => simp [cN, wsum, b01, nI_0]
    | cons t r =>
      have h0 : 0 < cN wt (some (t :: r)) := by simp only [cN, List.length_cons]; omega
      rw [if_neg (nI_ne0 h0 (by omega))]
      simp [b01]
theorem w_isLess (hw : wt9 wt) (R : WS wt n c h l ω) (hn : Nat.ble n 100000 = true) {i : Nat} (hi : i < n) (x : wW) {k : Int32} {a b : Int64} (e1 : k = nI (cN wt x.1)) (e2 : a = hI x.1) (e3 : b = lI x.1) : fX10_isLess n c h l (nI i) k a b = some (b01 (decide (ky wt x < ky wt (ω i)))) := by
  subst e1 e2 e3
  have l1 := cN_lt31 hw (ω i)
  have l2 := cN_lt31 hw x
  have hh1 := vN_hi x
  have hh2 := vN_hi (ω i)
  have hl1 := vN_lo x
  have hl2 := vN_lo (ω i)
  have key := ky_lt_iff wt x (ω i)
  have key2 := vN_lt_iff x (ω i)
  simp only [fX10_isLess, ag_ok hi hn, agL_ok hi hn, obs, jn_, gz, (R i hi).1, (R i hi).2.1, (R i hi).2.2, lg_cmp_eq, lg_cmp_ge, hI, lI]
  by_cases e : cN wt x.1 = cN wt (ω i).1
  · rw [if_pos (by rw [e])]
    by_cases eh : vN x.1 / 2 ^ 60 = vN (ω i).1 / 2 ^ 60
    · rw [if_pos (by rw [eh])]
      by_cases el : vN (ω i).1 % 2 ^ 60 ≤ vN x.1 % 2 ^ 60
      · rw [if_pos ((pk_lLE (p60_63 hl2) (p60_63 hl1)).mpr el)]
        have : ¬ ky wt x < ky wt (ω i) := by rw [key, key2]; omega
        simp [b01, this]
      · rw [if_neg (fun q => el ((pk_lLE (p60_63 hl2) (p60_63 hl1)).mp q))]
        have : ky wt x < ky wt (ω i) := by rw [key, key2]; omega
        simp [b01, this]
    · rw [if_neg (fun q => eh ((pk_lEQ (p60_63 hh1) (p60_63 hh2)).mp q))]
      by_cases el : vN (ω i).1 / 2 ^ 60 ≤ vN x.1 / 2 ^ 60
      · rw [if_pos ((pk_lLE (p60_63 hh2) (p60_63 hh1)).mpr el)]
        have : ¬ ky wt x < ky wt (ω i) := by rw [key, key2]; omega
        simp [b01, this]
      · rw [if_neg (fun q => el ((pk_lLE (p60_63 hh2) (p60_63 hh1)).mp q))]
        have : ky wt x < ky wt (ω i) := by rw [key, key2]; omega
        simp [b01, this]
  · rw [if_neg (fun q => e ((nI_eq (by omega) (by omega)).mp q))]
    by_cases el : cN wt (ω i).1 ≤ cN wt x.1
    · rw [if_pos (nI_le el (by omega))]
      have : ¬ ky wt x < ky wt (ω i) := by rw [key]; omega
      simp [b01, this]
    · rw [if_neg (nI_ge (by omega) (by omega))]
      have : ky wt x < ky wt (ω i) := by rw [key]; omega
      simp [b01, this]
theorem w_lower (hw : wt9 wt) (R : WS wt n c h l ω) (hn : Nat.ble n 100000 = true) {i j : Nat} (hi : i < n) (hj : j < n) : ∃ o : wsT, fX10_lower n c h l (nI i) (nI j) = some (b01 (decide (ky wt (ω j) < ky wt (ω i))), o) ∧ WS wt n o.1 o.2.1 o.2.2 (updW ω i (minW wt (ω i) (ω j))) := by
  simp only [fX10_lower, ag_ok hj hn, agL_ok hj hn, obs, w_isLess hw R hn hi (ω j) (R j hj).1 (R j hj).2.1 (R j hj).2.2]
  unfold minW
  by_cases e : ky wt (ω j) < ky wt (ω i)
  · obtain ⟨o, e1, R1⟩ := w_putCopy R hn hi hj
    simp only [fX10_putCopy, ag_ok hj hn, agL_ok hj hn, obs, bd3_id] at e1
    refine ⟨o, ?_, by rw [if_pos e]; exact R1⟩
    rw [if_neg (by simp [b01, e]), e1]
    simp [bd3, b01, e]
  · refine ⟨(c, h, l), ?_, by rw [if_neg e, updW_same]; exact R⟩
    rw [if_pos (by simp [b01, e])]
    simp [b01, e]
theorem w_lowerToJoined (hw : wt9 wt) (R : WS wt n c h l ω) (hn : Nat.ble n 100000 = true) {i j k : Nat} (hi : i < n) (hj : j < n) (hk : k < n) : ∃ o : wsT, fX10_lowerToJoined n c h l (nI i) (nI j) (nI k) = some o ∧ WS wt n o.1 o.2.1 o.2.2 (updW ω i (minW wt (ω i) (catW (ω j) (ω k)))) := by
  have l1 := cN_lt31 hw (ω j)
  have l2 := cN_lt31 hw (ω k)
  have l3 := cN_lt31 hw (ω i)
  have same : minW wt (ω i) (catW (ω j) (ω k)) = ω i → ∃ o : wsT, (some (c, h, l) : Option wsT) = some o ∧ WS wt n o.1 o.2.1 o.2.2 (updW ω i (minW wt (ω i) (catW (ω j) (ω k)))) := fun e => ⟨(c, h, l), rfl, by rw [e, updW_same]; exact R⟩
  simp only [fX10_lowerToJoined, ag_ok hj hn, ag_ok hk hn, ag_ok hi hn, obs, lt_, jn_, jn3, (R j hj).1, (R k hk).1, (R i hi).1, nI_add]
  rw [n41984]
  by_cases hlt : cN wt (ω j).1 + cN wt (ω k).1 < 41984
  · rw [if_neg (nI_ge (b := 41984) hlt (by decide))]
    obtain ⟨u, v, eu, ev, hlen, ec, ecat⟩ := cat_some_iff hw _ _ hlt
    by_cases hle : cN wt (ω j).1 + cN wt (ω k).1 ≤ cN wt (ω i).1
    · rw [if_pos (nI_le hle (by omega)), c_joinedHigh hw (WS_WR R) hn hj hk eu ev hlen, c_joinedLow hw (WS_WR R) hn hj hk eu ev hlen]
      have q1 : nI (cN wt (ω j).1 + cN wt (ω k).1) = nI (cN wt (catW (ω j) (ω k)).1) := by rw [ec]
      have q2 : hI (some (u ++ v)) = hI (catW (ω j) (ω k)).1 := by rw [ecat]
      have q3 : lI (some (u ++ v)) = lI (catW (ω j) (ω k)).1 := by rw [ecat]
      simp only [obs, w_isLess hw R hn hi (catW (ω j) (ω k)) q1 q2 q3]
      by_cases e : ky wt (catW (ω j) (ω k)) < ky wt (ω i)
      · obtain ⟨o, e1, R1⟩ := w_put R hn hi (catW (ω j) (ω k)) q1 q2 q3
        rw [if_neg (by simp [b01, e]), e1]
        refine ⟨o, by simp [bd3], ?_⟩
        unfold minW
        rw [if_pos e]; exact R1
      · rw [if_pos (by simp [b01, e])]
        exact same (by unfold minW; rw [if_neg e])
    · rw [if_neg (nI_ge (by omega) (by omega))]
      refine same ?_
      unfold minW
      rw [if_neg]
      rw [ky_lt_iff, ec]
      omega
  · rw [if_pos (nI_le (a := 41984) (by omega) (by omega))]
    refine same ?_
    rw [cat_none_of hw _ _ hlt, minW_no_r hw]
def wlI (o : wO) : Int32 := match o with
  | none => -2
  | some u => nI u.length
def wtI (o : wO) (x : Int32) : Int32 := match o with
  | none => -2
  | some u => if inI x u.length = true then nI (sy u x.toNatClampNeg) else -2
theorem w_lengthOf (hw : wt9 wt) (R : WS wt n c h l ω) (hn : Nat.ble n 100000 = true) {i : Nat} (hi : i < n) : fX10_lengthOf n c (nI i) = some (wlI (ω i).1) := by
  have l1 := cN_lt31 hw (ω i)
  have hok := (ω i).2
  simp only [fX10_lengthOf, w_exists hw R hn hi, ag_ok hi hn, obs, jn_, (R i hi).1]
  generalize (ω i).1 = o at *
  cases o with
  | none => simp [b01, wlI]
  | some u =>
    rw [if_neg (by simp [b01]), shr10 (by omega), cN_len hw hok]
    rfl
theorem valN_get : ∀ (u : List Nat) (k : Nat), t8 u → k < u.length → valN u / 8 ^ (u.length - 1 - k) % 8 = sy u k
  | [], _, _, h => by simp at h
  | t :: r, 0, h8, _ => by
    have h1 := valN_lt r (fun x hx => h8 x (List.mem_cons_of_mem _ hx))
    have h2 : t < 8 := h8 t List.mem_cons_self
    simp only [valN, List.length_cons]
    have e : r.length + 1 - 1 - 0 = r.length := by omega
    rw [e, Nat.add_comm, Nat.add_mul_div_right _ _ (Nat.pow_pos (by decide)), Nat.div_eq_of_lt h1, Nat.zero_add, Nat.mod_eq_of_lt h2]
    rfl
  | t :: r, k + 1, h8, hk => by
    have hk' : k < r.length := by simpa using hk
    have ih := valN_get r k (fun x hx => h8 x (List.mem_cons_of_mem _ hx)) hk'
    simp only [valN, List.length_cons]
    have e : r.length + 1 - 1 - (k + 1) = r.length - 1 - k := by omega
    have e2 : (8 : Nat) ^ r.length = 8 * 8 ^ k * 8 ^ (r.length - 1 - k) := by
      rw [← Nat.pow_succ', ← Nat.pow_add]; congr 1; omega
    rw [e, e2, ← Nat.mul_assoc, Nat.add_comm, Nat.add_mul_div_right _ _ (Nat.pow_pos (by decide))]
    have e3 : t * (8 * 8 ^ k) = 8 * (t * 8 ^ k) := Nat.mul_left_comm _ _ _
    rw [e3, Nat.add_mul_mod_self_left, ih]
    rfl
theorem dig_lo {v b : Nat} (hb : b < 20) : (v % 2 ^ 60) / 2 ^ (3 * b) % 8 = v / 8 ^ b % 8 := by
  have e1 : (2 : Nat) ^ 60 = 8 ^ b * 8 ^ (20 - b) := by rw [← Nat.pow_add, ← p860]; congr 1; omega
  have e2 : (2 : Nat) ^ (3 * b) = 8 ^ b := (p8 b).symm
  rw [e1, e2, Nat.mod_mul_right_div_self, Nat.mod_mod_of_dvd]
  exact ⟨8 ^ (20 - b - 1), by rw [← Nat.pow_succ']; congr 1; omega⟩
theorem dig_hi {v b : Nat} (hb : 20 ≤ b) : (v / 2 ^ 60) / 2 ^ (3 * (b - 20)) % 8 = v / 8 ^ b % 8 := by
  have e1 : (8 : Nat) ^ b = 2 ^ 60 * 2 ^ (3 * (b - 20)) := by rw [← p860, ← p8, ← Nat.pow_add]; congr 1; omega
  rw [e1, Nat.div_div_eq_div_mul]
theorem and7_N (a : Nat) : nI a &&& (7 : Int32) = nI (a % 8) := by
  rw [pk_and (nI a) 3 (by decide)]
  congr 1
  show a % 2 ^ 32 % 2 ^ 3 = a % 8
  omega
theorem w_terminalOf (hw : wt9 wt) (R : WS wt n c h l ω) (hn : Nat.ble n 100000 = true) {i : Nat} (hi : i < n) (x : Int32) : fX10_terminalOf n c h l (nI i) x = some (wtI (ω i).1 x) := by
  have hok := (ω i).2
  have hv := vN_lt hok
  have hh1 := vN_hi (ω i)
  have hl1 := vN_lo (ω i)
  simp only [fX10_terminalOf, w_lengthOf hw R hn hi, agL_ok hi hn, obs, jn_, lt_, (R i hi).2.1, (R i hi).2.2]
  generalize (ω i).1 = o at *
  cases o with
  | none =>
    have e0 : wlI none = -2 := rfl
    have e1 : wtI none x = -2 := rfl
    rw [e0, e1]
    by_cases h0 : x < 0
    · rw [if_pos h0]
    · rw [if_neg h0, if_neg]
      obtain ⟨j, hj, rfl⟩ := nI_of h0
      intro h1
      have a1 := Int32.lt_iff_toInt_lt.mp h1
      rw [nI_toInt hj] at a1
      have : ((-2 : Int32)).toInt = -2 := by decide
      omega
  | some u =>
    have h40 : u.length ≤ 40 := hok.2
    have e0 : wlI (some u) = nI u.length := rfl
    have e1 : wtI (some u) x = if inI x u.length = true then nI (sy u x.toNatClampNeg) else -2 := rfl
    rw [e0, e1]
    by_cases hx : inI x u.length = true
    · obtain ⟨j, hj, rfl⟩ := inI_of (by omega) hx
      rw [hx, if_neg (nI_pos (by omega)), if_pos (nI_lt hj (by omega)), if_pos rfl, nI_clamp (by omega)]
      have e1 : nI u.length - 1 - nI j = nI (u.length - 1 - j) := by
        rw [n1, pk_sub (by omega), pk_sub (by omega)]
      rw [e1]
      have hg := valN_get u j hok.1 hj
      simp only [hI, lI, vN] at hh1 hl1 ⊢
      have hb40 : u.length - 1 - j < 40 := by omega
      generalize u.length - 1 - j = b at *
      by_cases h20 : b < 20
      · rw [n20, if_neg (nI_ge (b := 20) h20 (by decide)), if_neg (nI_ge (b := 20) h20 (by decide))]
        have e3 : (3 : Int32) * nI b = nI (3 * b) := pk_mul 3 b
        rw [e3, lshr_N (p60_63 hl1) (by omega), lN_i, and7_N, dig_lo h20, hg]
      · have hge : (20 : Int32) ≤ nI b := nI_le (a := 20) (by omega) (by omega)
        rw [if_pos hge, if_pos hge]
        have e20 : nI b - 20 = nI (b - 20) := pk_sub (b := 20) (by omega)
        have e3 : (3 : Int32) * nI (b - 20) = nI (3 * (b - 20)) := pk_mul 3 (b - 20)
        rw [e20, e3, lshr_N (p60_63 hh1) (by omega), lN_i, and7_N, dig_hi (by omega), hg]
    · have hx' : inI x u.length = false := by simpa using hx
      rw [hx']
      rcases inI_not (by omega) hx with h1 | h1
      · rw [if_pos h1]; rfl
      · by_cases h0 : x < 0
        · rw [if_pos h0]; rfl
        · rw [if_neg h0, if_neg (Int32.not_lt.mpr h1)]; rfl
end WOPS
