/-! WORDS AS A TYPE, their order by one number, and what joining does to it -/
abbrev wW : Type := {o : wO // okW o}
def wNo : wW := ⟨none, trivial⟩
def wEm : wW := ⟨some [], by exact ⟨fun t ht => absurd ht List.not_mem_nil, Nat.zero_le _⟩⟩
theorem okW_one {t : Nat} (h : t < 8) : okW (some [t]) := ⟨fun x hx => by rw [List.mem_singleton.mp hx]; exact h, by simp⟩
def wT (t : Nat) : wW := if h : t < 8 then ⟨some [t], okW_one h⟩ else wNo
theorem wT_val {t : Nat} (h : t < 8) : (wT t).1 = some [t] := by unfold wT; rw [dif_pos h]
theorem cat_ok {a b : wO} (ha : okW a) (hb : okW b) : okW (cat a b) := by
  cases a with
  | none => exact trivial
  | some u =>
    cases b with
    | none => exact trivial
    | some v =>
      show okW (if (u ++ v).length ≤ 40 then some (u ++ v) else none)
      by_cases h : (u ++ v).length ≤ 40
      · rw [if_pos h]
        refine ⟨fun t ht => ?_, h⟩
        rcases List.mem_append.mp ht with h1 | h1
        · exact ha.1 t h1
        · exact hb.1 t h1
      · rw [if_neg h]; exact trivial
def catW (a b : wW) : wW := ⟨cat a.1 b.1, cat_ok a.2 b.2⟩
theorem cat_none_r (a : wO) : cat a none = none := by cases a <;> rfl
theorem cat_none_l (b : wO) : cat none b = none := by cases b <;> rfl
theorem cat_some (u v : List Nat) : cat (some u) (some v) = if (u ++ v).length ≤ 40 then some (u ++ v) else none := rfl
theorem cat_assoc (a b c : wO) : cat (cat a b) c = cat a (cat b c) := by
  cases a with
  | none => simp [cat_none_l]
  | some u =>
    cases b with
    | none => simp [cat_none_l, cat_none_r]
    | some v =>
      cases c with
      | none => simp [cat_none_r]
      | some w =>
        by_cases h : (u ++ v ++ w).length ≤ 40
        · have h1 : (u ++ v).length ≤ 40 := by simp only [List.length_append] at h ⊢; omega
          have h2 : (v ++ w).length ≤ 40 := by simp only [List.length_append] at h ⊢; omega
          rw [cat_some, cat_some, if_pos h1, if_pos h2, cat_some, cat_some, List.append_assoc]
        · have e1 : cat (cat (some u) (some v)) (some w) = none := by
            rw [cat_some]
            by_cases h1 : (u ++ v).length ≤ 40
            · rw [if_pos h1, cat_some, if_neg h]
            · rw [if_neg h1, cat_none_l]
          have e2 : cat (some u) (cat (some v) (some w)) = none := by
            rw [cat_some]
            by_cases h1 : (v ++ w).length ≤ 40
            · rw [if_pos h1, cat_some, if_neg (by rw [← List.append_assoc]; exact h)]
            · rw [if_neg h1, cat_none_r]
          rw [e1, e2]
theorem catW_assoc (a b c : wW) : catW (catW a b) c = catW a (catW b c) := Subtype.ext (cat_assoc _ _ _)
theorem cat_em_l {b : wO} (h : okW b) : cat (some []) b = b := by
  cases b with
  | none => rfl
  | some v => rw [cat_some, List.nil_append, if_pos h.2]
theorem cat_em_r {b : wO} (h : okW b) : cat b (some []) = b := by
  cases b with
  | none => rfl
  | some v => rw [cat_some, List.append_nil, if_pos h.2]
theorem catW_em_l (b : wW) : catW wEm b = b := Subtype.ext (cat_em_l b.2)
theorem catW_em_r (b : wW) : catW b wEm = b := Subtype.ext (cat_em_r b.2)
theorem catW_no_l (b : wW) : catW wNo b = wNo := Subtype.ext (cat_none_l b.1)
theorem catW_no_r (b : wW) : catW b wNo = wNo := Subtype.ext (cat_none_r b.1)
def ky (wt : Nat → Nat) (a : wW) : Nat := kN wt a.1
def topK : Nat := 41984 * 2 ^ 120
def wt9 (wt : Nat → Nat) : Prop := ∀ t, t < 8 → wt t ≤ 9
theorem valN_inj : ∀ (u v : List Nat), u.length = v.length → t8 u → t8 v → valN u = valN v → u = v
  | [], [], _, _, _, _ => rfl
  | [], _ :: _, h, _, _, _ => by simp at h
  | _ :: _, [], h, _, _, _ => by simp at h
  | a :: r, b :: t, h, h1, h2, h3 => by
    have hl : r.length = t.length := by simpa using h
    have hr := valN_lt r (fun x hx => h1 x (List.mem_cons_of_mem _ hx))
    have ht := valN_lt t (fun x hx => h2 x (List.mem_cons_of_mem _ hx))
    simp only [valN] at h3
    rw [hl] at h3 hr
    have hp : 0 < 8 ^ t.length := Nat.pow_pos (by decide)
    have ea : a = b := by
      rcases Nat.lt_trichotomy a b with e | e | e
      · have : (a + 1) * 8 ^ t.length ≤ b * 8 ^ t.length := Nat.mul_le_mul_right _ e
        rw [Nat.add_mul] at this
        omega
      · exact e
      · have : (b + 1) * 8 ^ t.length ≤ a * 8 ^ t.length := Nat.mul_le_mul_right _ e
        rw [Nat.add_mul] at this
        omega
    subst ea
    have er := valN_inj r t hl (fun x hx => h1 x (List.mem_cons_of_mem _ hx)) (fun x hx => h2 x (List.mem_cons_of_mem _ hx)) (by omega)
    rw [er]
/-- the number says: the cost first, the value behind -/
theorem pair_le {c c' v v' P : Nat} (h1 : v < P) (h2 : v' < P) : c * P + v ≤ c' * P + v' ↔ c < c' ∨ (c = c' ∧ v ≤ v') := by
  constructor
  · intro h
    rcases Nat.lt_trichotomy c c' with e | e | e
    · exact Or.inl e
    · subst e; exact Or.inr ⟨rfl, by omega⟩
    · have := Nat.mul_le_mul_right P e
      rw [Nat.succ_mul] at this
      omega
  · rintro (e | ⟨e, h⟩)
    · have := Nat.mul_le_mul_right P e
      rw [Nat.succ_mul] at this
      omega
    · subst e; omega
theorem pair_eq {c c' v v' P : Nat} (h1 : v < P) (h2 : v' < P) (h : c * P + v = c' * P + v') : c = c' ∧ v = v' := by
  have a := (pair_le h1 h2).mp (Nat.le_of_eq h)
  have b := (pair_le h2 h1).mp (Nat.le_of_eq h.symm)
  omega
theorem ky_le_iff (wt : Nat → Nat) (a b : wW) : ky wt a ≤ ky wt b ↔ cN wt a.1 < cN wt b.1 ∨ (cN wt a.1 = cN wt b.1 ∧ vN a.1 ≤ vN b.1) := pair_le (vN_lt a.2) (vN_lt b.2)
theorem ky_eq (wt : Nat → Nat) {a b : wW} (h : ky wt a = ky wt b) : cN wt a.1 = cN wt b.1 ∧ vN a.1 = vN b.1 := pair_eq (vN_lt a.2) (vN_lt b.2) h
theorem cN_none (wt : Nat → Nat) : cN wt none = 41984 := rfl
theorem ky_no (wt : Nat → Nat) : ky wt wNo = topK := by
  show 41984 * 2 ^ 120 + 0 = _
  rfl
theorem ky_le_top {wt : Nat → Nat} (hw : wt9 wt) (a : wW) : ky wt a ≤ topK := by
  rw [← ky_no wt, ky_le_iff]
  have h := cN_le hw a.2
  by_cases e : a.1 = none
  · rw [e]; exact Or.inr ⟨rfl, Nat.le_refl _⟩
  · exact Or.inl (h.2 e)
theorem ky_lt_top {wt : Nat → Nat} (hw : wt9 wt) (a : wW) : ky wt a < topK ↔ a.1 ≠ none := by
  constructor
  · intro h e
    have : a = wNo := Subtype.ext e
    rw [this, ky_no] at h
    omega
  · intro h
    rcases Nat.lt_or_ge (ky wt a) topK with e | e
    · exact e
    · have e : ky wt wNo ≤ ky wt a := by rw [ky_no]; exact e
      rw [ky_le_iff] at e
      have := (cN_le hw a.2).2 h
      have e2 : cN wt wNo.1 = 41984 := rfl
      omega
theorem ky_inj {wt : Nat → Nat} (hw : wt9 wt) {a b : wW} (h : ky wt a = ky wt b) : a = b := by
  obtain ⟨h1, h2⟩ := ky_eq wt h
  apply Subtype.ext
  obtain ⟨a, ha⟩ := a
  obtain ⟨b, hb⟩ := b
  simp only at h1 h2 ⊢
  cases a with
  | none =>
    cases b with
    | none => rfl
    | some v => have := (cN_le hw hb).2 (by simp); rw [cN_none] at h1; omega
  | some u =>
    cases b with
    | none => have := (cN_le hw ha).2 (by simp); rw [cN_none] at h1; omega
    | some v =>
      have l1 := cN_len hw ha
      have l2 := cN_len hw hb
      rw [h1, l2] at l1
      rw [valN_inj u v l1.symm ha.1 hb.1 h2]
theorem cN_cat {wt : Nat → Nat} {u v : List Nat} : cN wt (some (u ++ v)) = cN wt (some u) + cN wt (some v) := by
  simp only [cN, List.length_append, wsum_app]
  omega
theorem cat_le_key {wt : Nat → Nat} (hw : wt9 wt) {a a' b b' : wW} (h1 : ky wt a ≤ ky wt a') (h2 : ky wt b ≤ ky wt b') (ht : ky wt (catW a' b') < topK) : ky wt (catW a b) ≤ ky wt (catW a' b') ∧ (ky wt (catW a b) = ky wt (catW a' b') → a = a' ∧ b = b') := by
  rw [ky_lt_top hw] at ht
  obtain ⟨a, ha⟩ := a
  obtain ⟨b, hb⟩ := b
  obtain ⟨a', ha'⟩ := a'
  obtain ⟨b', hb'⟩ := b'
  rw [ky_le_iff] at h1 h2
  simp only [catW] at *
  cases a' with
  | none => rw [cat_none_l] at ht; exact absurd rfl ht
  | some u' =>
  cases b' with
  | none => rw [cat_none_r] at ht; exact absurd rfl ht
  | some v' =>
  have hlen : (u' ++ v').length ≤ 40 := by
    rw [cat_some] at ht
    by_cases h : (u' ++ v').length ≤ 40
    · exact h
    · rw [if_neg h] at ht; exact absurd rfl ht
  cases a with
  | none => have := (cN_le hw ha').2 (by simp); rw [cN_none] at h1; omega
  | some u =>
  cases b with
  | none => have := (cN_le hw hb').2 (by simp); rw [cN_none] at h2; omega
  | some v =>
  have lu := cN_len hw ha
  have lu' := cN_len hw ha'
  have lv := cN_len hw hb
  have lv' := cN_len hw hb'
  have ll : u.length ≤ u'.length ∧ v.length ≤ v'.length := by omega
  have hlen2 : (u ++ v).length ≤ 40 := by simp only [List.length_append] at hlen ⊢; omega
  have e1 : cat (some u) (some v) = some (u ++ v) := by rw [cat_some, if_pos hlen2]
  have e2 : cat (some u') (some v') = some (u' ++ v') := by rw [cat_some, if_pos hlen]
  have P1 : 0 < 8 ^ v.length := Nat.pow_pos (by decide)
  simp only [vN] at h1 h2
  have main : (cN wt (some u) < cN wt (some u') ∨ cN wt (some v) < cN wt (some v')) ∨ (cN wt (some u) = cN wt (some u') ∧ cN wt (some v) = cN wt (some v') ∧ valN u ≤ valN u' ∧ valN v ≤ valN v' ∧ v.length = v'.length ∧ u.length = u'.length) := by omega
  have key : ∀ (c c' : wW), c.1 = cat (some u) (some v) → c'.1 = cat (some u') (some v') → ky wt c ≤ ky wt c' ∧ (ky wt c = ky wt c' → u = u' ∧ v = v') := by
    intro c c' hc hc'
    rw [e1] at hc
    rw [e2] at hc'
    rw [ky_le_iff, hc, hc', cN_cat, cN_cat]
    refine ⟨?_, fun h => ?_⟩
    · rcases main with m | ⟨m1, m2, m3, m4, m5, _⟩
      · exact Or.inl (by omega)
      · refine Or.inr ⟨by omega, ?_⟩
        simp only [vN, valN_app]
        rw [m5]
        have := Nat.mul_le_mul_right (8 ^ v'.length) m3
        omega
    · have he := ky_eq wt h
      rw [hc, hc', cN_cat, cN_cat] at he
      simp only [vN, valN_app] at he
      rcases main with m | ⟨m1, m2, m3, m4, m5, m6⟩
      · omega
      · rw [← m5] at he
        have hu : valN u = valN u' := by
          rcases Nat.lt_or_ge (valN u) (valN u') with hlt | hge
          · have := Nat.mul_le_mul_right (8 ^ v.length) hlt
            rw [Nat.succ_mul] at this
            omega
          · omega
        have hv : valN v = valN v' := by rw [hu] at he; omega
        exact ⟨valN_inj u u' m6 ha.1 ha'.1 hu, valN_inj v v' m5 hb.1 hb'.1 hv⟩
  have k := key ⟨cat (some u) (some v), cat_ok ha hb⟩ ⟨cat (some u') (some v'), cat_ok ha' hb'⟩ rfl rfl
  refine ⟨k.1, fun h => ?_⟩
  obtain ⟨x1, x2⟩ := k.2 h
  subst x1 x2
  exact ⟨rfl, rfl⟩
theorem cat_mono {wt : Nat → Nat} (hw : wt9 wt) {a a' b b' : wW} (h1 : ky wt a ≤ ky wt a') (h2 : ky wt b ≤ ky wt b') : ky wt (catW a b) ≤ ky wt (catW a' b') := by
  rcases Nat.lt_or_ge (ky wt (catW a' b')) topK with h | h
  · exact (cat_le_key hw h1 h2 h).1
  · exact Nat.le_trans (ky_le_top hw _) h
def minW (wt : Nat → Nat) (a b : wW) : wW := if ky wt b < ky wt a then b else a
theorem minW_ky (wt : Nat → Nat) (a b : wW) : ky wt (minW wt a b) = min (ky wt a) (ky wt b) := by
  unfold minW
  by_cases h : ky wt b < ky wt a
  · rw [if_pos h]; omega
  · rw [if_neg h]; omega
theorem minW_le_l (wt : Nat → Nat) (a b : wW) : ky wt (minW wt a b) ≤ ky wt a := by rw [minW_ky]; omega
theorem minW_le_r (wt : Nat → Nat) (a b : wW) : ky wt (minW wt a b) ≤ ky wt b := by rw [minW_ky]; omega
theorem minW_ge {wt : Nat → Nat} {a b : wW} {k : Nat} (h1 : k ≤ ky wt a) (h2 : k ≤ ky wt b) : k ≤ ky wt (minW wt a b) := by rw [minW_ky]; omega
theorem minW_assoc {wt : Nat → Nat} (hw : wt9 wt) (a b c : wW) : minW wt (minW wt a b) c = minW wt a (minW wt b c) := ky_inj hw (by simp only [minW_ky]; omega)
theorem minW_no {wt : Nat → Nat} (hw : wt9 wt) (a : wW) : minW wt wNo a = a := ky_inj hw (by rw [minW_ky, ky_no]; have := ky_le_top hw a; omega)
theorem minW_no_r {wt : Nat → Nat} (hw : wt9 wt) (a : wW) : minW wt a wNo = a := ky_inj hw (by rw [minW_ky, ky_no]; have := ky_le_top hw a; omega)
theorem minW_cat {wt : Nat → Nat} (hw : wt9 wt) (a b c : wW) : catW (minW wt a b) c = minW wt (catW a c) (catW b c) := by
  apply ky_inj hw
  rw [minW_ky]
  unfold minW
  by_cases h : ky wt b < ky wt a
  · rw [if_pos h]
    have := cat_mono hw (Nat.le_of_lt h) (Nat.le_refl (ky wt c))
    omega
  · rw [if_neg h]
    have := cat_mono hw (Nat.le_of_not_lt h) (Nat.le_refl (ky wt c))
    omega
theorem minW_cat_l {wt : Nat → Nat} (hw : wt9 wt) (a b c : wW) : catW c (minW wt a b) = minW wt (catW c a) (catW c b) := by
  apply ky_inj hw
  rw [minW_ky]
  unfold minW
  by_cases h : ky wt b < ky wt a
  · rw [if_pos h]
    have := cat_mono hw (Nat.le_refl (ky wt c)) (Nat.le_of_lt h)
    omega
  · rw [if_neg h]
    have := cat_mono hw (Nat.le_refl (ky wt c)) (Nat.le_of_not_lt h)
    omega
