/-! THE REFERENCE'S STRINGS: a slot's string, what is being tried -/
def lnI (o : wO) : Int32 := match o with
  | none => -1
  | some u => nI u.length
def SS (strings longs : Nat → Int32) (s : Nat) (x : wO) : Prop := longs s = lnI x ∧ ∀ u, x = some u → ∀ k, k < u.length → strings (40 * s + k) = nI (sy u k)
def TR (trial : Nat → Int32) (tl : Int32) (x : wO) : Prop := tl = lnI x ∧ ∀ u, x = some u → ∀ k, k < u.length → trial k = nI (sy u k)
theorem lnI_none : lnI none = -1 := rfl
theorem lnI_some (u : List Nat) : lnI (some u) = nI u.length := rfl
theorem sy_app_l {u v : List Nat} {k : Nat} (h : k < u.length) : sy (u ++ v) k = sy u k := by
  unfold sy
  rw [List.getD_eq_getElem?_getD, List.getD_eq_getElem?_getD, List.getElem?_append_left h]
theorem sy_app_end (u : List Nat) (t : Nat) : sy (u ++ [t]) u.length = t := by
  unfold sy
  rw [List.getD_eq_getElem?_getD, List.getElem?_append_right (Nat.le_refl _), Nat.sub_self]
  rfl
theorem sy_drop {w : List Nat} {a j : Nat} : sy (w.drop a) j = sy w (a + j) := by
  unfold sy
  rw [List.getD_eq_getElem?_getD, List.getD_eq_getElem?_getD, List.getElem?_drop]
theorem take_sy {w : List Nat} {j : Nat} (h : j < w.length) : w.take (j + 1) = w.take j ++ [sy w j] := by
  rw [List.take_add_one, sy_get h]
  rfl
theorem ok40 {u : List Nat} (h : okW (some u)) : u.length ≤ 40 := h.2
theorem lnI_neg {x : wO} (h : okW x) : lnI x < 0 ↔ x = none := by
  cases x with
  | none => exact ⟨fun _ => rfl, fun _ => by decide⟩
  | some u =>
    have := ok40 h
    rw [lnI_some]
    exact ⟨fun q => absurd q (nI_pos (by omega)), fun q => by simp at q⟩
theorem m_tries (tl : Int32) : fX12_tries tl = some 0 := rfl
theorem TR_em (trial : Nat → Int32) : TR trial 0 (some []) := ⟨rfl, fun u hu k hk => by
  have : u = [] := (Option.some.inj hu).symm
  subst this
  simp at hk⟩
theorem m_adds {trial : Nat → Int32} {tl : Int32} {x : wO} (hx : okW x) (h : TR trial tl x) (t : Nat) : ∃ o : (Nat → Int32) × Int32, fX12_adds trial tl (nI t) = some o ∧ TR o.1 o.2 (cat x (some [t])) := by
  obtain ⟨h1, h2⟩ := h
  subst h1
  simp only [fX12_adds, jn2, jn_, lt_]
  cases x with
  | none =>
    rw [if_pos (by decide)]
    exact ⟨_, rfl, rfl, fun u hu => by simp [cat_none_l] at hu⟩
  | some u =>
    have h40 := ok40 hx
    rw [lnI_some, if_neg (nI_pos (by omega))]
    by_cases hl : 40 ≤ u.length
    · rw [if_pos (leL 40 40 hl (by omega))]
      have e : cat (some u) (some [t]) = none := by rw [cat_some, if_neg (by simp; omega)]
      rw [e]
      exact ⟨_, rfl, rfl, fun u hu => by simp at hu⟩
    · rw [if_neg (nleL 40 40 (by omega)), as_ok (show u.length < 40 by omega)]
      have e : cat (some u) (some [t]) = some (u ++ [t]) := by rw [cat_some, if_pos (by simp; omega)]
      rw [e]
      simp only [obs]
      refine ⟨_, rfl, ?_, fun y hy k hk => ?_⟩
      · show nI u.length + 1 = nI (u ++ [t]).length
        rw [nI_1]; simp
      · have : y = u ++ [t] := (Option.some.inj hy).symm
        subst this
        by_cases ek : k = u.length
        · subst ek
          show upd trial u.length (nI t) u.length = _
          rw [pk_us, sy_app_end]
        · have hk' : k < u.length := by simp at hk; omega
          show upd trial u.length (nI t) k = _
          rw [pk_un ek, sy_app_l hk', h2 u rfl k hk']
theorem cat_take_none {x : wO} {u : List Nat} (j : Nat) (hu : u.length ≤ 40) (h : cat x (some (u.take j)) = none) : cat x (some u) = none := by
  have e : cat (some (u.take j)) (some (u.drop j)) = some u := by
    rw [cat_some, List.take_append_drop, if_pos hu]
  rw [← e, ← cat_assoc, h, cat_none_l]
theorem cat_take_succ {x : wO} {u : List Nat} {j : Nat} (hu : u.length ≤ 40) (hj : j < u.length) : cat (cat x (some (u.take j))) (some [sy u j]) = cat x (some (u.take (j + 1))) := by
  rw [cat_assoc, cat_some, ← take_sy hj, if_pos (by rw [List.length_take]; omega)]
theorem okW_take {u : List Nat} (h : okW (some u)) (j : Nat) : okW (some (u.take j)) := ⟨fun t ht => h.1 t (List.mem_of_mem_take ht), by have := ok40 h; rw [List.length_take]; omega⟩
theorem m_addsSlot {strings longs trial : Nat → Int32} {tl : Int32} {x y : wO} (hx : okW x) (hy : okW y) {s : Nat} (hs : s < 32) (hS : SS strings longs s y) (h : TR trial tl x) {N : Nat} (hN : 50 < N) : ∃ o : (Nat → Int32) × Int32, fX12_addsSlot N strings longs trial tl (nI s) = some o ∧ TR o.1 o.2 (cat x y) := by
  obtain ⟨s1, s2⟩ := hS
  simp only [fX12_addsSlot, ag_ok hs, obs, s1, jn_, jn2]
  cases y with
  | none =>
    rw [lnI_none, if_neg (by decide), cat_none_r]
    refine vlp3 (B := bX12_addsSlot_16 (nI s) strings longs fun v3 v4 => some (v3, v4)) (fun j i tr tl => i = 0 ∧ tl = -1) (fun r => ∃ o : (Nat → Int32) × Int32, r = some o ∧ TR o.1 o.2 none) 0 (fun j _ _ _ hj => absurd hj (Nat.not_lt_zero _)) ?_ N 0 trial (-1) (by omega) ⟨rfl, rfl⟩
    rintro i tr tl ⟨rfl, rfl⟩
    refine ⟨_, ⟨(tr, -1), rfl, rfl, fun u hu => by simp at hu⟩, fun rc => ?_⟩
    simp only [bX12_addsSlot_16, ag_ok hs, obs, s1]
    rw [lnI_none, if_pos (by decide)]
  | some u =>
    have h40 := ok40 hy
    rw [lnI_some, if_pos (nI_pos' (by omega))]
    refine vlp3 (B := bX12_addsSlot_16 (nI s) strings longs fun v3 v4 => some (v3, v4)) (fun j i tr tl => i = nI j ∧ j ≤ u.length ∧ TR tr tl (cat x (some (u.take j)))) (fun r => ∃ o : (Nat → Int32) × Int32, r = some o ∧ TR o.1 o.2 (cat x (some u))) u.length ?_ ?_ N 0 trial tl (by omega) ⟨rfl, Nat.zero_le _, by rw [List.take_zero, cat_em_r hx]; exact h⟩
    · rintro j i tr tl hj ⟨rfl, _, hT⟩
      have hok : okW (cat x (some (u.take j))) := cat_ok hx (okW_take hy j)
      by_cases hn : tl < 0
      · right
        rw [hT.1, lnI_neg hok] at hn
        refine ⟨_, ⟨(tr, tl), rfl, ?_⟩, fun rc => ?_⟩
        · rw [cat_take_none j h40 hn]
          rw [hn] at hT; exact hT
        · simp only [bX12_addsSlot_16, ag_ok hs, obs, s1]
          rw [lnI_some, if_neg (nI_ge hj (by omega)), if_pos (by rw [hT.1, lnI_neg hok]; exact hn)]
      · left
        obtain ⟨o, e, hT2⟩ := m_adds hok hT (sy u j)
        rw [cat_take_succ h40 hj] at hT2
        refine ⟨nI (j + 1), o.1, o.2, ⟨rfl, by omega, hT2⟩, fun rc => ?_⟩
        simp only [bX12_addsSlot_16, ag_ok hs, obs, s1]
        have e40 : (40 : Int32) * nI s = nI (40 * s) := pk_mul 40 s
        rw [lnI_some, if_neg (nI_ge hj (by omega)), if_neg hn, e40, nI_add, ag_ok (show 40 * s + j < 1280 by omega)]
        simp only [obs, s2 u rfl j hj, e, bd2, lt_, nI_1]
    · rintro i tr tl ⟨rfl, _, hT⟩
      rw [List.take_length] at hT
      refine ⟨_, ⟨(tr, tl), rfl, hT⟩, fun rc => ?_⟩
      simp only [bX12_addsSlot_16, ag_ok hs, obs, s1]
      rw [lnI_some, if_pos (Int32.le_refl _)]
theorem clv_app (v : vW) : ∀ a b, clv v (a ++ b) = catW (clv v a) (clv v b)
  | [], b => by simp only [List.nil_append, clv]; rw [catW_em_l]
  | s :: r, b => by simp only [List.cons_append, clv]; rw [clv_app v r b, catW_assoc]
theorem clv_one (v : vW) (s : Nat) : clv v [s] = pwS v s := by simp only [clv]; rw [catW_em_r]
theorem clv_take {v : vW} {w : List Nat} {j : Nat} (h : j < w.length) : clv v (w.take (j + 1)) = catW (clv v (w.take j)) (pwS v (sy w j)) := by
  rw [take_sy h, clv_app, clv_one]
theorem clv_take_none {v : vW} {x : wO} {w : List Nat} (j : Nat) (h : cat x (clv v (w.take j)).1 = none) : cat x (clv v w).1 = none := by
  have e : clv v w = catW (clv v (w.take j)) (clv v (w.drop j)) := by rw [← clv_app, List.take_append_drop]
  rw [e]
  show cat x (cat _ _) = none
  rw [← cat_assoc, h, cat_none_l]
section MW
variable {rules : Int32} {lefts sizes rights : Nat → Int32} {G : List gP}
theorem m_addsShortest (hM : RM rules lefts sizes rights G) (hG : okG G) {p : Nat} (hp : p < G.length) {strings longs trial : Nat → Int32} {tl : Int32} {x : wO} {v : vW} (hx : okW x) (hS : ∀ n, n < 8 → SS strings longs n (v n).1) (h : TR trial tl x) {a b : Nat} (hab : a ≤ b) (hb : b ≤ (gp G p).2.length) {N : Nat} (hN : 50 < N) : ∃ o : (Nat → Int32) × Int32, fX12_addsShortest N rights strings longs trial tl (nI p) (nI a) (nI b) = some o ∧ TR o.1 o.2 (cat x (clv v (((gp G p).2.drop a).take (b - a))).1) := by
  have hq := okG_gp hG hp
  have h5 := hq.2.1
  have hl := hG.1
  simp only [fX12_addsShortest, jn2]
  refine vlp3 (B := bX12_addsShortest_3 N (nI p) (nI b) rights strings longs fun v1 v2 => some (v1, v2)) (fun j i tr tl => i = nI (a + j) ∧ j ≤ b - a ∧ TR tr tl (cat x (clv v (((gp G p).2.drop a).take j)).1)) (fun r => ∃ o : (Nat → Int32) × Int32, r = some o ∧ TR o.1 o.2 (cat x (clv v (((gp G p).2.drop a).take (b - a))).1)) (b - a) ?_ ?_ N (nI a) trial tl (by omega) ⟨rfl, Nat.zero_le _, by
    rw [List.take_zero]
    show TR trial tl (cat x (some []))
    rw [cat_em_r hx]; exact h⟩
  · rintro j i tr tl hj ⟨rfl, _, hT⟩
    have hok : okW (cat x (clv v (((gp G p).2.drop a).take j)).1) := cat_ok hx (clv v _).2
    have hi : a + j < (gp G p).2.length := by omega
    by_cases hn : tl < 0
    · right
      have hn2 := hn
      rw [hT.1, lnI_neg hok] at hn2
      refine ⟨_, ⟨(tr, tl), rfl, ?_⟩, fun rc => ?_⟩
      · have : cat x (clv v (((gp G p).2.drop a).take (b - a))).1 = none := by
          refine clv_take_none j ?_
          rw [List.take_take, Nat.min_eq_left (by omega)]; exact hn2
        rw [this]
        rw [hn2] at hT; exact hT
      · simp only [bX12_addsShortest_3]
        rw [if_neg (nI_ge (by omega) (by omega)), if_pos hn]
    · left
      have hs := okP_sy hq hi
      have hs18 := okS_lt hs
      have hstep : cat (cat x (clv v (((gp G p).2.drop a).take j)).1) (pwS v (sy (gp G p).2 (a + j))).1 = cat x (clv v (((gp G p).2.drop a).take (j + 1))).1 := by
        rw [clv_take (by rw [List.length_drop]; omega), sy_drop, cat_assoc]
        rfl
      generalize hsy : sy (gp G p).2 (a + j) = s at *
      by_cases h10 : s < 10
      · obtain ⟨o, e, hT2⟩ := m_adds hok hT s
        have e2 : (pwS v s).1 = some [s] := by
          unfold pwS
          rw [if_pos h10, wT_val]
          rcases hs with h8 | h8 <;> omega
        rw [e2] at hstep
        rw [hstep] at hT2
        refine ⟨nI (a + (j + 1)), o.1, o.2, ⟨rfl, by omega, hT2⟩, fun rc => ?_⟩
        simp only [bX12_addsShortest_3]
        rw [if_neg (nI_ge (by omega) (by omega)), if_neg hn, m_symbol hM hG hp hi, hsy]
        simp only [obs, jn2, lt_]
        rw [if_neg (nle10 h10)]
        simp only [e, bd2, obs, nI_1]
        rfl
      · obtain ⟨o, e, hT2⟩ := m_addsSlot hok (v (s - 10)).2 (show s - 10 < 32 by omega) (hS (s - 10) (by omega)) hT hN
        have e2 : pwS v s = v (s - 10) := by
          unfold pwS
          rw [if_neg h10]
        rw [e2] at hstep
        rw [hstep] at hT2
        refine ⟨nI (a + (j + 1)), o.1, o.2, ⟨rfl, by omega, hT2⟩, fun rc => ?_⟩
        simp only [bX12_addsShortest_3]
        rw [if_neg (nI_ge (by omega) (by omega)), if_neg hn, m_symbol hM hG hp hi, hsy]
        simp only [obs, jn2, lt_]
        rw [if_pos (le10 h10 hs18), sub10 h10]
        simp only [e, bd2, obs, nI_1]
        rfl
  · rintro i tr tl ⟨rfl, _, hT⟩
    refine ⟨_, ⟨(tr, tl), rfl, hT⟩, fun rc => ?_⟩
    simp only [bX12_addsShortest_3]
    rw [if_pos (nI_le (by omega) (by omega))]
end MW
theorem lex_lt : ∀ (u w : List Nat) (k : Nat), u.length = w.length → t8 u → t8 w → k < u.length → (∀ j, j < k → sy u j = sy w j) → sy u k < sy w k → valN u < valN w
  | [], _, k, _, _, _, hk, _, _ => by simp at hk
  | _ :: _, [], _, h, _, _, _, _, _ => by simp at h
  | a :: r, b :: t, 0, h, h1, h2, _, _, hlt => by
    have hl : r.length = t.length := by simpa using h
    have hr := valN_lt r (fun x hx => h1 x (List.mem_cons_of_mem _ hx))
    have hab : a < b := hlt
    simp only [valN]
    rw [hl] at hr ⊢
    have := Nat.mul_le_mul_right (8 ^ t.length) hab
    rw [Nat.succ_mul] at this
    omega
  | a :: r, b :: t, k + 1, h, h1, h2, hk, he, hlt => by
    have hl : r.length = t.length := by simpa using h
    have hab : a = b := he 0 (by omega)
    have ih := lex_lt r t k hl (fun x hx => h1 x (List.mem_cons_of_mem _ hx)) (fun x hx => h2 x (List.mem_cons_of_mem _ hx)) (by simpa using hk) (fun j hj => he (j + 1) (by omega)) hlt
    simp only [valN]
    rw [hl, hab]
    omega
theorem sy_ext {u w : List Nat} (h : u.length = w.length) (he : ∀ k, k < u.length → sy u k = sy w k) : u = w := by
  apply List.ext_getElem?
  intro i
  by_cases hi : i < u.length
  · rw [sy_get hi, sy_get (by omega), he i hi]
  · rw [List.getElem?_eq_none (by omega), List.getElem?_eq_none (by omega)]
