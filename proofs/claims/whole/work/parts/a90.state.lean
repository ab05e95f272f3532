/-! THE RULES' HALF of the state: what class and reference hold of a grammar, its past, its sets, the kept sets, the report -/
def KS (E : Int32) (F W : Nat → Int32) (E0 : Int32) (F0 W0 : Nat → Int32) (ik ke : Int32) (kf kw : Nat → Int32) : Prop := (ik = 1 ∧ ke = E0 ∧ ∀ n, n < 8 → kf n = F0 n ∧ kw n = W0 n) ∨ (ik = 0 ∧ E0 = E ∧ ∀ n, n < 8 → F0 n = F n ∧ W0 n = W n)
def ER (G : List gP) (hs : List (List gP)) (L : List (Int32 × Int32)) (codes : Nat → Int32) (count : Int32) (sc : Nat → Nat → Int32) (sn : Nat → Int32) (nw sz E : Int32) (F W : Nat → Int32) (E0 : Int32) (F0 W0 se ps lo : Nat → Int32) (cf : Int32) (fc fd : Nat → Int32) (fl : Int32) (c : Nat → Int32) (h l : Nat → Int64) (pk key rules : Int32) (lefts sizes rights : Nat → Int32) (ed : Int32) (pr pl pz pg : Nat → Int32) (lv : Int32) (mc md : Nat → Int32) (iw e : Int32) (f w : Nat → Int32) (ik ke : Int32) (kf kw st lg : Nat → Int32) : Prop := RC codes count G ∧ RM rules lefts sizes rights G ∧ okG G ∧ HC hs sc sn nw sz ∧ HM hs ed pr pl pz pg ∧ SetsOK G E F W ∧ TB G E F W se ps lo cf ∧ ExI G E c h l pk key ∧ FL L fl fc fd ∧ FL L lv mc md ∧ (iw = 0 ∨ (iw = 1 ∧ ∃ v, WK G E F W e f w st lg v)) ∧ KS E F W E0 F0 W0 ik ke kf kw
theorem ExI_ws {G : List gP} {E : Int32} {c : Nat → Int32} {h l : Nat → Int64} {pk key : Int32} (hx : ExI G E c h l pk key) : ∃ ω, WS w0 362 c h l ω := by
  rcases hx with ⟨_, _, ω, hw⟩ | ⟨_, ω, pv, hp, _⟩
  · exact ⟨ω, hw⟩
  · exact ⟨ω, hp.1⟩
theorem c_save2 {hs : List (List gP)} {sc : Nat → Nat → Int32} {sn : Nat → Int32} {nw sz : Int32} (h : HC hs sc sn nw sz) {codes : Nat → Int32} {count : Int32} {G : List gP} (hc : RC codes count G) (hG : okG G) : ∃ j sc' sn' nw' sz', fX2_save sc sn nw sz codes count = some (j, sc', sn', nw', sz') ∧ HC ((G :: hs).take 10) sc' sn' nw' sz' ∧ j < 10 ∧ RC (sc' j) (sn' j) G := by
  obtain ⟨j, sc', sn', nw', sz', e, hC⟩ := c_save h hc hG
  refine ⟨j, sc', sn', nw', sz', e, hC, ?_⟩
  obtain ⟨h10, _, nw0, hnw0, rfl, _⟩ := h
  have e1 : nI (nw0 + 1) - nI (nw0 + 1) / (10 : Int32) * (10 : Int32) = nI ((nw0 + 1) % 10) := pk_rem (d := 10) (by omega) (by decide) (by decide)
  have hj : (nw0 + 1) % 10 < 10 := Nat.mod_lt _ (by decide)
  obtain ⟨f1, b1, b2⟩ := c_become (codes' := sc ((nw0 + 1) % 10)) (count' := sn ((nw0 + 1) % 10)) hc hG
  simp only [fX2_save, nI_1, lt_, e1, agR_ok hj, obs, b1, bd2] at e
  injection e with e
  injection e with e2 e3
  injection e3 with e3 e4
  injection e4 with e4 e5
  rw [← e2, ← e3, ← e4]
  refine ⟨hj, ?_⟩
  have u1 : va_up sc ((nw0 + 1) % 10) f1 ((nw0 + 1) % 10) = f1 := by simp [va_up]
  have u2 : va_up sn ((nw0 + 1) % 10) count ((nw0 + 1) % 10) = count := by simp [va_up]
  rw [u1, u2]
  exact b2
theorem c_beginEdit {hs : List (List gP)} {sc : Nat → Nat → Int32} {sn : Nat → Int32} {nw sz : Int32} (h : HC hs sc sn nw sz) {codes : Nat → Int32} {count : Int32} {G : List gP} (hc : RC codes count G) (hG : okG G) (E : Int32) (F W : Nat → Int32) (E0 : Int32) (F0 W0 : Nat → Int32) : ∃ j sc' sn' nw' sz' f1 f2, fX11_beginEdit codes count sc sn nw sz E F W E0 F0 W0 = some (j, sc', sn', nw', sz', E, f1, f2) ∧ HC ((G :: hs).take 10) sc' sn' nw' sz' ∧ j < 10 ∧ RC (sc' j) (sn' j) G ∧ (∀ n, n < 8 → f1 n = F n) ∧ ∀ n, n < 8 → f2 n = W n := by
  obtain ⟨j, sc', sn', nw', sz', e, a1, a2, a3⟩ := c_save2 h hc hG
  obtain ⟨f1, f2, e2, b1, b2⟩ := c_setsBecome E0 E F0 F W0 W
  refine ⟨j, sc', sn', nw', sz', f1, f2, ?_, a1, a2, a3, b1, b2⟩
  simp only [fX11_beginEdit, e2, bd3, obs, e, bd5]
theorem c_endChange {codes : Nat → Int32} {count : Int32} {G : List gP} (hc : RC codes count G) (hG : okG G) (E : Int32) (F W se ps lo : Nat → Int32) (cf pk key : Int32) {N : Nat} (hN : 2000 < N) : ∃ E' F' W' se' ps' lo' cf', fX11_endChange N codes count E F W se ps lo cf pk key = some (E', F', W', se', ps', lo', cf', 0, -1) ∧ SetsOK G E' F' W' ∧ TB G E' F' W' se' ps' lo' cf' := by
  obtain ⟨E', F', W', e1, a1⟩ := c_compute hc hG hN E F W
  obtain ⟨se', ps', lo', cf', e2, a2⟩ := c_table (E := E') (F := F') (W := W') hc hG se ps lo cf (show 100 < N by omega)
  refine ⟨E', F', W', se', ps', lo', cf', ?_, a1, a2⟩
  simp only [fX11_endChange, e1, bd3, obs, e2, bd4, fX0_forget, bd2]
