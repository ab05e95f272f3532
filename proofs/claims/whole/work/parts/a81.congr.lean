/-! ONLY THE EIGHT CELLS COUNT: conflicts, kinds, reports -/
section CG
variable {G : List gP} {E : Int32} {F F' W W' : Nat → Int32}
theorem okP_gp (hG : okG G) (p : Nat) : okP (gp G p) := by
  by_cases h : p < G.length
  · exact okG_gp hG h
  · have e : gp G p = (0, []) := by
      unfold gp
      rw [List.getD_eq_getElem?_getD, List.getElem?_eq_none (by omega)]
      rfl
    rw [e]
    exact ⟨by decide, by decide, fun s hs => absurd hs (by simp)⟩
theorem po_congr (hG : okG G) (hF : ∀ n, n < 8 → F n = F' n) (hW : ∀ n, n < 8 → W n = W' n) (n t : Nat) : po G E F W n t = po G E F' W' n t := by
  funext p
  unfold po
  rw [sel_congr hF hW (okP_gp hG p)]
theorem CL_congr (hG : okG G) (hF : ∀ n, n < 8 → F n = F' n) (hW : ∀ n, n < 8 → W n = W' n) : CL G E F W = CL G E F' W' := by
  unfold CL CLf
  congr 1
  funext c
  rw [po_congr hG hF hW]
theorem knd_congr (hG : okG G) (hF : ∀ n, n < 8 → F n = F' n) (t p q : Nat) : knd G E F t p q = knd G E F' t p q := by
  unfold knd
  rw [frst_congr hF _ (okP_gp hG p).2.2, frst_congr hF _ (okP_gp hG q).2.2]
theorem aKd_congr (hG : okG G) (hF : ∀ n, n < 8 → F n = F' n) (hW : ∀ n, n < 8 → W n = W' n) (x : Int32) : aKd G E F W x = aKd G E F' W' x := by
  unfold aKd
  rw [CL_congr hG hF hW]
  cases atI (CL G E F' W') x with
  | none => rfl
  | some y => exact knd_congr hG hF _ _ _
theorem ckA_congr (hG : okG G) (hF : ∀ n, n < 8 → F n = F' n) (hW : ∀ n, n < 8 → W n = W' n) : ckA G E F W = ckA G E F' W' := by
  unfold ckA
  rw [CL_congr hG hF hW]
theorem ckL_congr (hG : okG G) (hF : ∀ n, n < 8 → F n = F' n) (hW : ∀ n, n < 8 → W n = W' n) (L : List (Int32 × Int32)) : ckL G E F W L = ckL G E F' W' L := by
  unfold ckL
  rw [CL_congr hG hF hW]
  cases (CL G E F' W')[0]? with
  | none => rfl
  | some y => simp only [knd_congr hG hF]
end CG
