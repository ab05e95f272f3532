/-! THE CALL check on both sides -/
section CK
variable {codes : Nat → Int32} {count rules : Int32} {lefts sizes rights : Nat → Int32} {G : List gP} {E : Int32} {F W : Nat → Int32}
def ckL (G : List gP) (E : Int32) (F W : Nat → Int32) (L : List (Int32 × Int32)) : List (Int32 × Int32) := match (CL G E F W)[0]? with
  | none => L
  | some y => [(8, nI (CL G E F W).length), (9, nI (y.1 / 9)), ((10 : Int32) + knd G E F (y.1 % 9) y.2.1 y.2.2, nI (y.1 % 9))]
def ckA (G : List gP) (E : Int32) (F W : Nat → Int32) : Int32 := if (CL G E F W).length = 0 then 0 else -5
theorem c_check (hc : RC codes count G) (hG : okG G) {se ps lo : Nat → Int32} (hT : TBx G E F W 0 se ps lo) {L : List (Int32 × Int32)} {lv : Int32} {f g : Nat → Int32} (hF : FL L lv f g) {N : Nat} (hN : 100 < N) : ∃ f' g' lv', fX11_check N codes count E F se ps (nI (CL G E F W).length) f g lv = some (ckA G E F W, f', g', lv') ∧ FL (ckL G E F W L) lv' f' g' := by
  have hle := CL_le (E := E) (F := F) (W := W) hG
  have hl := hG.1
  unfold ckA ckL
  simp only [fX11_check]
  by_cases h0 : (CL G E F W).length = 0
  · have e1 : (CL G E F W)[0]? = none := List.getElem?_eq_none (by omega)
    rw [e1, if_pos h0, if_pos (by rw [h0]; rfl)]
    exact ⟨f, g, lv, rfl, hF⟩
  · have hp : 0 < (CL G E F W).length := by omega
    have e1 : (CL G E F W)[0]? = some (CL G E F W)[0] := List.getElem?_eq_getElem hp
    obtain ⟨m1, m2, m3⟩ := CL_mem (List.getElem_mem hp)
    obtain ⟨p0, p1, p2, p3⟩ := c_partOf m1 (show (CL G E F W)[0].2.1 < 24 by omega) (show (CL G E F W)[0].2.2 < 24 by omega)
    have hat : fX8_conflictAt N codes count se ps 0 = some (nI (cfI (CL G E F W)[0].1 (CL G E F W)[0].2.1 (CL G E F W)[0].2.2)) := by
      have := c_conflictAt hc hG hT (i := 0) (by decide) hN
      rw [fnd_some e1] at this
      exact this
    rw [e1, if_neg h0, if_neg (nI_ne0 (by omega) (by omega)), hat]
    generalize (CL G E F W)[0] = y at *
    obtain ⟨lv1, f1, g1, t1, r1⟩ := c_begin lv f g 8 (nI (CL G E F W).length)
    obtain ⟨lv2, f2, g2, t2, r2⟩ := c_because r1 (by simp) 9 (nI (y.1 / 9))
    obtain ⟨lv3, f3, g3, t3, r3⟩ := c_because r2 (by simp) ((10 : Int32) + knd G E F (y.1 % 9) y.2.1 y.2.2) (nI (y.1 % 9))
    refine ⟨f3, g3, lv3, ?_, r3⟩
    simp only [obs, t1, bd3, p0, p1, c_kindOf hc hG m1 m2 m3 (show 5 < N by omega), t2, t3]
theorem m_check (hM : RM rules lefts sizes rights G) (hG : okG G) {L : List (Int32 × Int32)} {lv : Int32} {f g : Nat → Int32} (hF : FL L lv f g) {wk : Int32} {e0 : Int32} {f0 w0 : Nat → Int32} {s0 l0 t0 : Nat → Int32} {tl0 : Int32} {o1 : Int32} {s1 l1 t1 : Nat → Int32} {tl1 : Int32} {N : Nat} (hw : fX12_works N rules lefts sizes rights wk e0 f0 w0 s0 l0 t0 tl0 = some (o1, E, F, W, s1, l1, t1, tl1)) (a b c d : Int32) (hN : 30 < N) : ∃ lv' f' g' a' b' c' d', fX12_check N rules lefts sizes rights lv f g wk e0 f0 w0 s0 l0 t0 tl0 a b c d = some (ckA G E F W, lv', f', g', o1, E, F, W, s1, l1, t1, tl1, a', b', c', d') ∧ FL (ckL G E F W L) lv' f' g' := by
  have hle := CL_le (E := E) (F := F) (W := W) hG
  unfold ckA ckL
  simp only [fX12_check, hw, bd8, obs, m_conflictMany hM hG a b c d hN, bd5]
  by_cases h0 : (CL G E F W).length = 0
  · have e1 : (CL G E F W)[0]? = none := List.getElem?_eq_none (by omega)
    rw [e1, if_pos h0, if_pos (by rw [h0]; rfl)]
    exact ⟨lv, f, g, a, b, c, d, rfl, hF⟩
  · rw [if_neg h0, if_neg (nI_ne0 (by omega) (by omega))]
    rcases m_isConflict hM hG a b c d 0 (E := E) (F := F) (W := W) hN with ⟨h', e⟩ | ⟨i, y, e0', hi, e1, e⟩
    · have := inI_nI (show 0 < (CL G E F W).length by omega) (by omega)
      have h'' : inI (nI 0) (CL G E F W).length = false := h'
      rw [this] at h''
      exact absurd h'' (by decide)
    · have : i = 0 := by
        have h2 : nI 0 = nI i := e0'
        rw [nI_eq (by decide) (by omega)] at h2
        omega
      subst this
      have hm := CL_mem (List.mem_of_getElem? e1)
      rw [e1]
      obtain ⟨lv1, f1, g1, k1, r1⟩ := m_tells0 lv f g 8 (nI (CL G E F W).length)
      obtain ⟨lv2, f2, g2, k2, r2⟩ := m_tells1 r1 9 (nI (y.1 / 9))
      obtain ⟨lv3, f3, g3, k3, r3⟩ := m_tells2 r2 ((10 : Int32) + knd G E F (y.1 % 9) y.2.1 y.2.2) (nI (y.1 % 9))
      refine ⟨lv3, f3, g3, nI (y.1 / 9), nI (y.1 % 9), nI y.2.1, nI y.2.2, ?_, r3⟩
      simp only [e, bd5, obs, k1, bd3, k2, m_kindNow hM hG hm.2.1 hm.2.2 (show 5 < N by omega), k3]
end CK
