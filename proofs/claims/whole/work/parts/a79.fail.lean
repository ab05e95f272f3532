/-! FAILURE reports: begun, because, told -/
def FL (L : List (Int32 × Int32)) (levels : Int32) (codes details : Nat → Int32) : Prop := levels = nI L.length ∧ L.length ≤ 3 ∧ ∀ k x, L[k]? = some x → codes k = x.1 ∧ details k = x.2
theorem FL_app {L : List (Int32 × Int32)} {lv : Int32} {f g : Nat → Int32} (h : FL L lv f g) (h3 : L.length < 3) (a b : Int32) : FL (L ++ [(a, b)]) (nI (L.length + 1)) (upd f L.length a) (upd g L.length b) := by
  refine ⟨by rw [List.length_append]; rfl, by rw [List.length_append, List.length_singleton]; omega, fun k x hk => ?_⟩
  by_cases e : k < L.length
  · rw [List.getElem?_append_left e] at hk
    rw [pk_un (by omega), pk_un (by omega)]
    exact h.2.2 k x hk
  · rw [List.getElem?_append_right (by omega)] at hk
    have h1 := (List.getElem?_eq_some_iff.mp hk).1
    rw [List.length_singleton] at h1
    have : k = L.length := by omega
    subst this
    rw [Nat.sub_self] at hk
    injection hk with hk
    subst hk
    exact ⟨pk_us, pk_us⟩
theorem c_because {L : List (Int32 × Int32)} {lv : Int32} {f g : Nat → Int32} (h : FL L lv f g) (h3 : L.length < 3) (a b : Int32) : ∃ lv' f' g', fX1_because f g lv a b = some (f', g', lv') ∧ FL (L ++ [(a, b)]) lv' f' g' := by
  refine ⟨nI (L.length + 1), upd f L.length a, upd g L.length b, ?_, FL_app h h3 a b⟩
  simp only [fX1_because, jn3]
  rw [h.1, if_neg (nleL 3 3 h3), as_ok h3]
  simp only [obs]
  rw [as_ok h3]
  simp only [obs, lt_, nI_1]
theorem FL_nil (f g : Nat → Int32) : FL [] 0 f g := ⟨rfl, Nat.zero_le _, fun k x h => by simp at h⟩
theorem c_begin (lv : Int32) (f g : Nat → Int32) (a b : Int32) : ∃ lv' f' g', fX1_begin f g lv a b = some (f', g', lv') ∧ FL [(a, b)] lv' f' g' := by
  obtain ⟨lv', f', g', e, h⟩ := c_because (FL_nil f g) (by decide) a b
  refine ⟨lv', f', g', ?_, h⟩
  simp only [fX1_begin, e, bd3, obs]
theorem m_tellsAt {L : List (Int32 × Int32)} {lv : Int32} {f g : Nat → Int32} (h : FL L (nI L.length) f g) (h3 : L.length < 3) (a b : Int32) : ∃ lv' f' g', fX12_tells lv f g (nI L.length) a b = some (lv', f', g') ∧ FL (L ++ [(a, b)]) lv' f' g' := by
  refine ⟨nI (L.length + 1), upd f L.length a, upd g L.length b, ?_, FL_app h h3 a b⟩
  simp only [fX12_tells, lt_]
  rw [nI_1, as_ok h3]
  simp only [obs]
  rw [as_ok h3]
  rfl
theorem m_tells0 (lv : Int32) (f g : Nat → Int32) (a b : Int32) : ∃ lv' f' g', fX12_tells lv f g 0 a b = some (lv', f', g') ∧ FL [(a, b)] lv' f' g' := m_tellsAt (L := []) (lv := lv) (FL_nil f g) (by decide) a b
theorem m_tells1 {x : Int32 × Int32} {lv : Int32} {f g : Nat → Int32} (h : FL [x] lv f g) (a b : Int32) : ∃ lv' f' g', fX12_tells lv f g 1 a b = some (lv', f', g') ∧ FL [x, (a, b)] lv' f' g' := by
  have h1 := h.1
  subst h1
  exact m_tellsAt (L := [x]) h (by simp) a b
theorem m_tells2 {x y : Int32 × Int32} {lv : Int32} {f g : Nat → Int32} (h : FL [x, y] lv f g) (a b : Int32) : ∃ lv' f' g', fX12_tells lv f g 2 a b = some (lv', f', g') ∧ FL [x, y, (a, b)] lv' f' g' := by
  have h1 := h.1
  subst h1
  exact m_tellsAt (L := [x, y]) h (by simp) a b
def aFc (L : List (Int32 × Int32)) (x : Int32) : Int32 := match atI L x with
  | some y => y.1
  | none => -2
def aFd (L : List (Int32 × Int32)) (x : Int32) : Int32 := match atI L x with
  | some y => y.2
  | none => -2
theorem c_failure {L : List (Int32 × Int32)} {lv : Int32} {f g : Nat → Int32} (h : FL L lv f g) (x : Int32) : fX11_failureCode f lv x = some (aFc L x) ∧ fX11_failureDetail g lv x = some (aFd L x) := by
  have h3 := h.2.1
  have e : fX1_has lv x = some (b01 (inI x L.length)) := by rw [h.1]; exact c_has x (by omega)
  unfold aFc aFd
  simp only [fX11_failureCode, fX11_failureDetail, e, obs, jn_]
  by_cases hi : inI x L.length = true
  · obtain ⟨i, hil, rfl⟩ := inI_of (by omega) hi
    have e1 : L[i]? = some L[i] := List.getElem?_eq_getElem hil
    obtain ⟨e2, e3⟩ := h.2.2 i _ e1
    rw [atI_nI hil (by omega), e1, inI_nI hil (by omega), if_neg (by decide), if_neg (by decide), ag_ok (show i < 3 by omega), ag_ok (show i < 3 by omega), e2, e3]
    exact ⟨rfl, rfl⟩
  · have h' : inI x L.length = false := by simpa using hi
    rw [h', atI_not h', if_pos (by rfl), if_pos (by rfl)]
    exact ⟨rfl, rfl⟩
theorem m_failure {L : List (Int32 × Int32)} {lv : Int32} {f g : Nat → Int32} (h : FL L lv f g) (x : Int32) : fX12_failureCode lv f x = some (aFc L x) ∧ fX12_failureDetail lv g x = some (aFd L x) := by
  have h3 := h.2.1
  have e : fX12_in x 0 (lv - 1) = some (b01 (inI x L.length)) := by rw [h.1]; exact m_in x (by omega)
  unfold aFc aFd
  simp only [fX12_failureCode, fX12_failureDetail, e, obs, jn_]
  by_cases hi : inI x L.length = true
  · obtain ⟨i, hil, rfl⟩ := inI_of (by omega) hi
    have e1 : L[i]? = some L[i] := List.getElem?_eq_getElem hil
    obtain ⟨e2, e3⟩ := h.2.2 i _ e1
    rw [atI_nI hil (by omega), e1, inI_nI hil (by omega), if_neg (by decide), if_neg (by decide), ag_ok (show i < 3 by omega), ag_ok (show i < 3 by omega), e2, e3]
    exact ⟨rfl, rfl⟩
  · have h' : inI x L.length = false := by simpa using hi
    rw [h', atI_not h', if_pos (by rfl), if_pos (by rfl)]
    exact ⟨rfl, rfl⟩
