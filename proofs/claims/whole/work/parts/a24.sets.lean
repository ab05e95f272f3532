/-! NULLABLE, FIRST, FOLLOW over a right side -/
theorem bit01 (E : Int32) (j : Nat) : ((E >>> (nI j &&& (31 : Int32))) &&& (1 : Int32)) = b01 (tb E j) := by
  obtain ⟨k, hk, e⟩ := pk_andE (E >>> (nI j &&& (31 : Int32))) (m := 1) 1 (by decide)
  unfold tb b01
  rw [e]
  have : k = 0 ∨ k = 1 := by omega
  rcases this with rfl | rfl
  · rw [if_neg (by decide)]; rfl
  · rw [if_pos (by decide)]; rfl
theorem c_bit (E : Int32) (j : Nat) : fX11_bit E (nI j) = some (b01 (tb E j)) := by
  unfold fX11_bit
  rw [bit01]
theorem lt10 {s : Nat} (h : s < 10) : nI s < 10 := nI_lt h (by decide)
theorem nlt10 {s : Nat} (h : ¬ s < 10) (hs : s < 18) : ¬ nI s < 10 := nI_nlt (b := 10) (by omega) (by omega)
theorem le10 {s : Nat} (h : ¬ s < 10) (hs : s < 18) : 10 ≤ nI s := nI_le (a := 10) (by omega) (by omega)
theorem nle10 {s : Nat} (h : s < 10) : ¬ 10 ≤ nI s := nI_ge h (by decide)
theorem sub10 {s : Nat} (h : ¬ s < 10) : nI s - 10 = nI (s - 10) := pk_sub (b := 10) (by omega)
def nb (E : Int32) (s : Nat) : Bool := decide (10 ≤ s) && tb E (s - 10)
def fo (F : Nat → Int32) (s : Nat) : Int32 := if s < 10 then bitI s else F (s - 10)
def van (E : Int32) (w : List Nat) : Bool := w.all (nb E)
def frst (E : Int32) (F : Nat → Int32) : List Nat → Int32
  | [] => 0
  | s :: r => fo F s ||| (if nb E s = true then frst E F r else 0)
theorem c_isNullable (E : Int32) {s : Nat} (hs : s < 18) : fX7_isNullable E (nI s) = some (b01 (nb E s)) := by
  simp only [fX7_isNullable, jn_, gz]
  by_cases h : s < 10
  · rw [if_pos (lt10 h)]
    have : nb E s = false := by simp [nb]; omega
    rw [this]; rfl
  · rw [if_neg (nlt10 h hs), sub10 h, c_bit]
    have : nb E s = tb E (s - 10) := by simp [nb]; omega
    rw [this]
    cases tb E (s - 10) <;> simp [b01]
theorem m_isEmpty (E : Int32) {s : Nat} (hs : s < 18) : fX12_isEmpty E (nI s) = some (b01 (nb E s)) := by
  simp only [fX12_isEmpty, jn_, gz]
  by_cases h : s < 10
  · rw [if_pos (lt10 h)]
    have : nb E s = false := by simp [nb]; omega
    rw [this]; rfl
  · rw [if_neg (nlt10 h hs), sub10 h, bit01]
    have : nb E s = tb E (s - 10) := by simp [nb]; omega
    rw [this]
    cases tb E (s - 10) <;> simp [b01]
theorem drop_cons {w : List Nat} {i : Nat} (h : i < w.length) : w.drop i = sy w i :: w.drop (i + 1) := by
  rw [List.drop_eq_getElem_cons h]
  simp [sy, List.getD, h]
theorem b01_ne0 {b : Bool} (h : b = true) : ¬ b01 b = 0 := by rw [h]; decide
theorem b01_eq0 {b : Bool} (h : b = false) : b01 b = 0 := by rw [h]; rfl
theorem c_vanishes (E : Int32) {q : gP} (hq : okP q) {N : Nat} (hN : 5 < N) : ∀ (i : Nat), i ≤ q.2.length → fX7_vanishes N E (nI (enc q)) (nI i) = some (b01 (van E (q.2.drop i))) := by
  intro i hi
  have hl := hq.2.1
  simp only [fX7_vanishes, jn_]
  have stop : ∀ rc, bX7_vanishes_2 (nI (enc q)) E (fun _ => some 1) rc (nI q.2.length) = some 1 := by
    intro rc
    simp only [bX7_vanishes_2, c_lengthOf hq, obs]
    rw [if_pos (Int32.le_refl _)]
  have step : ∀ j, j < q.2.length → ∀ rc, bX7_vanishes_2 (nI (enc q)) E (fun _ => some 1) rc (nI j) = if nb E (sy q.2 j) = true then rc (nI (j + 1)) else some 0 := by
    intro j hj rc
    simp only [bX7_vanishes_2, c_lengthOf hq, obs]
    rw [if_neg (nI_ge hj (by omega)), c_symbolOf hq hj]
    simp only [obs, c_isNullable E (okS_lt (okP_sy hq hj)), lt_, nI_1]
    cases nb E (sy q.2 j) <;> rfl
  have key : ∀ (k j N : Nat), j + k = q.2.length → k < N → itr (bX7_vanishes_2 (nI (enc q)) E fun _ => some 1) N (nI j) = some (b01 (van E (q.2.drop j))) := by
    intro k
    induction k with
    | zero =>
      intro j N hj hN
      obtain ⟨M, rfl⟩ : ∃ M, N = M + 1 := ⟨N - 1, by omega⟩
      have : j = q.2.length := by omega
      subst this
      refine (stop _).trans ?_
      rw [List.drop_length]; rfl
    | succ k ih =>
      intro j N hj hN
      obtain ⟨M, rfl⟩ : ∃ M, N = M + 1 := ⟨N - 1, by omega⟩
      have hjl : j < q.2.length := by omega
      refine (step j hjl _).trans ?_
      rw [drop_cons hjl]
      cases hb : nb E (sy q.2 j) with
      | false => simp [van, hb, b01]
      | true =>
        rw [if_pos rfl, ih (j + 1) M (by omega) (by omega)]
        simp [van, hb]
  exact key (q.2.length - i) i N (by omega) (by omega)
theorem c_firstOf (F : Nat → Int32) {s : Nat} (hs : okS s) : fX7_firstOf F (nI s) = some (fo F s) := by
  have h18 := okS_lt hs
  simp only [fX7_firstOf, jn_, fo]
  by_cases h : s < 10
  · rw [if_pos (lt10 h), if_pos h]; rfl
  · rw [if_neg (nlt10 h h18), if_neg h, sub10 h, ag_ok (by omega)]; rfl
theorem c_firstFrom (E : Int32) (F : Nat → Int32) {q : gP} (hq : okP q) {N : Nat} (hN : 5 < N) : ∀ (i : Nat), i ≤ q.2.length → fX7_firstFrom N E F (nI (enc q)) (nI i) = some (frst E F (q.2.drop i)) := by
  intro i hi
  have hl := hq.2.1
  simp only [fX7_firstFrom, jn_]
  have stop : ∀ rc a, bX7_firstFrom_5 (nI (enc q)) E F (fun v => some v) rc a (nI q.2.length) = some a := by
    intro rc a
    simp only [bX7_firstFrom_5, c_lengthOf hq, obs]
    rw [if_pos (Int32.le_refl _)]
  have step : ∀ j, j < q.2.length → ∀ rc a, bX7_firstFrom_5 (nI (enc q)) E F (fun v => some v) rc a (nI j) = if nb E (sy q.2 j) = true then rc (a ||| fo F (sy q.2 j)) (nI (j + 1)) else some (a ||| fo F (sy q.2 j)) := by
    intro j hj rc a
    simp only [bX7_firstFrom_5, c_lengthOf hq, obs]
    rw [if_neg (nI_ge hj (by omega)), c_symbolOf hq hj]
    simp only [obs, c_firstOf F (okP_sy hq hj), c_isNullable E (okS_lt (okP_sy hq hj)), lt_, nI_1]
    cases nb E (sy q.2 j) <;> rfl
  have key : ∀ (k j N : Nat) (a : Int32), j + k = q.2.length → k < N → itr2 (bX7_firstFrom_5 (nI (enc q)) E F fun v => some v) N a (nI j) = some (a ||| frst E F (q.2.drop j)) := by
    intro k
    induction k with
    | zero =>
      intro j N a hj hN
      obtain ⟨M, rfl⟩ : ∃ M, N = M + 1 := ⟨N - 1, by omega⟩
      have : j = q.2.length := by omega
      subst this
      refine (stop _ _).trans ?_
      rw [List.drop_length]
      simp [frst]
    | succ k ih =>
      intro j N a hj hN
      obtain ⟨M, rfl⟩ : ∃ M, N = M + 1 := ⟨N - 1, by omega⟩
      have hjl : j < q.2.length := by omega
      refine (step j hjl _ _).trans ?_
      rw [drop_cons hjl]
      simp only [frst]
      cases hb : nb E (sy q.2 j) with
      | false => simp
      | true =>
        rw [if_pos rfl, if_pos rfl]
        refine (ih (j + 1) M _ (by omega) (by omega)).trans ?_
        rw [Int32.or_assoc]
  have := key (q.2.length - i) i N 0 (by omega) (by omega)
  rw [this]
  have e : 0 ||| frst E F (q.2.drop i) = frst E F (q.2.drop i) := sb_zero _
  rw [e]
theorem c_vanishes0 (E : Int32) {q : gP} (hq : okP q) {N : Nat} (hN : 5 < N) : fX7_vanishes N E (nI (enc q)) 0 = some (b01 (van E q.2)) := by
  have := c_vanishes E hq hN 0 (Nat.zero_le _)
  rw [List.drop_zero] at this
  exact this
theorem c_firstFrom0 (E : Int32) (F : Nat → Int32) {q : gP} (hq : okP q) {N : Nat} (hN : 5 < N) : fX7_firstFrom N E F (nI (enc q)) 0 = some (frst E F q.2) := by
  have := c_firstFrom E F hq hN 0 (Nat.zero_le _)
  rw [List.drop_zero] at this
  exact this
