/-! THE INPUT, the weights, the repaired input: pieces of the state and their calls -/
def PIN (tm : Nat → Int32) (il : Int32) (mi : Nat → Int32) (ml : Int32) : Prop := ∃ I, IC tm il I ∧ IC mi ml I
def dgc : Nat → Nat → Nat
  | 0, _ => 0
  | f + 1, n => if n = 0 then 0 else dgc f (n / 10) + 1
def dgv : Nat → Nat → Bool
  | 0, _ => true
  | f + 1, n => if n = 0 then true else (decide (1 ≤ n % 10) && decide (n % 10 ≤ 8)) && dgv f (n / 10)
def dgl : Nat → Nat → List Nat
  | 0, _ => []
  | f + 1, n => if n = 0 then [] else dgl f (n / 10) ++ [n % 10 - 1]
theorem dgl_len : ∀ f n, (dgl f n).length = dgc f n
  | 0, _ => rfl
  | f + 1, n => by
    simp only [dgl, dgc]
    by_cases h : n = 0
    · rw [if_pos h, if_pos h]; rfl
    · rw [if_neg h, if_neg h, List.length_append, dgl_len f]; rfl
theorem dgl_t8 : ∀ f n, dgv f n = true → t8 (dgl f n)
  | 0, _, _ => fun t ht => absurd ht (by simp [dgl])
  | f + 1, n, h => by
    simp only [dgv] at h
    simp only [dgl]
    by_cases hn : n = 0
    · rw [if_pos hn]; exact fun t ht => absurd ht (by simp)
    · rw [if_neg hn] at h ⊢
      rw [Bool.and_eq_true, Bool.and_eq_true, decide_eq_true_eq, decide_eq_true_eq] at h
      intro t ht
      rcases List.mem_append.mp ht with ht | ht
      · exact dgl_t8 f _ h.2 t ht
      · rw [List.mem_singleton.mp ht]; omega
theorem dgc_pos {f n : Nat} (hf : 0 < f) (hn : 0 < n) : 0 < dgc f n := by
  obtain ⟨g, rfl⟩ : ∃ g, f = g + 1 := ⟨f - 1, by omega⟩
  simp only [dgc]
  rw [if_neg (by omega)]
  omega
theorem dgc_le : ∀ f n, dgc f n ≤ f
  | 0, _ => Nat.le_refl _
  | f + 1, n => by
    simp only [dgc]
    split
    · omega
    · have := dgc_le f (n / 10); omega
theorem e10 {n : Nat} (hn : n < 2 ^ 31) : nI n - nI (n / 10) * (10 : Int32) = nI (n % 10) ∧ nI n / (10 : Int32) = nI (n / 10) := by
  have h2 : nI n / (10 : Int32) = nI (n / 10) := pk_div (d := 10) hn (by decide) (by decide)
  have h1 : nI n - nI n / (10 : Int32) * (10 : Int32) = nI (n % 10) := pk_rem (d := 10) hn (by decide) (by decide)
  rw [h2] at h1
  exact ⟨h1, h2⟩
theorem dgv_0 (f : Nat) : dgv (f + 1) 0 = true := by simp [dgv]
theorem dgc_0 (f : Nat) : dgc (f + 1) 0 = 0 := by simp [dgc]
theorem dgv_S (f : Nat) {n : Nat} (hn : ¬ n = 0) : dgv (f + 1) n = ((decide (1 ≤ n % 10) && decide (n % 10 ≤ 8)) && dgv f (n / 10)) := by simp only [dgv]; rw [if_neg hn]
theorem dgc_S (f : Nat) {n : Nat} (hn : ¬ n = 0) : dgc (f + 1) n = dgc f (n / 10) + 1 := by simp only [dgc]; rw [if_neg hn]
theorem c_digits : ∀ (f n j N : Nat), n < 10 ^ f → n < 2 ^ 31 → j + f ≤ 10 → f < N → itr2 (bX3_terminalsIn_4 (fun v1 => some v1) fun _ => some 0) N (nI n) (nI j) = if dgv f n = true then some (nI (j + dgc f n)) else some 0
  | f, n, j, N, h1, h2, h3, h4 => by
    obtain ⟨M, rfl⟩ : ∃ M, N = M + 1 := ⟨N - 1, by omega⟩
    rw [itr2_S]
    simp only [bX3_terminalsIn_4]
    cases f with
    | zero =>
      have : n = 0 := by simpa using h1
      subst this
      rw [if_pos (by decide)]
      rfl
    | succ f =>
      by_cases hn : n = 0
      · subst hn
        rw [if_pos (by decide), dgv_0, dgc_0, if_pos rfl]
        rfl
      · rw [if_neg (nI_nle (by omega) h2), if_neg (nleL 10 10 (by omega)), dgv_S f hn, dgc_S f hn]
        obtain ⟨r1, r2⟩ := e10 h2
        simp only [lt_, r1, r2, nI_1]
        by_cases ha : 1 ≤ n % 10
        · rw [if_neg (show ¬ nI (n % 10) < 1 from nI_nlt (show 1 ≤ n % 10 from ha) (by omega))]
          by_cases hb : n % 10 ≤ 8
          · rw [if_pos (show nI (n % 10) ≤ 8 from nI_le (b := 8) hb (by decide)), c_digits f (n / 10) (j + 1) M (by rw [Nat.pow_succ] at h1; omega) (by omega) (by omega) (by omega), decide_eq_true ha, decide_eq_true hb, Bool.true_and, Bool.true_and, show j + 1 + dgc f (n / 10) = j + (dgc f (n / 10) + 1) by omega]
          · rw [if_neg (show ¬ nI (n % 10) ≤ 8 from nI_ge (show 8 < n % 10 by omega) (by omega)), decide_eq_false hb, Bool.and_false, Bool.false_and, if_neg (by decide)]
        · rw [if_pos (show nI (n % 10) < 1 from nI_lt (b := 1) (by omega) (by decide)), decide_eq_false ha, Bool.false_and, Bool.false_and, if_neg (by decide)]
theorem m_digits (mi : Nat → Int32) (ml : Int32) (K : Int32 → Option (Int32 × (Nat → Int32) × Int32)) : ∀ (f n j N : Nat), n < 10 ^ f → n < 2 ^ 31 → f < N → itr2 (bX12_appendInput_10 mi ml K) N (nI j) (nI n) = if dgv f n = true then K (nI (j + dgc f n)) else some (-1, mi, ml)
  | f, n, j, N, h1, h2, h4 => by
    obtain ⟨M, rfl⟩ : ∃ M, N = M + 1 := ⟨N - 1, by omega⟩
    rw [itr2_S]
    simp only [bX12_appendInput_10]
    cases f with
    | zero =>
      have : n = 0 := by simpa using h1
      subst this
      rw [if_pos (by decide)]
      rfl
    | succ f =>
      by_cases hn : n = 0
      · subst hn
        rw [if_pos (by decide), dgv_0, dgc_0, if_pos rfl]
        rfl
      · rw [if_neg (nI_nle (by omega) h2), dgv_S f hn, dgc_S f hn]
        obtain ⟨r1, r2⟩ := e10 h2
        simp only [lt_, r1, r2, nI_1, fX12_in, jn_, gz]
        by_cases ha : 1 ≤ n % 10
        · rw [if_neg (show ¬ nI (n % 10) < 1 from nI_nlt (show 1 ≤ n % 10 from ha) (by omega))]
          by_cases hb : n % 10 ≤ 8
          · rw [if_neg (show ¬ (8 : Int32) < nI (n % 10) from nI_nlt (show n % 10 ≤ 8 from hb) (by decide)), if_pos (by decide), obs, if_neg (by decide), m_digits mi ml K f (n / 10) (j + 1) M (by rw [Nat.pow_succ] at h1; omega) (by omega) (by omega), decide_eq_true ha, decide_eq_true hb, Bool.true_and, Bool.true_and, show j + 1 + dgc f (n / 10) = j + (dgc f (n / 10) + 1) by omega]
          · rw [if_pos (show (8 : Int32) < nI (n % 10) from nI_lt (show 8 < n % 10 by omega) (by omega)), if_pos (by decide), obs, if_pos rfl, decide_eq_false hb, Bool.and_false, Bool.false_and, if_neg (by decide)]
        · rw [if_pos (show nI (n % 10) < 1 from nI_lt (b := 1) (by omega) (by decide)), if_pos (by decide), obs, if_pos rfl, decide_eq_false ha, Bool.false_and, Bool.false_and, if_neg (by decide)]
theorem nI_m1lt : ∀ b, b ≤ 40 → nI b - 1 < nI b := by decide +kernel
theorem c_store : ∀ (f n base N : Nat) (g : Nat → Int32) (K : (Nat → Int32) → Option ((Nat → Int32) × Int32)), n < 2 ^ 31 → dgv f n = true → base + dgc f n ≤ 40 → f < N → ∃ g', itr3 (bX3_append_12 (nI base) K) N (nI n) (nI (base + dgc f n) - 1) g = K g' ∧ (∀ i, i < dgc f n → g' (base + i) = nI (sy (dgl f n) i)) ∧ ∀ k, (k < base ∨ base + dgc f n ≤ k) → g' k = g k
  | f, n, base, N, g, K, h2, hv, h40, h4 => by
    obtain ⟨M, rfl⟩ : ∃ M, N = M + 1 := ⟨N - 1, by omega⟩
    have hS : ∀ a b c, itr3 (bX3_append_12 (nI base) K) (M + 1) a b c = bX3_append_12 (nI base) K (itr3 (bX3_append_12 (nI base) K) M) a b c := fun _ _ _ => rfl
    rw [hS]
    have stop : ∀ rc a, bX3_append_12 (nI base) K rc a (nI base - 1) g = K g := fun rc a => by
      simp only [bX3_append_12]
      rw [if_pos (nI_m1lt base (by omega))]
    cases f with
    | zero => exact ⟨g, by rw [show base + dgc 0 n = base from rfl, stop], fun i hi => absurd hi (Nat.not_lt_zero _), fun _ _ => rfl⟩
    | succ f =>
      by_cases hn : n = 0
      · have e0 : dgc (f + 1) n = 0 := by simp only [dgc]; rw [if_pos hn]
        rw [e0]
        exact ⟨g, by rw [Nat.add_zero, stop], fun i hi => absurd hi (Nat.not_lt_zero _), fun _ _ => rfl⟩
      · have e1 : dgc (f + 1) n = dgc f (n / 10) + 1 := by simp only [dgc]; rw [if_neg hn]
        have e2 : dgl (f + 1) n = dgl f (n / 10) ++ [n % 10 - 1] := by simp only [dgl]; rw [if_neg hn]
        simp only [dgv] at hv
        rw [if_neg hn, Bool.and_eq_true, Bool.and_eq_true, decide_eq_true_eq, decide_eq_true_eq] at hv
        rw [e1] at h40 ⊢
        obtain ⟨r1, r2⟩ := e10 h2
        obtain ⟨g', a1, a2, a3⟩ := c_store f (n / 10) base M (upd g (base + dgc f (n / 10)) (nI (n % 10 - 1))) K (by omega) hv.2 (by omega) (by omega)
        refine ⟨g', ?_, fun i hi => ?_, fun k hk => ?_⟩
        · rw [← a1]
          simp only [bX3_append_12, lt_, r1, r2]
          rw [← Nat.add_assoc, nI_sub1 (show 0 < base + dgc f (n / 10) + 1 by omega), Nat.add_sub_cancel, if_neg (nI_nlt (by omega) (by omega)), if_neg (nleL 40 40 (by omega)), nI_sub1 (show 0 < n % 10 by omega), as_ok (show base + dgc f (n / 10) < 40 by omega), obs, Int32.sub_eq_add_neg]
        · rw [e2]
          have hl := dgl_len f (n / 10)
          by_cases e : i < dgc f (n / 10)
          · rw [a2 i e, sy_app_l (by omega)]
          · have : i = dgc f (n / 10) := by omega
            subst this
            rw [a3 _ (Or.inr (Nat.le_refl _)), pk_us]
            have := sy_app_end (dgl f (n / 10)) (n % 10 - 1)
            rw [hl] at this
            rw [this]
        · rw [a3 k (by omega), pk_un (by omega)]
theorem m_put2 : ∀ (f n base N : Nat) (g : Nat → Int32) (K : (Nat → Int32) → Option (Int32 × (Nat → Int32) × Int32)), n < 2 ^ 31 → dgv f n = true → base + dgc f n ≤ 40 → f < N → ∃ g', itr3 (bX12_appendInput_61 (nI base) K) N (nI n) (nI (dgc f n) - 1) g = K g' ∧ (∀ i, i < dgc f n → g' (base + i) = nI (sy (dgl f n) i)) ∧ ∀ k, (k < base ∨ base + dgc f n ≤ k) → g' k = g k
  | f, n, base, N, g, K, h2, hv, h40, h4 => by
    obtain ⟨M, rfl⟩ : ∃ M, N = M + 1 := ⟨N - 1, by omega⟩
    have hS : ∀ a b c, itr3 (bX12_appendInput_61 (nI base) K) (M + 1) a b c = bX12_appendInput_61 (nI base) K (itr3 (bX12_appendInput_61 (nI base) K) M) a b c := fun _ _ _ => rfl
    rw [hS]
    have stop : ∀ rc a, bX12_appendInput_61 (nI base) K rc a (nI 0 - 1) g = K g := fun rc a => by
      simp only [bX12_appendInput_61]
      rw [if_pos (by decide)]
    cases f with
    | zero => exact ⟨g, by rw [show dgc 0 n = 0 from rfl, stop], fun i hi => absurd hi (Nat.not_lt_zero _), fun _ _ => rfl⟩
    | succ f =>
      by_cases hn : n = 0
      · have e0 : dgc (f + 1) n = 0 := by simp only [dgc]; rw [if_pos hn]
        rw [e0]
        exact ⟨g, by rw [stop], fun i hi => absurd hi (Nat.not_lt_zero _), fun _ _ => rfl⟩
      · have e1 : dgc (f + 1) n = dgc f (n / 10) + 1 := by simp only [dgc]; rw [if_neg hn]
        have e2 : dgl (f + 1) n = dgl f (n / 10) ++ [n % 10 - 1] := by simp only [dgl]; rw [if_neg hn]
        simp only [dgv] at hv
        rw [if_neg hn, Bool.and_eq_true, Bool.and_eq_true, decide_eq_true_eq, decide_eq_true_eq] at hv
        rw [e1] at h40 ⊢
        obtain ⟨r1, r2⟩ := e10 h2
        obtain ⟨g', a1, a2, a3⟩ := m_put2 f (n / 10) base M (upd g (base + dgc f (n / 10)) (nI (n % 10 - 1))) K (by omega) hv.2 (by omega) (by omega)
        refine ⟨g', ?_, fun i hi => ?_, fun k hk => ?_⟩
        · rw [← a1]
          simp only [bX12_appendInput_61, lt_, r1, r2]
          rw [nI_sub1 (show 0 < dgc f (n / 10) + 1 by omega), Nat.add_sub_cancel, if_neg (nI_pos (by omega)), nI_add, nI_sub1 (show 0 < n % 10 by omega), as_ok (show base + dgc f (n / 10) < 40 by omega), obs, Int32.sub_eq_add_neg]
        · rw [e2]
          have hl := dgl_len f (n / 10)
          by_cases e : i < dgc f (n / 10)
          · rw [a2 i e, sy_app_l (by omega)]
          · have : i = dgc f (n / 10) := by omega
            subst this
            rw [a3 _ (Or.inr (Nat.le_refl _)), pk_us]
            have := sy_app_end (dgl f (n / 10)) (n % 10 - 1)
            rw [hl] at this
            rw [this]
        · rw [a3 k (by omega), pk_un (by omega)]
theorem IC_app {tm g : Nat → Int32} {il : Int32} {I D : List Nat} (h : IC tm il I) (hD : t8 D) (h40 : I.length + D.length ≤ 40) (h1 : ∀ i, i < D.length → g (I.length + i) = nI (sy D i)) (h2 : ∀ k, k < I.length → g k = tm k) : IC g (nI (I.length + D.length)) (I ++ D) := by
  refine ⟨by rw [List.length_append], by rw [List.length_append]; exact h40, fun t ht => ?_, fun k hk => ?_⟩
  · rcases List.mem_append.mp ht with ht | ht
    · exact h.2.2.1 t ht
    · exact hD t ht
  · rw [List.length_append] at hk
    by_cases e : k < I.length
    · rw [h2 k e, h.2.2.2 k e, sy_app_l e]
    · have := h1 (k - I.length) (by omega)
      rw [show I.length + (k - I.length) = k by omega] at this
      rw [this]
      unfold sy
      rw [List.getD_eq_getElem?_getD, List.getD_eq_getElem?_getD, List.getElem?_append_right (by omega)]
theorem k_append {tm mi : Nat → Int32} {il ml : Int32} (h : PIN tm il mi ml) (x1 : Int32) {N : Nat} (hN : 2000 < N) : ∃ o o', fX11_appendInput N tm il x1 = some o ∧ fX12_appendInput N mi ml x1 = some o' ∧ o.1 = o'.1 ∧ PIN o.2.1 o.2.2 o'.2.1 o'.2.2 := by
  obtain ⟨I, h1, h2⟩ := h
  have h40 := h1.2.1
  by_cases hx : 0 < x1
  · obtain ⟨n, hn, rfl⟩ := nI_of (x := x1) (fun q => absurd (Int32.lt_trans q hx) Int32.lt_irrefl)
    have hn0 : 0 < n := by
      by_cases e : n = 0
      · subst e; exact absurd hx (by decide)
      · omega
    have h10 : n < 10 ^ 10 := by omega
    have ec := c_digits 10 n 0 N h10 hn (by omega) (by omega)
    have ec' : fX3_terminalsIn N (nI n) = if dgv 10 n = true then some (nI (0 + dgc 10 n)) else some 0 := ec
    have hpos := dgc_pos (f := 10) (by decide) hn0
    have hle := dgc_le 10 n
    rw [Nat.zero_add] at ec'
    cases hv : dgv 10 n with
    | false =>
      rw [hv, if_neg (by decide)] at ec'
      refine ⟨(-1, tm, il), (-1, mi, ml), ?_, ?_, rfl, I, h1, h2⟩
      · simp only [fX11_appendInput, ec', obs]
        rw [if_pos trivial]
      · simp only [fX12_appendInput, jn_]
        rw [if_pos hx]
        have em := fun K => m_digits mi ml K 10 n 0 N h10 hn (by omega)
        have em' := fun K => (em K)
        rw [show (0 : Int32) = nI 0 from rfl, em, hv, if_neg (by decide)]
    | true =>
      rw [hv, if_pos rfl] at ec'
      have em := fun K => m_digits mi ml K 10 n 0 N h10 hn (by omega)
      rw [hv] at em
      have eil : il + nI (dgc 10 n) = nI (I.length + dgc 10 n) := by rw [h1.1, nI_add]
      have eml : ml + nI (dgc 10 n) = nI (I.length + dgc 10 n) := by rw [h2.1, nI_add]
      by_cases h4 : I.length + dgc 10 n ≤ 40
      · obtain ⟨g1, a1, a2, a3⟩ := c_store 10 n I.length N tm (fun v2 => lt_ (il + nI (dgc 10 n)) fun x3 => some (v2, x3)) hn hv h4 (by omega)
        obtain ⟨g2, b1, b2, b3⟩ := m_put2 10 n I.length N mi (fun v3 => lt_ (ml + nI (dgc 10 n)) fun x4 => some (x4, v3, x4)) hn hv h4 (by omega)
        have hl := dgl_len 10 n
        rw [← h1.1] at a1
        rw [← h2.1] at b1
        refine ⟨(nI (I.length + dgc 10 n), g1, nI (I.length + dgc 10 n)), (nI (I.length + dgc 10 n), g2, nI (I.length + dgc 10 n)), ?_, ?_, rfl, I ++ dgl 10 n, ?_, ?_⟩
        · simp only [fX11_appendInput, ec', obs]
          rw [if_neg (nI_ne0 hpos (by omega)), eil, if_pos (show nI (I.length + dgc 10 n) ≤ 40 from nI_le (b := 40) h4 (by decide))]
          simp only [fX3_append, jn_, lt_, eil]
          simp only [lt_, eil] at a1
          rw [a1]
          simp only [bd2, obs]
        · simp only [fX12_appendInput, jn_]
          rw [if_pos hx, show (0 : Int32) = nI 0 from rfl, em, if_pos rfl, Nat.zero_add, eml, if_pos (show nI (I.length + dgc 10 n) ≤ 40 from nI_le (b := 40) h4 (by decide))]
          simp only [lt_, eml] at b1 ⊢
          exact b1
        · have := IC_app h1 (dgl_t8 10 n hv) (by omega) (fun i hi => a2 i (by omega)) (fun k hk => a3 k (Or.inl hk))
          rw [hl] at this
          exact this
        · have := IC_app h2 (dgl_t8 10 n hv) (by omega) (fun i hi => b2 i (by omega)) (fun k hk => b3 k (Or.inl hk))
          rw [hl] at this
          exact this
      · refine ⟨(-3, tm, il), (-3, mi, ml), ?_, ?_, rfl, I, h1, h2⟩
        · simp only [fX11_appendInput, ec', obs]
          rw [if_neg (nI_ne0 hpos (by omega)), eil, if_neg (show ¬ nI (I.length + dgc 10 n) ≤ 40 from nI_ge (show 40 < I.length + dgc 10 n by omega) (by omega))]
        · simp only [fX12_appendInput, jn_]
          rw [if_pos hx, show (0 : Int32) = nI 0 from rfl, em, if_pos rfl, Nat.zero_add, eml, if_neg (show ¬ nI (I.length + dgc 10 n) ≤ 40 from nI_ge (show 40 < I.length + dgc 10 n by omega) (by omega))]
  · refine ⟨(-1, tm, il), (-1, mi, ml), ?_, ?_, rfl, I, h1, h2⟩
    · obtain ⟨M, rfl⟩ : ∃ M, N = M + 1 := ⟨N - 1, by omega⟩
      have e0 : fX3_terminalsIn (M + 1) x1 = some 0 := by
        simp only [fX3_terminalsIn, jn_]
        rw [itr2_S]
        simp only [bX3_terminalsIn_4]
        rw [if_pos (Int32.not_lt.mp hx)]
      simp only [fX11_appendInput, e0, obs]
      rw [if_pos trivial]
    · simp only [fX12_appendInput]
      rw [if_neg hx]
theorem k_clearIn {tm mi : Nat → Int32} {il ml : Int32} (h : PIN tm il mi ml) : ∃ o o', fX11_clearInput il = some o ∧ fX12_clearInput ml = some o' ∧ o.1 = o'.1 ∧ PIN tm o.2 mi o'.2 := by
  obtain ⟨I, h1, h2⟩ := h
  refine ⟨(il, 0), (ml, 0), rfl, rfl, by show il = ml; rw [h1.1, h2.1], [], ⟨rfl, by decide, fun t ht => absurd ht (by simp), fun k hk => absurd hk (Nat.not_lt_zero _)⟩, ⟨rfl, by decide, fun t ht => absurd ht (by simp), fun k hk => absurd hk (Nat.not_lt_zero _)⟩⟩
/-- a read in a row of a known length -/
def rdI (x : Int32) (n : Nat) (g : Nat → Int32) : Int32 := if inI x n = true then g x.toNatClampNeg else -2
theorem c_rd (f : Nat → Int32) {n sz : Nat} (hn : n ≤ sz) (hs : Nat.ble sz 100000 = true) (x : Int32) : (if x < 0 then some (-2 : Int32) else if nI n ≤ x then some (-2) else (ag f sz x).bind fun x5 => some x5) = some (rdI x n f) := by
  have hs' := Nat.le_of_ble_eq_true hs
  unfold rdI
  rcases inI_tf x n with h | h
  · obtain ⟨j, hj, rfl⟩ := inI_of (by omega) h
    rw [if_neg (nI_pos (by omega)), if_neg (nI_ge hj (by omega)), ag_ok (show j < sz by omega) hs, obs, if_pos h, nI_clamp (by omega)]
  · have h' : ¬ inI x n = true := by rw [h]; decide
    rw [h, if_neg (show ¬ (false = true) by decide)]
    rcases inI_not (by omega) h' with h1 | h1
    · rw [if_pos h1]
    · by_cases h0 : x < 0
      · rw [if_pos h0]
      · rw [if_neg h0, if_pos h1]
theorem m_rd (f : Nat → Int32) {n sz : Nat} (hn : n ≤ sz) (hs : Nat.ble sz 100000 = true) (x : Int32) : ((fX12_in x 0 (nI n - (1 : Int32))).bind fun x1 => if x1 = 0 then some (-2) else (ag f sz x).bind fun x4 => some x4) = some (rdI x n f) := by
  have hs' := Nat.le_of_ble_eq_true hs
  rw [m_in x (show n < 2 ^ 30 by omega), obs]
  unfold rdI
  rcases inI_tf x n with h | h
  · obtain ⟨j, hj, rfl⟩ := inI_of (by omega) h
    rw [h, if_neg (by decide), ag_ok (show j < sz by omega) hs, obs, if_pos rfl, nI_clamp (by omega)]
  · rw [h, if_pos (by rfl), if_neg (by decide)]
theorem rdI_congr {x : Int32} {n : Nat} (hn : n < 2 ^ 31) {f g : Nat → Int32} (h : ∀ k, k < n → f k = g k) : rdI x n f = rdI x n g := by
  unfold rdI
  rcases inI_tf x n with hx | hx
  · obtain ⟨j, hj, rfl⟩ := inI_of hn hx
    rw [if_pos hx, if_pos hx, nI_clamp (by omega), h j hj]
  · rw [if_neg (by rw [hx]; decide), if_neg (by rw [hx]; decide)]
theorem k_inputT {tm mi : Nat → Int32} {il ml : Int32} (h : PIN tm il mi ml) (x1 : Int32) : ∃ o o', fX11_inputTerminal tm il x1 = some o ∧ fX12_inputTerminal mi ml x1 = some o' ∧ o = o' := by
  obtain ⟨I, h1, h2⟩ := h
  have h40 := h1.2.1
  refine ⟨rdI x1 I.length tm, rdI x1 I.length mi, ?_, ?_, rdI_congr (by omega) fun k hk => by rw [h1.2.2.2 k hk, h2.2.2.2 k hk]⟩
  · simp only [fX11_inputTerminal, jn_, h1.1]
    exact c_rd tm h40 rfl x1
  · simp only [fX12_inputTerminal, jn_, h2.1]
    exact m_rd mi h40 rfl x1
def PSY (sy0 ms : Nat → Int32) : Prop := ∀ n, n < 8 → ms n = sy0 n
theorem k_sync {sy0 ms : Nat → Int32} (h : PSY sy0 ms) (x1 x2 : Int32) : ∃ o o', fX11_setSynchronizing sy0 x1 x2 = some o ∧ fX12_setSynchronizing ms x1 x2 = some o' ∧ o.1 = o'.1 ∧ PSY o.2 o'.2 := by
  have h511 : fX12_in x2 0 511 = some (b01 (inI x2 512)) := m_in x2 (n := 512) (by decide)
  rcases inI_tf x1 8 with hx | hx
  · obtain ⟨n, hn, rfl⟩ := inI_of (by decide) hx
    rcases inI_tf x2 512 with h2 | h2
    · obtain ⟨j, hj, rfl⟩ := inI_of (by decide) h2
      refine ⟨(sy0 n, upd sy0 n (nI j)), (ms n, upd ms n (nI j)), ?_, ?_, (h n hn).symm, fun k hk => ?_⟩
      · simp only [fX11_setSynchronizing, c_isNt, hx, obs, jn_]
        rw [if_neg (by decide), if_neg (nI_pos (by omega)), if_pos (show nI j ≤ 511 from nI_le (b := 511) (by omega) (by decide)), ag_ok hn, obs, as_ok hn, obs]
      · simp only [fX12_setSynchronizing, m_isName, hx, obs, jn_]
        rw [if_neg (by decide), h511, obs, h2, if_neg (by decide), ag_ok hn, obs, as_ok hn, obs]
      · show upd ms n (nI j) k = upd sy0 n (nI j) k
        by_cases e : k = n
        · subst e; rw [pk_us, pk_us]
        · rw [pk_un e, pk_un e]; exact h k hk
    · refine ⟨(-1, sy0), (-1, ms), ?_, ?_, rfl, h⟩
      · simp only [fX11_setSynchronizing, c_isNt, hx, obs, jn_]
        rw [if_neg (by decide)]
        rcases inI_not (by decide) (show ¬ inI x2 512 = true by rw [h2]; decide) with h3 | h3
        · rw [if_pos h3]
        · by_cases h0 : x2 < 0
          · rw [if_pos h0]
          · rw [if_neg h0, if_neg (fun hle => by have := Int32.le_trans h3 hle; exact absurd this (by decide))]
      · simp only [fX12_setSynchronizing, m_isName, hx, obs, jn_]
        rw [if_neg (by decide), h511, obs, h2, if_pos (by rfl)]
  · refine ⟨(-1, sy0), (-1, ms), ?_, ?_, rfl, h⟩
    · simp only [fX11_setSynchronizing, c_isNt, hx, obs, jn_]
      rw [if_pos (by rfl)]
    · simp only [fX12_setSynchronizing, m_isName, hx, obs, jn_]
      rw [if_pos (by rfl)]
