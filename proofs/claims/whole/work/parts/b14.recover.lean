/-! RECOVERY: the machine, the class's loop -/
abbrev rT : Type := List Nat × Nat × Nat × List Nat × List (Nat × Nat × Int32)
def canQ (G : List gP) (E : Int32) (F W : Nat → Int32) (I : List Nat) (a : Nat) : List Nat → Bool
  | [] => false
  | x :: _ => if x < 10 then decide (x = tok I a) else (enT G E F W (x - 10) (tok I a)).isSome
def goQ (G : List gP) (E : Int32) (F W : Nat → Int32) (I : List Nat) : rT → rT
  | ([], a, st, T, R) => ([], a, st, T, R)
  | (x :: s, a, st, T, R) => if x < 10 then (s, a + 1, st + 1, T, R) else match enT G E F W (x - 10) (tok I a) with
    | some p => ((gp G p).2 ++ s, a, st + 1, T ++ [p], R)
    | none => (x :: s, a, st, T, R)
def lvQ (W Y : Nat → Int32) (n t : Nat) : Bool := decide (t = 8) || tb (W n ||| Y n) t
def erQ (W Y : Nat → Int32) (I : List Nat) : rT → rT
  | ([], a, st, T, R) => ([], I.length, st + 1, T, R ++ [(a, 3, -1)])
  | (x :: s, a, st, T, R) => if x < 10 then (s, a, st + 1, T, R ++ [(a, 0, nI x)]) else if lvQ W Y (x - 10) (tok I a) = true then (s, a, st + 1, T, R ++ [(a, 1, nI x)]) else (x :: s, a + 1, st + 1, T, R ++ [(a, 2, nI x)])
def nxQ (G : List gP) (E : Int32) (F W Y : Nat → Int32) (I : List Nat) (σ : rT) : rT := if canQ G E F W I σ.2.1 σ.1 = true then goQ G E F W I σ else erQ W Y I σ
def aR (G : List gP) (E : Int32) (F W Y : Nat → Int32) (I : List Nat) : Nat → rT → Nat × rT
  | 0, σ => (2, σ)
  | k + 1, σ => if σ.1.length = 0 ∧ tok I σ.2.1 = 8 then (0, σ) else if σ.2.2.1 = 300 then (2, σ) else if 60 < (nxQ G E F W Y I σ).1.length then (2, nxQ G E F W Y I σ) else aR G E F W Y I k (nxQ G E F W Y I σ)
def QO (I : List Nat) (σ : rT) : Prop := (∀ x ∈ σ.1, okS x) ∧ σ.1.length ≤ 65 ∧ σ.2.1 ≤ I.length ∧ σ.2.2.2.1.length ≤ σ.2.2.1 ∧ σ.2.2.2.2.length ≤ σ.2.2.1 ∧ σ.2.2.1 ≤ 300
theorem nxQ_ok {G : List gP} (hG : okG G) {E : Int32} {F W Y : Nat → Int32} {I : List Nat} {σ : rT} (hP : QO I σ) (h60 : σ.1.length ≤ 60) (hd : ¬ (σ.1.length = 0 ∧ tok I σ.2.1 = 8)) (h300 : σ.2.2.1 < 300) : QO I (nxQ G E F W Y I σ) ∧ (nxQ G E F W Y I σ).2.2.1 = σ.2.2.1 + 1 := by
  obtain ⟨s, a, st, T, R⟩ := σ
  obtain ⟨p1, p2, p3, p4, p5, p6⟩ := hP
  have h60' : s.length ≤ 60 := h60
  have h300' : st < 300 := h300
  have p3' : a ≤ I.length := p3
  have p4' : T.length ≤ st := p4
  have p5' : R.length ≤ st := p5
  have ra : ∀ y : Nat × Nat × Int32, (R ++ [y]).length ≤ st + 1 := fun y => by rw [List.length_append, List.length_singleton]; omega
  unfold nxQ
  by_cases hc : canQ G E F W I a s = true
  · rw [if_pos hc]
    cases s with
    | nil => exact absurd hc (by simp [canQ])
    | cons x s =>
      have hx : okS x := p1 _ List.mem_cons_self
      have hs : ∀ y ∈ s, okS y := fun y hy => p1 y (List.mem_cons_of_mem _ hy)
      rw [List.length_cons] at h60'
      simp only [canQ] at hc
      simp only [goQ]
      by_cases h10 : x < 10
      · rw [if_pos h10, decide_eq_true_eq] at hc
        rw [if_pos h10]
        have ha : a < I.length := by
          have hx8 : x < 8 := by rcases hx with h | h <;> omega
          unfold tok at hc
          split at hc
          · assumption
          · omega
        exact ⟨⟨hs, by show s.length ≤ 65; omega, by show a + 1 ≤ I.length; omega, by show T.length ≤ st + 1; omega, by show R.length ≤ st + 1; omega, by show st + 1 ≤ 300; omega⟩, rfl⟩
      · rw [if_neg h10] at hc
        rw [if_neg h10]
        cases he : enT G E F W (x - 10) (tok I a) with
        | none => rw [he] at hc; exact absurd hc (by simp)
        | some p =>
          have hq := okG_gp hG (enT_lt he)
          have h5 := hq.2.1
          refine ⟨⟨fun y hy => ?_, by show ((gp G p).2 ++ s).length ≤ 65; rw [List.length_append]; omega, p3, by show (T ++ [p]).length ≤ st + 1; rw [List.length_append, List.length_singleton]; omega, by show R.length ≤ st + 1; omega, by show st + 1 ≤ 300; omega⟩, rfl⟩
          rcases List.mem_append.mp (show y ∈ (gp G p).2 ++ s from hy) with hy | hy
          · exact hq.2.2 y hy
          · exact hs y hy
  · rw [if_neg hc]
    cases s with
    | nil =>
      simp only [erQ]
      exact ⟨⟨p1, p2, Nat.le_refl _, by show T.length ≤ st + 1; omega, ra _, by show st + 1 ≤ 300; omega⟩, by first | rfl | trivial⟩
    | cons x s =>
      have hs : ∀ y ∈ s, okS y := fun y hy => p1 y (List.mem_cons_of_mem _ hy)
      rw [List.length_cons] at h60'
      simp only [erQ]
      by_cases h10 : x < 10
      · rw [if_pos h10]
        exact ⟨⟨hs, by show s.length ≤ 65; omega, p3, by show T.length ≤ st + 1; omega, ra _, by show st + 1 ≤ 300; omega⟩, rfl⟩
      · rw [if_neg h10]
        by_cases hl : lvQ W Y (x - 10) (tok I a) = true
        · rw [if_pos hl]
          exact ⟨⟨hs, by show s.length ≤ 65; omega, p3, by show T.length ≤ st + 1; omega, ra _, by show st + 1 ≤ 300; omega⟩, rfl⟩
        · rw [if_neg hl]
          have ha : a < I.length := by
            by_cases h : a < I.length
            · exact h
            · exfalso
              apply hl
              unfold lvQ tok
              rw [if_neg h]
              rfl
          exact ⟨⟨p1, p2, by show a + 1 ≤ I.length; omega, by show T.length ≤ st + 1; omega, ra _, by show st + 1 ≤ 300; omega⟩, rfl⟩
def syms (s : pS) : List Nat := s.map fun x => x.1
theorem canP_syms (G : List gP) (E : Int32) (F W : Nat → Int32) (I : List Nat) (a : Nat) (s : pS) : canP G E F W I a s = canQ G E F W I a (syms s) := by
  cases s with
  | nil => rfl
  | cons y s => rfl
theorem syms_put1 (w : List Nat) (b : Int32) (s : pS) : syms (put1 w b s) = w ++ syms s := by
  unfold syms put1
  rw [List.map_append, List.map_map]
  congr 1
  exact List.map_id w
theorem syms_len (s : pS) : (syms s).length = s.length := List.length_map _
def QC (σ : rT) (ta : Nat → Int32) (tn : Int32) (ep : Nat → Int32) (en : Int32) (sk br : Nat → Int32) (dp ix sp : Int32) : Prop := (∃ s1, syms s1 = σ.1 ∧ SK sk br s1) ∧ dp = nI σ.1.length ∧ ix = nI σ.2.1 ∧ sp = nI σ.2.2.1 ∧ tn = nI σ.2.2.2.1.length ∧ (∀ k, k < σ.2.2.2.1.length → ta k = nI (σ.2.2.2.1.getD k 0)) ∧ en = nI σ.2.2.2.2.length ∧ ∀ k, k < σ.2.2.2.2.length → ep (3 * k) = nI (σ.2.2.2.2.getD k (0, 0, 0)).1 ∧ ep (3 * k + 1) = nI (σ.2.2.2.2.getD k (0, 0, 0)).2.1 ∧ ep (3 * k + 2) = (σ.2.2.2.2.getD k (0, 0, 0)).2.2
theorem tb_256 {x : Int32} {t : Nat} (ht : t < 9) : tb (x ||| (256 : Int32)) t = (decide (t = 8) || tb x t) := by
  have h256 : ∀ t, t < 9 → tb (256 : Int32) t = decide (t = 8) := by decide +kernel
  rw [tb_lsb _ _ (by omega), Int32.toBitVec_or, BitVec.getLsbD_or, ← tb_lsb _ _ (by omega), ← tb_lsb _ _ (by omega), h256 t ht, Bool.or_comm]
theorem ep_app {ep : Nat → Int32} {R : List (Nat × Nat × Int32)} (h : ∀ k, k < R.length → ep (3 * k) = nI (R.getD k (0, 0, 0)).1 ∧ ep (3 * k + 1) = nI (R.getD k (0, 0, 0)).2.1 ∧ ep (3 * k + 2) = (R.getD k (0, 0, 0)).2.2) (a kd : Nat) (x : Int32) : ∀ k, k < (R ++ [(a, kd, x)]).length → (upd (upd (upd ep (R.length * 3) (nI a)) (R.length * 3 + 1) (nI kd)) (R.length * 3 + 2) x) (3 * k) = nI ((R ++ [(a, kd, x)]).getD k (0, 0, 0)).1 ∧ (upd (upd (upd ep (R.length * 3) (nI a)) (R.length * 3 + 1) (nI kd)) (R.length * 3 + 2) x) (3 * k + 1) = nI ((R ++ [(a, kd, x)]).getD k (0, 0, 0)).2.1 ∧ (upd (upd (upd ep (R.length * 3) (nI a)) (R.length * 3 + 1) (nI kd)) (R.length * 3 + 2) x) (3 * k + 2) = ((R ++ [(a, kd, x)]).getD k (0, 0, 0)).2.2 := by
  intro k hk
  rw [List.length_append, List.length_singleton] at hk
  rw [getD_app]
  by_cases e : k < R.length
  · rw [if_pos e, pk_un (by omega), pk_un (by omega), pk_un (by omega), pk_un (by omega), pk_un (by omega), pk_un (by omega), pk_un (by omega), pk_un (by omega), pk_un (by omega)]
    exact h k e
  · have : k = R.length := by omega
    subst this
    rw [if_neg e, if_pos rfl, Nat.mul_comm 3 R.length, pk_us, pk_un (by omega), pk_un (by omega), pk_us, pk_un (by omega), pk_us]
    exact ⟨rfl, rfl, rfl⟩
section RC1
variable {codes tm Y : Nat → Int32} {count il : Int32} {G : List gP} {E : Int32} {F W se ps lo : Nat → Int32} {I : List Nat}
theorem c_noteError {R : List (Nat × Nat × Int32)} (h300 : R.length < 300) (ep : Nat → Int32) (a kd : Nat) (x : Int32) : fX4_noteError ep (nI R.length) (nI a) (nI kd) x = some (upd (upd (upd ep (R.length * 3) (nI a)) (R.length * 3 + 1) (nI kd)) (R.length * 3 + 2) x, nI (R.length + 1)) := by
  have e3 : nI R.length * (3 : Int32) = nI (R.length * 3) := pk_mul R.length 3
  have e2 : nI (R.length * 3) + (2 : Int32) = nI (R.length * 3 + 2) := nI_add (R.length * 3) 2
  simp only [fX4_noteError, jn2, lt_, e3, nI_1, e2]
  rw [if_neg (nleL 300 300 h300), as_ok (show R.length * 3 < 900 by omega), obs, as_ok (show R.length * 3 + 1 < 900 by omega), obs, as_ok (show R.length * 3 + 2 < 900 by omega), obs]
theorem c_mayLeave (hI : IC tm il I) {n a : Nat} (hn : n < 8) (ha : a < 2 ^ 31) : fX4_mayLeave W tm il Y (nI a) (nI n) = some (b01 (lvQ W Y n (tok I a))) := by
  simp only [fX4_mayLeave, jn_, lt_]
  rw [ag_ok hn, obs, ag_ok hn, obs, c_token hI ha, obs, c_bit, obs, tb_256 (tok_lt hI.2.2.1 a)]
  unfold lvQ
  cases (decide (tok I a = 8) || tb (W n ||| Y n) (tok I a)) <;> simp [b01, gz]
theorem c_nxQ (hc : RC codes count G) (hG : okG G) (hT : TBx G E F W 0 se ps lo) (hI : IC tm il I) {σ : rT} (hP : QO I σ) (h60 : σ.1.length ≤ 60) (h300 : σ.2.2.1 < 300) {ta ep sk br : Nat → Int32} {tn en dp ix sp : Int32} (hC : QC σ ta tn ep en sk br dp ix sp) {N : Nat} (hN : 30 < N) : ∃ ta' tn' ep' en' sk' br' dp' ix' sp', QC (nxQ G E F W Y I σ) ta' tn' ep' en' sk' br' dp' ix' sp' ∧ fX4_canMove ps lo tm il sk dp ix = some (b01 (canQ G E F W I σ.2.1 σ.1)) ∧ ((canQ G E F W I σ.2.1 σ.1 = true ∧ ep' = ep ∧ en' = en ∧ fX4_move N codes count ps lo tm il ta tn sk br dp ix sp = some (ta', tn', sk', br', dp', ix', sp')) ∨ (canQ G E F W I σ.2.1 σ.1 = false ∧ ta' = ta ∧ tn' = tn ∧ sk' = sk ∧ br' = br ∧ fX4_passError W tm il Y ep en sk dp ix sp = some (ep', en', dp', ix', sp'))) := by
  obtain ⟨s, a, st, T, R⟩ := σ
  obtain ⟨p1, p2, p3, p4, p5, p6⟩ := hP
  obtain ⟨⟨s1, c0, c1⟩, rfl, rfl, rfl, rfl, c6, rfl, c8⟩ := hC
  have c0' : syms s1 = s := c0
  have h60' : s.length ≤ 60 := h60
  have h300' : st < 300 := h300
  have p3' : a ≤ I.length := p3
  have p4' : T.length ≤ st := p4
  have p5' : R.length ≤ st := p5
  have h40 := hI.2.1
  have hl1 : s1.length = s.length := by rw [← c0', syms_len]
  have hk1 : okK s1 := fun y hy => p1 y.1 (by show y.1 ∈ s; rw [← c0']; exact List.mem_map.mpr ⟨y, hy, rfl⟩)
  have hcm := c_canMove hG hT hI c1 hk1 (by omega) (show a < 2 ^ 31 by omega)
  rw [hl1, canP_syms, c0'] at hcm
  by_cases hcan : canQ G E F W I a s = true
  · have enx : nxQ G E F W Y I (s, a, st, T, R) = goQ G E F W I (s, a, st, T, R) := by unfold nxQ; exact if_pos hcan
    rw [enx]
    have hcan' := hcan
    cases s1 with
    | nil =>
      have : s = [] := c0'.symm
      subst this
      exact absurd hcan (by simp [canQ])
    | cons y s1 =>
      obtain ⟨x, b⟩ := y
      have es : s = x :: syms s1 := c0'.symm
      subst es
      have hx : okS x := p1 _ List.mem_cons_self
      have hls := syms_len s1
      rw [List.length_cons, hls] at h60'
      simp only [canQ] at hcan
      simp only [goQ]
      have hdl : nI (x :: syms s1, a, st, T, R).1.length = nI (s1.length + 1) := by show nI (x :: syms s1).length = _; rw [List.length_cons, hls]
      by_cases h10 : x < 10
      · rw [if_pos h10]
        refine ⟨ta, nI T.length, ep, nI R.length, sk, br, nI s1.length, nI (a + 1), nI (st + 1), ⟨⟨s1, rfl, c1.2.2⟩, by show _ = nI (syms s1).length; rw [hls], rfl, rfl, rfl, c6, rfl, c8⟩, hcm, Or.inl ⟨hcan', rfl, rfl, ?_⟩⟩
        rw [hdl]
        exact c_moveT hI c1 (show s1.length < 65 by omega) h10 ta (nI T.length) a st N
      · rw [if_neg h10] at hcan
        rw [if_neg h10]
        cases he : enT G E F W (x - 10) (tok I a) with
        | none => rw [he] at hcan; exact absurd hcan (by simp)
        | some p =>
          obtain ⟨sk', br', q1, q2⟩ := c_moveN hc hG hT hI c1 (show s1.length < 60 by omega) h10 hx ta (tl := T.length) (by omega) (st := st) (show a < 2 ^ 31 by omega) he hN
          refine ⟨upd ta T.length (nI p), nI (T.length + 1), ep, nI R.length, sk', br', nI (put1 (gp G p).2 (nI st) s1).length, nI a, nI (st + 1), ⟨⟨put1 (gp G p).2 (nI st) s1, syms_put1 _ _ _, q1⟩, ?_, rfl, rfl, by show _ = nI (T ++ [p]).length; rw [List.length_append]; rfl, tr_app c6 p, rfl, c8⟩, hcm, Or.inl ⟨hcan', rfl, rfl, by rw [hdl]; exact q2⟩⟩
          show _ = nI ((gp G p).2 ++ syms s1).length
          rw [put1_len, List.length_append, hls]
  · have hcan' : canQ G E F W I a s = false := by simpa using hcan
    have enx : nxQ G E F W Y I (s, a, st, T, R) = erQ W Y I (s, a, st, T, R) := by unfold nxQ; exact if_neg hcan
    rw [enx]
    have hRl : ∀ y : Nat × Nat × Int32, nI (R.length + 1) = nI (R ++ [y]).length := fun y => by rw [List.length_append, List.length_singleton]
    cases s1 with
    | nil =>
      have : s = [] := c0'.symm
      subst this
      simp only [erQ]
      refine ⟨ta, nI T.length, _, nI (R.length + 1), sk, br, nI 0, nI I.length, nI (st + 1), ⟨⟨[], rfl, trivial⟩, rfl, rfl, rfl, rfl, c6, hRl _, ep_app c8 a 3 (-1)⟩, hcm, Or.inr ⟨hcan', rfl, rfl, rfl, rfl, ?_⟩⟩
      have hn := c_noteError (R := R) (by omega) ep a 3 (-1)
      have hn' : fX4_noteError ep (nI R.length) (nI a) 3 (-1) = _ := hn
      simp only [fX4_passError, jn4, lt_]
      rw [show nI ([], a, st, T, R).1.length = 0 from rfl, c_top0 sk br, obs, if_pos rfl]
      show bd2 (fX4_noteError ep (nI R.length) (nI a) 3 (-1)) _ = _
      rw [hn']
      simp only [bd2, obs]
      show some (_, _, _, il, nI st + 1) = _
      rw [hI.1, nI_1]
      rfl
    | cons y s1 =>
      obtain ⟨x, b⟩ := y
      have es : s = x :: syms s1 := c0'.symm
      subst es
      have hx : okS x := p1 _ List.mem_cons_self
      have hx18 := okS_lt hx
      have hls := syms_len s1
      rw [List.length_cons, hls] at h60'
      have hdl : nI (x :: syms s1, a, st, T, R).1.length = nI (s1.length + 1) := by show nI (x :: syms s1).length = _; rw [List.length_cons, hls]
      have hneg : ¬ nI x = -1 := fun q => by
        have h2 : nI x < 0 := by rw [q]; decide
        exact nI_pos (by omega) h2
      have htop := (c_top c1 (show s1.length < 65 by omega)).1
      simp only [erQ]
      by_cases h10 : x < 10
      · rw [if_pos h10]
        have hn' : fX4_noteError ep (nI R.length) (nI a) 0 (nI x) = _ := c_noteError (R := R) (by omega) ep a 0 (nI x)
        refine ⟨ta, nI T.length, _, nI (R.length + 1), sk, br, nI s1.length, nI a, nI (st + 1), ⟨⟨s1, rfl, c1.2.2⟩, by show _ = nI (syms s1).length; rw [hls], rfl, rfl, rfl, c6, hRl _, ep_app c8 a 0 (nI x)⟩, hcm, Or.inr ⟨hcan', rfl, rfl, rfl, rfl, ?_⟩⟩
        simp only [fX4_passError, jn4, lt_]
        rw [hdl, htop, obs, if_neg hneg, if_neg (nle10 h10)]
        show bd2 (fX4_noteError ep (nI R.length) (nI a) 0 (nI x)) _ = _
        rw [hn']
        simp only [bd2, obs]
        rw [nI_sub1 (show 0 < s1.length + 1 by omega), Nat.add_sub_cancel]
        show some (_, _, _, _, nI st + 1) = _
        rw [nI_1]
      · rw [if_neg h10]
        have hml := c_mayLeave (W := W) (Y := Y) hI (n := x - 10) (by omega) (show a < 2 ^ 31 by omega)
        by_cases hlv : lvQ W Y (x - 10) (tok I a) = true
        · rw [if_pos hlv]
          have hn' : fX4_noteError ep (nI R.length) (nI a) 1 (nI x) = _ := c_noteError (R := R) (by omega) ep a 1 (nI x)
          refine ⟨ta, nI T.length, _, nI (R.length + 1), sk, br, nI s1.length, nI a, nI (st + 1), ⟨⟨s1, rfl, c1.2.2⟩, by show _ = nI (syms s1).length; rw [hls], rfl, rfl, rfl, c6, hRl _, ep_app c8 a 1 (nI x)⟩, hcm, Or.inr ⟨hcan', rfl, rfl, rfl, rfl, ?_⟩⟩
          simp only [fX4_passError, jn4, lt_]
          rw [hdl, htop, obs, if_neg hneg, if_pos (le10 h10 hx18), sub10 h10]
          show ((fX4_mayLeave W tm il Y (nI a) (nI (x - 10))).bind _) = _
          rw [hml, obs, hlv, if_neg (by decide)]
          show bd2 (fX4_noteError ep (nI R.length) (nI a) 1 (nI x)) _ = _
          rw [hn']
          simp only [bd2, obs]
          rw [nI_sub1 (show 0 < s1.length + 1 by omega), Nat.add_sub_cancel]
          show some (_, _, _, _, nI st + 1) = _
          rw [nI_1]
        · rw [if_neg hlv]
          have hlv' : lvQ W Y (x - 10) (tok I a) = false := by simpa using hlv
          have hn' : fX4_noteError ep (nI R.length) (nI a) 2 (nI x) = _ := c_noteError (R := R) (by omega) ep a 2 (nI x)
          refine ⟨ta, nI T.length, _, nI (R.length + 1), sk, br, nI (s1.length + 1), nI (a + 1), nI (st + 1), ⟨⟨(x, b) :: s1, rfl, c1⟩, by show _ = nI (x :: syms s1).length; rw [List.length_cons, hls], rfl, rfl, rfl, c6, hRl _, ep_app c8 a 2 (nI x)⟩, hcm, Or.inr ⟨hcan', rfl, rfl, rfl, rfl, ?_⟩⟩
          simp only [fX4_passError, jn4, lt_]
          rw [hdl, htop, obs, if_neg hneg, if_pos (le10 h10 hx18), sub10 h10]
          show ((fX4_mayLeave W tm il Y (nI a) (nI (x - 10))).bind _) = _
          rw [hml, obs, hlv', if_pos (by rfl)]
          show bd2 (fX4_noteError ep (nI R.length) (nI a) 2 (nI x)) _ = _
          rw [hn']
          simp only [bd2, obs]
          show some (_, _, _, nI a + 1, nI st + 1) = _
          rw [nI_1, nI_1]
def r0Q : rT := ([10], 0, 0, [], [])
def cdR (R : Nat × rT) : Int32 := if R.1 = 0 then nI R.2.2.2.2.2.length else -6
theorem c_recover (hc : RC codes count G) (hG : okG G) (hT : TBx G E F W 0 se ps lo) (hI : IC tm il I) (ta : Nat → Int32) (tn tc0 : Int32) (ep : Nat → Int32) (en : Int32) (sk br : Nat → Int32) (dp ix sp : Int32) {N : Nat} (hN : 2000 < N) : ∃ ta' tn' ep' en' sk' br' dp' ix' sp', fX4_recoverInput N codes count W ps lo tm il Y ta tn tc0 ep en sk br dp ix sp = some (cdR (aR G E F W Y I 301 r0Q), ta', tn', 0, ep', en', sk', br', dp', ix', sp') ∧ QO I (aR G E F W Y I 301 r0Q).2 ∧ QC (aR G E F W Y I 301 r0Q).2 ta' tn' ep' en' sk' br' dp' ix' sp' := by
  have h40 := hI.2.1
  obtain ⟨R, hR⟩ : ∃ R, R = aR G E F W Y I 301 r0Q := ⟨_, rfl⟩
  rw [← hR]
  have hbegin : fX4_begin tn tc0 sk br dp ix sp = some (0, 0, upd sk 0 10, upd br 0 (-1), nI 1, 0, 0) := by
    have a0 : as_ sk 65 0 10 = some (upd sk 0 10) := as_ok (i := 0) (by decide)
    have a1 : as_ br 65 0 (-1) = some (upd br 0 (-1)) := as_ok (i := 0) (by decide)
    simp only [fX4_begin, fX4_push, jn3]
    rw [if_neg (show ¬ (65 : Int32) ≤ 0 by decide), a0, obs, a1]
    rfl
  simp only [fX4_recoverInput, hbegin, bd7, obs, jn9]
  refine vlp10 (B := bX4_recoverInput_11 N codes count W ps lo tm il Y 0 fun v8 v9 v10 v11 v12 v13 v14 v15 v16 => some ((-6), v8, v9, 0, v10, v11, v12, v13, v14, v15, v16)) (fun j i ta tn ep en sk br dp ix sp => i = nI j ∧ j ≤ 300 ∧ ∃ σ : rT, σ.2.2.1 = j ∧ QO I σ ∧ σ.1.length ≤ 60 ∧ QC σ ta tn ep en sk br dp ix sp ∧ aR G E F W Y I (301 - j) σ = R) (fun r => ∃ ta' tn' ep' en' sk' br' dp' ix' sp', r = some (cdR R, ta', tn', 0, ep', en', sk', br', dp', ix', sp') ∧ QO I R.2 ∧ QC R.2 ta' tn' ep' en' sk' br' dp' ix' sp') 301 ?_ ?_ N 0 ta 0 ep 0 (upd sk 0 10) (upd br 0 (-1)) (nI 1) 0 0 (by omega) ⟨rfl, by omega, r0Q, rfl, ⟨fun x hx => by
      rw [show r0Q.1 = [10] from rfl, List.mem_singleton] at hx
      rw [hx]
      exact Or.inr ⟨Nat.le_refl _, by decide⟩, by decide, Nat.zero_le _, Nat.zero_le _, Nat.zero_le _, Nat.zero_le _⟩, by decide, ⟨⟨[(10, -1)], rfl, pk_us, pk_us, trivial⟩, rfl, rfl, rfl, rfl, fun k hk => absurd hk (Nat.not_lt_zero _), rfl, fun k hk => absurd hk (Nat.not_lt_zero _)⟩, hR.symm⟩
  · rintro j i ta tn ep en sk br dp ix sp hj ⟨rfl, hj300, σ, hst, hP, h60, hC, hA⟩
    have hP' := hP
    have hC' := hC
    obtain ⟨p1, p2, p3, p4, p5, p6⟩ := hP'
    obtain ⟨c1, c2, c3, c4, c5, c6, c7, c8⟩ := hC'
    have e1 : 301 - j = (300 - j) + 1 := by omega
    rw [e1] at hA
    simp only [aR] at hA
    have hacc : fX4_accepts tm il dp ix = some (b01 (decide (σ.1.length = 0 ∧ tok I σ.2.1 = 8))) := by rw [c2, c3]; exact c_accepts hI (by omega) (by omega)
    by_cases hd : σ.1.length = 0 ∧ tok I σ.2.1 = 8
    · right
      rw [if_pos hd] at hA
      subst hA
      refine ⟨_, ⟨ta, tn, ep, en, sk, br, dp, ix, sp, rfl, hP, hC⟩, fun rc => ?_⟩
      simp only [bX4_recoverInput_11]
      rw [if_neg (show ¬ (300 : Int32) < nI j from nI_nlt hj300 (by decide)), hacc, obs, decide_eq_true hd, if_neg (by decide)]
      have : cdR (0, σ) = en := by rw [c7]; rfl
      rw [this]
    · rw [if_neg hd] at hA
      by_cases h300 : σ.2.2.1 = 300
      · right
        rw [if_pos h300] at hA
        subst hA
        refine ⟨_, ⟨ta, tn, ep, en, sk, br, dp, ix, sp, rfl, hP, hC⟩, fun rc => ?_⟩
        simp only [bX4_recoverInput_11]
        rw [if_neg (show ¬ (300 : Int32) < nI j from nI_nlt hj300 (by decide)), hacc, obs, decide_eq_false hd, if_pos (by rfl), if_neg (show ¬ sp < 300 by rw [c4, h300]; decide)]
        rfl
      · rw [if_neg h300] at hA
        have hlt : σ.2.2.1 < 300 := by omega
        obtain ⟨g1, g2⟩ := nxQ_ok hG (E := E) (F := F) (W := W) (Y := Y) hP h60 hd hlt
        obtain ⟨ta', tn', ep', en', sk', br', dp', ix', sp', k5, k6, k7⟩ := c_nxQ (Y := Y) hc hG hT hI hP h60 hlt hC (show 30 < N by omega)
        have g65 := g1.2.1
        have hbody : ∀ rc : _ → _ → _ → _ → _ → _ → _ → _ → _ → _ → Option (Int32 × (Nat → Int32) × Int32 × Int32 × (Nat → Int32) × Int32 × (Nat → Int32) × (Nat → Int32) × Int32 × Int32 × Int32), bX4_recoverInput_11 N codes count W ps lo tm il Y 0 (fun v8 v9 v10 v11 v12 v13 v14 v15 v16 => some ((-6), v8, v9, 0, v10, v11, v12, v13, v14, v15, v16)) rc (nI j) ta tn ep en sk br dp ix sp = if dp' ≤ 60 then rc (nI (j + 1)) ta' tn' ep' en' sk' br' dp' ix' sp' else some ((-6), ta', tn', 0, ep', en', sk', br', dp', ix', sp') := by
          intro rc
          simp only [bX4_recoverInput_11, jn9, lt_, nI_1]
          rw [if_neg (show ¬ (300 : Int32) < nI j from nI_nlt hj300 (by decide)), hacc, obs, decide_eq_false hd, if_pos (by rfl), if_pos (show sp < 300 by rw [c4]; exact nI_lt (b := 300) hlt (by decide)), k6, obs]
          rcases k7 with ⟨q1, rfl, rfl, q2⟩ | ⟨q1, rfl, rfl, rfl, rfl, q2⟩
          · rw [q1, if_neg (by decide), q2]
            rfl
          · rw [q1, if_pos (by rfl), q2]
            rfl
        by_cases h60' : 60 < (nxQ G E F W Y I σ).1.length
        · right
          rw [if_pos h60'] at hA
          subst hA
          refine ⟨_, ⟨ta', tn', ep', en', sk', br', dp', ix', sp', rfl, g1, k5⟩, fun rc => ?_⟩
          rw [hbody, if_neg (show ¬ dp' ≤ 60 by rw [k5.2.1]; exact nI_ge h60' (by omega))]
          rfl
        · left
          rw [if_neg h60'] at hA
          refine ⟨nI (j + 1), ta', tn', ep', en', sk', br', dp', ix', sp', ⟨rfl, by omega, nxQ G E F W Y I σ, by rw [g2, hst], g1, by omega, k5, by rw [show 301 - (j + 1) = 300 - j by omega]; exact hA⟩, fun rc => ?_⟩
          rw [hbody, if_pos (show dp' ≤ 60 by rw [k5.2.1]; exact nI_le (b := 60) (by omega) (by decide))]
  · rintro i ta tn ep en sk br dp ix sp ⟨rfl, hj, _⟩
    exact absurd hj (by decide)
end RC1
