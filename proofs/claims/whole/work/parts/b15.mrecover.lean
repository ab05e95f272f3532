/-! RECOVERY: the reference's loop -/
def QM (σ : rT) (ks kp : Nat → Int32) (top at0 stp trd : Int32) (trs : Nat → Int32) (mde ers : Int32) (era erk ert : Nat → Int32) : Prop := (∃ s1, syms s1 = σ.1 ∧ SK ks kp s1) ∧ top = nI σ.1.length ∧ at0 = nI σ.2.1 ∧ stp = nI σ.2.2.1 ∧ trd = nI σ.2.2.2.1.length ∧ (∀ k, k < σ.2.2.2.1.length → trs k = nI (σ.2.2.2.1.getD k 0)) ∧ (∃ m, m ≤ σ.2.2.1 ∧ mde = nI m) ∧ ers = nI σ.2.2.2.2.length ∧ ∀ k, k < σ.2.2.2.2.length → era k = nI (σ.2.2.2.2.getD k (0, 0, 0)).1 ∧ erk k = nI (σ.2.2.2.2.getD k (0, 0, 0)).2.1 ∧ ert k = (σ.2.2.2.2.getD k (0, 0, 0)).2.2
theorem er_app {era erk ert : Nat → Int32} {R : List (Nat × Nat × Int32)} (h : ∀ k, k < R.length → era k = nI (R.getD k (0, 0, 0)).1 ∧ erk k = nI (R.getD k (0, 0, 0)).2.1 ∧ ert k = (R.getD k (0, 0, 0)).2.2) (a kd : Nat) (x : Int32) : ∀ k, k < (R ++ [(a, kd, x)]).length → upd era R.length (nI a) k = nI ((R ++ [(a, kd, x)]).getD k (0, 0, 0)).1 ∧ upd erk R.length (nI kd) k = nI ((R ++ [(a, kd, x)]).getD k (0, 0, 0)).2.1 ∧ upd ert R.length x k = ((R ++ [(a, kd, x)]).getD k (0, 0, 0)).2.2 := by
  intro k hk
  rw [List.length_append, List.length_singleton] at hk
  rw [getD_app]
  by_cases e : k < R.length
  · rw [if_pos e, pk_un (by omega), pk_un (by omega), pk_un (by omega)]
    exact h k e
  · have : k = R.length := by omega
    subst this
    rw [if_neg e, if_pos rfl, pk_us, pk_us, pk_us]
    exact ⟨rfl, rfl, rfl⟩
section RM3
variable {rules ml : Int32} {lefts sizes rights mi Y : Nat → Int32} {G : List gP} {E : Int32} {F W : Nat → Int32} {I : List Nat}
theorem lvQ_congr {W' Y' : Nat → Int32} (hW : ∀ n, n < 8 → W' n = W n) (hY : ∀ n, n < 8 → Y' n = Y n) {n : Nat} (hn : n < 8) (t : Nat) : lvQ W' Y' n t = lvQ W Y n t := by unfold lvQ; rw [hW n hn, hY n hn]
theorem nxQ_congr (hG : okG G) {F' W' Y' : Nat → Int32} (hF : ∀ n, n < 8 → F' n = F n) (hW : ∀ n, n < 8 → W' n = W n) (hY : ∀ n, n < 8 → Y' n = Y n) {σ : rT} (hP : QO I σ) : nxQ G E F' W' Y' I σ = nxQ G E F W Y I σ := by
  obtain ⟨s, a, st, T, R⟩ := σ
  cases s with
  | nil => rfl
  | cons x s =>
    have hx := okS_lt (hP.1 x List.mem_cons_self)
    unfold nxQ
    simp only [canQ, goQ, erQ, enT_congr hG hF hW]
    by_cases h10 : x < 10
    · simp only [if_pos h10]
    · simp only [if_neg h10]
      rw [lvQ_congr hW hY (show x - 10 < 8 by omega)]
theorem aR_congr (hG : okG G) {F' W' Y' : Nat → Int32} (hF : ∀ n, n < 8 → F' n = F n) (hW : ∀ n, n < 8 → W' n = W n) (hY : ∀ n, n < 8 → Y' n = Y n) : ∀ (k : Nat) (σ : rT), QO I σ → σ.1.length ≤ 60 → aR G E F' W' Y' I k σ = aR G E F W Y I k σ
  | 0, _, _, _ => rfl
  | k + 1, σ, hP, h60 => by
    simp only [aR]
    rw [nxQ_congr hG hF hW hY hP]
    by_cases hd : σ.1.length = 0 ∧ tok I σ.2.1 = 8
    · rw [if_pos hd, if_pos hd]
    · rw [if_neg hd, if_neg hd]
      by_cases h300 : σ.2.2.1 = 300
      · rw [if_pos h300, if_pos h300]
      · rw [if_neg h300, if_neg h300]
        by_cases h6 : 60 < (nxQ G E F W Y I σ).1.length
        · rw [if_pos h6, if_pos h6]
        · rw [if_neg h6, if_neg h6]
          have := hP.2.2.2.2.2
          exact aR_congr hG hF hW hY k _ (nxQ_ok hG hP h60 hd (by omega)).1 (by omega)
theorem QO_r0 (I : List Nat) : QO I r0Q := ⟨fun x hx => by
      rw [show r0Q.1 = [10] from rfl, List.mem_singleton] at hx
      rw [hx]
      exact Or.inr ⟨Nat.le_refl _, by decide⟩, by decide, Nat.zero_le _, Nat.zero_le _, Nat.zero_le _, Nat.zero_le _⟩
theorem m_errs {ks kp : Nat → Int32} {x : Nat} {b : Int32} {s : pS} (h : SK ks kp ((x, b) :: s)) (h65 : s.length < 65) {R : List (Nat × Nat × Int32)} (h300 : R.length < 300) (a st kd : Nat) (hkd : kd < 3) (era erk ert : Nat → Int32) : fX12_errs ks (nI (s.length + 1)) (nI a) (nI st) (nI R.length) era erk ert (nI kd) = some (nI (st + 1), nI (R.length + 1), upd era R.length (nI a), upd erk R.length (nI kd), upd ert R.length (nI x)) := by
  simp only [fX12_errs, jn_, lt_]
  rw [as_ok h300, obs, as_ok h300, obs, if_neg (show ¬ nI kd = 3 from fun q => by
    have q' : nI kd = nI 3 := q
    rw [nI_eq (by omega) (by decide)] at q'
    omega), (m_rdTop h (by omega)).1, obs, as_ok h300, obs, nI_1, nI_1]
theorem m_errs3 (ks : Nat → Int32) (top : Int32) {R : List (Nat × Nat × Int32)} (h300 : R.length < 300) (a st : Nat) (era erk ert : Nat → Int32) : fX12_errs ks top (nI a) (nI st) (nI R.length) era erk ert 3 = some (nI (st + 1), nI (R.length + 1), upd era R.length (nI a), upd erk R.length (nI 3), upd ert R.length (-1)) := by
  simp only [fX12_errs, jn_, lt_]
  rw [as_ok h300, obs, as_ok h300, obs, if_pos trivial, as_ok h300, obs, nI_1, nI_1]
  rfl
theorem m_nxQ (hM : RM rules lefts sizes rights G) (hG : okG G) (hI : IC mi ml I) (st' lg' tr' : Nat → Int32) (tl' : Int32) (K31) {σ : rT} (hP : QO I σ) (h60 : σ.1.length ≤ 60) (hd : ¬ (σ.1.length = 0 ∧ tok I σ.2.1 = 8)) (h300 : σ.2.2.1 < 300) {ks kp trs nsy npa era erk ert : Nat → Int32} {top at0 stp trd mde ers : Int32} (hC : QM σ ks kp top at0 stp trd trs mde ers era erk ert) {N : Nat} (hN : 30 < N) : ∃ ks' kp' top' at' stp' trd' trs' mde' nsy' npa' ers' era' erk' ert', QM (nxQ G E F W Y I σ) ks' kp' top' at' stp' trd' trs' mde' ers' era' erk' ert' ∧ ((canQ G E F W I σ.2.1 σ.1 = false ∧ ∀ rc, bX12_recover_9 N rules lefts sizes rights Y mi ml 1 E F W st' lg' tr' tl' 0 K31 rc ks kp top at0 stp trd trs mde nsy npa ers era erk ert = rc ks' kp' top' at' stp' trd' trs' mde' nsy' npa' ers' era' erk' ert') ∨ (canQ G E F W I σ.2.1 σ.1 = true ∧ ∀ rc, bX12_recover_9 N rules lefts sizes rights Y mi ml 1 E F W st' lg' tr' tl' 0 K31 rc ks kp top at0 stp trd trs mde nsy npa ers era erk ert = if top' ≤ 60 then rc ks' kp' top' at' stp' trd' trs' mde' nsy' npa' ers' era' erk' ert' else some ((-6), 1, E, F, W, st', lg', tr', tl', ks', kp', top', at', stp', trd', trs', 0, mde', nsy', npa', ers', era', erk', ert'))) := by
  obtain ⟨s, a, st, T, R⟩ := σ
  obtain ⟨p1, p2, p3, p4, p5, p6⟩ := hP
  obtain ⟨⟨s1, c0, c1⟩, rfl, rfl, rfl, rfl, c6, ⟨md, hmd, rfl⟩, rfl, c8⟩ := hC
  have c0' : syms s1 = s := c0
  have h60' : s.length ≤ 60 := h60
  have h300' : st < 300 := h300
  have p3' : a ≤ I.length := p3
  have p4' : T.length ≤ st := p4
  have p5' : R.length ≤ st := p5
  have hmd' : md ≤ st := hmd
  have h40 := hI.2.1
  have htk := tok_lt hI.2.2.1 a
  have hl1 : s1.length = s.length := by rw [← c0', syms_len]
  have hk1 : okK s1 := fun y hy => p1 y.1 (by show y.1 ∈ s; rw [← c0']; exact List.mem_map.mpr ⟨y, hy, rfl⟩)
  have hdone : fX12_isDone mi ml (nI s.length) (nI a) = some 0 := by
    rw [m_isDone hI (by omega) (by omega), decide_eq_false hd]
    rfl
  have hn300 : ¬ nI st = 300 := fun q => by
    have q' : nI st = nI 300 := q
    rw [nI_eq (by omega) (by decide)] at q'
    omega
  have hRl : ∀ y : Nat × Nat × Int32, nI (R.length + 1) = nI (R ++ [y]).length := fun y => by rw [List.length_append, List.length_singleton]
  by_cases hcan : canQ G E F W I a s = true
  · have enx : nxQ G E F W Y I (s, a, st, T, R) = goQ G E F W I (s, a, st, T, R) := by unfold nxQ; exact if_pos hcan
    rw [enx]
    have hcan' := hcan
    cases s1 with
    | nil =>
      have : s = [] := c0'.symm
      subst this
      exact absurd hcan (by simp [canQ])
    | cons y s1 =>
      obtain ⟨x, b⟩ := y
      have es : s = x :: syms s1 := c0'.symm
      subst es
      have hx : okS x := p1 _ List.mem_cons_self
      have hls := syms_len s1
      rw [List.length_cons, hls] at h60' hdone
      simp only [canQ] at hcan
      simp only [goQ]
      have hdl : nI (x :: syms s1, a, st, T, R).1.length = nI (s1.length + 1) := by show nI (x :: syms s1).length = _; rw [List.length_cons, hls]
      by_cases h10 : x < 10
      · rw [if_pos h10, decide_eq_true_eq] at hcan
        rw [if_pos h10]
        have hgo := m_goesT (rules := rules) (lefts := lefts) (sizes := sizes) (rights := rights) (E := E) (F := F) (W := W) hI c1 (show s1.length < 65 by omega) h10 (show a < 2 ^ 31 by omega) hcan st (nI T.length) trs (md := md) (by omega) nsy npa N
        refine ⟨ks, kp, nI s1.length, nI (a + 1), nI (st + 1), nI T.length, trs, nI (md + 1), upd nsy md (nI x), upd npa md b, nI R.length, era, erk, ert, ⟨⟨s1, rfl, c1.2.2⟩, by show _ = nI (syms s1).length; rw [hls], rfl, rfl, rfl, c6, ⟨md + 1, by show md + 1 ≤ st + 1; omega, rfl⟩, rfl, c8⟩, Or.inr ⟨hcan', fun rc => ?_⟩⟩
        rw [hdl]
        show bX12_recover_9 _ _ _ _ _ _ _ _ _ _ _ _ _ _ _ _ _ _ _ ks kp (nI (s1.length + 1)) (nI a) (nI st) (nI T.length) trs (nI md) nsy npa (nI R.length) era erk ert = _
        simp only [bX12_recover_9, hdone, obs]
        rw [if_pos trivial, if_neg hn300, hgo]
        simp only [bd11, obs]
        rw [if_neg (by decide)]
      · rw [if_neg h10] at hcan
        rw [if_neg h10]
        cases he : enT G E F W (x - 10) (tok I a) with
        | none => rw [he] at hcan; exact absurd hcan (by simp)
        | some p =>
          obtain ⟨ks', kp', q1, q2⟩ := m_goesN hM hG hI c1 (show s1.length < 60 by omega) h10 hx (show a < 2 ^ 31 by omega) he st (tl := T.length) (by omega) trs (md := md) (by omega) nsy npa hN
          refine ⟨ks', kp', nI (put1 (gp G p).2 (nI md) s1).length, nI a, nI (st + 1), nI (T.length + 1), upd trs T.length (nI p), nI (md + 1), upd nsy md (nI x), upd npa md b, nI R.length, era, erk, ert, ⟨⟨put1 (gp G p).2 (nI md) s1, syms_put1 _ _ _, q1⟩, ?_, rfl, rfl, by show _ = nI (T ++ [p]).length; rw [List.length_append]; rfl, tr_app c6 p, ⟨md + 1, by show md + 1 ≤ st + 1; omega, rfl⟩, rfl, c8⟩, Or.inr ⟨hcan', fun rc => ?_⟩⟩
          · show _ = nI ((gp G p).2 ++ syms s1).length
            rw [put1_len, List.length_append, hls]
          · rw [hdl]
            show bX12_recover_9 _ _ _ _ _ _ _ _ _ _ _ _ _ _ _ _ _ _ _ ks kp (nI (s1.length + 1)) (nI a) (nI st) (nI T.length) trs (nI md) nsy npa (nI R.length) era erk ert = _
            simp only [bX12_recover_9, hdone, obs]
            rw [if_pos trivial, if_neg hn300, q2]
            simp only [bd11, obs]
            rw [if_neg (by decide)]
  · have hcan' : canQ G E F W I a s = false := by simpa using hcan
    have enx : nxQ G E F W Y I (s, a, st, T, R) = erQ W Y I (s, a, st, T, R) := by unfold nxQ; exact if_neg hcan
    rw [enx]
    have hgo := m_goes0 (E := E) (F := F) (W := W) hM hG hI c1 hk1 (by omega) (show a < 2 ^ 31 by omega) (by rw [canP_syms, c0']; exact hcan') (nI st) (nI T.length) trs (nI md) nsy npa hN
    rw [hl1] at hgo
    cases s1 with
    | nil =>
      have : s = [] := c0'.symm
      subst this
      simp only [erQ]
      have he := m_errs3 ks (nI 0) (R := R) (by omega) a st era erk ert
      refine ⟨ks, kp, nI 0, nI I.length, nI (st + 1), nI T.length, trs, nI md, nsy, npa, nI (R.length + 1), _, _, _, ⟨⟨[], rfl, trivial⟩, rfl, rfl, rfl, rfl, c6, ⟨md, by show md ≤ st + 1; omega, rfl⟩, hRl _, er_app c8 a 3 (-1)⟩, Or.inl ⟨hcan', fun rc => ?_⟩⟩
      show bX12_recover_9 _ _ _ _ _ _ _ _ _ _ _ _ _ _ _ _ _ _ _ ks kp (nI 0) (nI a) (nI st) (nI T.length) trs (nI md) nsy npa (nI R.length) era erk ert = _
      have hdone' : fX12_isDone mi ml (nI 0) (nI a) = some 0 := hdone
      have hgo' : fX12_goes N rules lefts sizes rights E F W mi ml ks kp (nI 0) (nI a) (nI st) (nI T.length) trs (nI md) nsy npa = some (0, ks, kp, nI 0, nI a, nI st, nI T.length, trs, nI md, nsy, npa) := hgo
      simp only [bX12_recover_9, hdone', obs]
      rw [if_pos trivial, if_neg hn300, hgo']
      simp only [bd11, obs]
      rw [if_pos trivial, if_pos (by rfl), he]
      simp only [bd5, obs]
      rw [hI.1]
    | cons y s1 =>
      obtain ⟨x, b⟩ := y
      have es : s = x :: syms s1 := c0'.symm
      subst es
      have hx : okS x := p1 _ List.mem_cons_self
      have hx18 := okS_lt hx
      have hls := syms_len s1
      rw [List.length_cons, hls] at h60' hdone hgo
      have hdl : nI (x :: syms s1, a, st, T, R).1.length = nI (s1.length + 1) := by show nI (x :: syms s1).length = _; rw [List.length_cons, hls]
      have htop := (m_rdTop c1 (show s1.length < 66 by omega)).1
      have htok := m_token hI (show a < 2 ^ 31 by omega)
      have hbody : ∀ rc, bX12_recover_9 N rules lefts sizes rights Y mi ml 1 E F W st' lg' tr' tl' 0 K31 rc ks kp (nI (s1.length + 1)) (nI a) (nI st) (nI T.length) trs (nI md) nsy npa (nI R.length) era erk ert = if x < 10 then (bd5 (fX12_errs ks (nI (s1.length + 1)) (nI a) (nI st) (nI R.length) era erk ert (nI 0)) fun o62 o63 o64 o65 o66 => rc ks kp (nI s1.length) (nI a) o62 (nI T.length) trs (nI md) nsy npa o63 o64 o65 o66) else if lvQ W Y (x - 10) (tok I a) = true then (bd5 (fX12_errs ks (nI (s1.length + 1)) (nI a) (nI st) (nI R.length) era erk ert (nI 1)) fun o62 o63 o64 o65 o66 => rc ks kp (nI s1.length) (nI a) o62 (nI T.length) trs (nI md) nsy npa o63 o64 o65 o66) else (bd5 (fX12_errs ks (nI (s1.length + 1)) (nI a) (nI st) (nI R.length) era erk ert (nI 2)) fun o62 o63 o64 o65 o66 => rc ks kp (nI (s1.length + 1)) (nI (a + 1)) o62 (nI T.length) trs (nI md) nsy npa o63 o64 o65 o66) := by
        intro rc
        have hdz : nI (s1.length + 1) - 1 = nI s1.length := by rw [nI_sub1 (by omega), Nat.add_sub_cancel]
        simp only [bX12_recover_9, hdone, obs]
        rw [if_pos trivial, if_neg hn300, hgo]
        simp only [bd11, obs]
        rw [if_pos trivial, if_neg (nI_ne0 (by omega) (by omega)), htop, obs]
        simp only [jn_, jn2, lt_, hdz, nI_1]
        by_cases h10 : x < 10
        · rw [if_pos (lt10 h10), if_pos h10, if_neg (nle10 h10)]
          rfl
        · rw [if_neg (nlt10 h10 hx18), if_neg h10, htok, obs, if_pos (le10 h10 hx18)]
          unfold lvQ
          by_cases h8 : tok I a = 8
          · rw [if_pos (by rw [h8]; rfl), decide_eq_true h8, Bool.true_or, if_pos rfl, if_neg (by decide)]
            rfl
          · rw [if_neg (by rw [n8, nI_eq (by omega) (by decide)]; exact h8), sub10 h10, ag_ok (show x - 10 < 8 by omega), obs, ag_ok (show x - 10 < 8 by omega), obs, obs, bit01, decide_eq_false h8, Bool.false_or]
            cases ht : tb (W (x - 10) ||| Y (x - 10)) (tok I a) with
            | true => simp [b01, le10 h10 hx18] <;> rfl
            | false => simp [b01, le10 h10 hx18] <;> rfl
      have hR300 : R.length < 300 := by omega
      simp only [erQ]
      rw [hdl]
      by_cases h10 : x < 10
      · rw [if_pos h10]
        refine ⟨ks, kp, nI s1.length, nI a, nI (st + 1), nI T.length, trs, nI md, nsy, npa, nI (R.length + 1), _, _, _, ⟨⟨s1, rfl, c1.2.2⟩, by show _ = nI (syms s1).length; rw [hls], rfl, rfl, rfl, c6, ⟨md, by show md ≤ st + 1; omega, rfl⟩, hRl _, er_app c8 a 0 (nI x)⟩, Or.inl ⟨hcan', fun rc => ?_⟩⟩
        show bX12_recover_9 N rules lefts sizes rights Y mi ml 1 E F W st' lg' tr' tl' 0 K31 rc ks kp (nI (s1.length + 1)) (nI a) (nI st) (nI T.length) trs (nI md) nsy npa (nI R.length) era erk ert = _
        rw [hbody, if_pos h10, m_errs c1 (show s1.length < 65 by omega) hR300 a st 0 (by decide)]
        rfl
      · rw [if_neg h10]
        by_cases hlv : lvQ W Y (x - 10) (tok I a) = true
        · rw [if_pos hlv]
          refine ⟨ks, kp, nI s1.length, nI a, nI (st + 1), nI T.length, trs, nI md, nsy, npa, nI (R.length + 1), _, _, _, ⟨⟨s1, rfl, c1.2.2⟩, by show _ = nI (syms s1).length; rw [hls], rfl, rfl, rfl, c6, ⟨md, by show md ≤ st + 1; omega, rfl⟩, hRl _, er_app c8 a 1 (nI x)⟩, Or.inl ⟨hcan', fun rc => ?_⟩⟩
          show bX12_recover_9 N rules lefts sizes rights Y mi ml 1 E F W st' lg' tr' tl' 0 K31 rc ks kp (nI (s1.length + 1)) (nI a) (nI st) (nI T.length) trs (nI md) nsy npa (nI R.length) era erk ert = _
          rw [hbody, if_neg h10, if_pos hlv, m_errs c1 (show s1.length < 65 by omega) hR300 a st 1 (by decide)]
          rfl
        · rw [if_neg hlv]
          refine ⟨ks, kp, nI (s1.length + 1), nI (a + 1), nI (st + 1), nI T.length, trs, nI md, nsy, npa, nI (R.length + 1), _, _, _, ⟨⟨(x, b) :: s1, rfl, c1⟩, by show _ = nI (x :: syms s1).length; rw [List.length_cons, hls], rfl, rfl, rfl, c6, ⟨md, by show md ≤ st + 1; omega, rfl⟩, hRl _, er_app c8 a 2 (nI x)⟩, Or.inl ⟨hcan', fun rc => ?_⟩⟩
          show bX12_recover_9 N rules lefts sizes rights Y mi ml 1 E F W st' lg' tr' tl' 0 K31 rc ks kp (nI (s1.length + 1)) (nI a) (nI st) (nI T.length) trs (nI md) nsy npa (nI R.length) era erk ert = _
          rw [hbody, if_neg h10, if_neg hlv, m_errs c1 (show s1.length < 65 by omega) hR300 a st 2 (by decide)]
          rfl
theorem m_recover (hM : RM rules lefts sizes rights G) (hG : okG G) (hI : IC mi ml I) {iw e : Int32} {f w st lg tr : Nat → Int32} {tl : Int32} {st' lg' tr' : Nat → Int32} {tl' : Int32} {N : Nat} (hw : fX12_works N rules lefts sizes rights iw e f w st lg tr tl = some (1, E, F, W, st', lg', tr', tl')) (ks kp : Nat → Int32) (top at0 stp trd : Int32) (trs : Nat → Int32) (nds mde : Int32) (nsy npa : Nat → Int32) (ers : Int32) (era erk ert : Nat → Int32) (hN : 2000 < N) : ∃ ks' kp' top' at' stp' trd' trs' mde' nsy' npa' ers' era' erk' ert', fX12_recover N rules lefts sizes rights iw e f w st lg tr tl Y mi ml ks kp top at0 stp trd trs nds mde nsy npa ers era erk ert = some (cdR (aR G E F W Y I 301 r0Q), 1, E, F, W, st', lg', tr', tl', ks', kp', top', at', stp', trd', trs', 0, mde', nsy', npa', ers', era', erk', ert') ∧ QM (aR G E F W Y I 301 r0Q).2 ks' kp' top' at' stp' trd' trs' mde' ers' era' erk' ert' := by
  have h40 := hI.2.1
  obtain ⟨R, hR⟩ : ∃ R, R = aR G E F W Y I 301 r0Q := ⟨_, rfl⟩
  rw [← hR]
  have hst : fX12_starts N rules lefts sizes rights iw e f w st lg tr tl ks kp top at0 stp trd nds mde = some (1, E, F, W, st', lg', tr', tl', upd ks 0 10, upd kp 0 (-1), 1, 0, 0, 0, 0, 0) := by
    simp only [fX12_starts, hw, bd8, obs]
    rw [(put10 ks kp).1, obs, (put10 ks kp).2]
    rfl
  simp only [fX12_recover, hst, bd16, obs, jn14]
  refine vlp14 (fun j ks kp top at0 stp trd trs mde nsy npa ers era erk ert => j ≤ 300 ∧ ∃ σ : rT, σ.2.2.1 = j ∧ QO I σ ∧ σ.1.length ≤ 60 ∧ QM σ ks kp top at0 stp trd trs mde ers era erk ert ∧ aR G E F W Y I (301 - j) σ = R) (fun r => ∃ ks' kp' top' at' stp' trd' trs' mde' nsy' npa' ers' era' erk' ert', r = some (cdR R, 1, E, F, W, st', lg', tr', tl', ks', kp', top', at', stp', trd', trs', 0, mde', nsy', npa', ers', era', erk', ert') ∧ QM R.2 ks' kp' top' at' stp' trd' trs' mde' ers' era' erk' ert') 301 ?_ ?_ N _ _ _ _ _ _ trs _ nsy npa _ era erk ert (by omega) ⟨by omega, r0Q, rfl, QO_r0 I, by decide, ⟨⟨[(10, -1)], rfl, pk_us, pk_us, trivial⟩, rfl, rfl, rfl, rfl, fun k hk => absurd hk (Nat.not_lt_zero _), ⟨0, Nat.le_refl _, rfl⟩, rfl, fun k hk => absurd hk (Nat.not_lt_zero _)⟩, hR.symm⟩
  · rintro j ks kp top at0 stp trd trs mde nsy npa ers era erk ert hj ⟨hj300, σ, hst, hP, h60, hC, hA⟩
    have hP' := hP
    have hC' := hC
    obtain ⟨p1, p2, p3, p4, p5, p6⟩ := hP'
    obtain ⟨c1, c2, c3, c4, c5, c6, c7, c8, c9⟩ := hC'
    have e1 : 301 - j = (300 - j) + 1 := by omega
    rw [e1] at hA
    simp only [aR] at hA
    have hacc : fX12_isDone mi ml top at0 = some (b01 (decide (σ.1.length = 0 ∧ tok I σ.2.1 = 8))) := by rw [c2, c3]; exact m_isDone hI (by omega) (by omega)
    by_cases hd : σ.1.length = 0 ∧ tok I σ.2.1 = 8
    · right
      rw [if_pos hd] at hA
      subst hA
      refine ⟨_, ⟨ks, kp, top, at0, stp, trd, trs, mde, nsy, npa, ers, era, erk, ert, rfl, hC⟩, fun rc => ?_⟩
      simp only [bX12_recover_9]
      rw [hacc, obs, decide_eq_true hd, if_neg (by decide)]
      have : cdR (0, σ) = ers := by rw [c8]; rfl
      rw [this]
    · rw [if_neg hd] at hA
      by_cases h300 : σ.2.2.1 = 300
      · right
        rw [if_pos h300] at hA
        subst hA
        refine ⟨_, ⟨ks, kp, top, at0, stp, trd, trs, mde, nsy, npa, ers, era, erk, ert, rfl, hC⟩, fun rc => ?_⟩
        simp only [bX12_recover_9]
        rw [hacc, obs, decide_eq_false hd, if_pos (by rfl), if_pos (show stp = 300 by rw [c4, h300]; rfl)]
        rfl
      · rw [if_neg h300] at hA
        have hlt : σ.2.2.1 < 300 := by omega
        obtain ⟨g1, g2⟩ := nxQ_ok hG (E := E) (F := F) (W := W) (Y := Y) hP h60 hd hlt
        have g65 := g1.2.1
        obtain ⟨ks', kp', top', at', stp', trd', trs', mde', nsy', npa', ers', era', erk', ert', k5, k6⟩ := m_nxQ (E := E) (F := F) (W := W) (Y := Y) hM hG hI st' lg' tr' tl' (fun v17 v18 v19 v20 v21 v22 v23 v24 v25 v26 v27 v28 v29 v30 => some (v27, 1, E, F, W, st', lg', tr', tl', v17, v18, v19, v20, v21, v22, v23, 0, v24, v25, v26, v27, v28, v29, v30)) hP h60 hd hlt (nsy := nsy) (npa := npa) hC (show 30 < N by omega)
        rcases k6 with ⟨q1, q2⟩ | ⟨q1, q2⟩
        · left
          have hs60 : (nxQ G E F W Y I σ).1.length ≤ 60 := by
            have enx : nxQ G E F W Y I σ = erQ W Y I σ := by unfold nxQ; rw [q1]; rfl
            rw [enx]
            obtain ⟨s, a, st, T, R0⟩ := σ
            have h60' : s.length ≤ 60 := h60
            cases s with
            | nil => exact Nat.zero_le _
            | cons x s =>
              rw [List.length_cons] at h60'
              simp only [erQ]
              split
              · show s.length ≤ 60; omega
              · split
                · show s.length ≤ 60; omega
                · show (x :: s).length ≤ 60; rw [List.length_cons]; omega
          rw [if_neg (by omega)] at hA
          exact ⟨ks', kp', top', at', stp', trd', trs', mde', nsy', npa', ers', era', erk', ert', ⟨by omega, nxQ G E F W Y I σ, by rw [g2, hst], g1, hs60, k5, by rw [show 301 - (j + 1) = 300 - j by omega]; exact hA⟩, q2⟩
        · by_cases h60' : 60 < (nxQ G E F W Y I σ).1.length
          · right
            rw [if_pos h60'] at hA
            subst hA
            refine ⟨_, ⟨ks', kp', top', at', stp', trd', trs', mde', nsy', npa', ers', era', erk', ert', rfl, k5⟩, fun rc => ?_⟩
            rw [q2, if_neg (show ¬ top' ≤ 60 by rw [k5.2.1]; exact nI_ge h60' (by omega))]
            rfl
          · left
            rw [if_neg h60'] at hA
            refine ⟨ks', kp', top', at', stp', trd', trs', mde', nsy', npa', ers', era', erk', ert', ⟨by omega, nxQ G E F W Y I σ, by rw [g2, hst], g1, by omega, k5, by rw [show 301 - (j + 1) = 300 - j by omega]; exact hA⟩, fun rc => ?_⟩
            rw [q2, if_pos (show top' ≤ 60 by rw [k5.2.1]; exact nI_le (b := 60) (by omega) (by decide))]
  · rintro ks kp top at0 stp trd trs mde nsy npa ers era erk ert ⟨hj, _⟩
    exact absurd hj (by decide)
end RM3
