/-! THE REFERENCE'S works; nullable says: the shortest word is empty -/
def WK (G : List gP) (Es : Int32) (Fs Ws : Nat → Int32) (e : Int32) (f w st lg : Nat → Int32) (v : vW) : Prop := e = Es ∧ (∀ n, n < 8 → f n = Fs n) ∧ (∀ n, n < 8 → w n = Ws n) ∧ SV st lg v 0 8 ∧ PlainOK G v
theorem m_works {rules : Int32} {lefts sizes rights : Nat → Int32} {G : List gP} (hM : RM rules lefts sizes rights G) (hG : okG G) {Es : Int32} {Fs Ws : Nat → Int32} (hS : SetsOK G Es Fs Ws) {iw e : Int32} {f w st lg : Nat → Int32} (tr : Nat → Int32) (tl : Int32) (hi : iw = 0 ∨ (iw = 1 ∧ ∃ v, WK G Es Fs Ws e f w st lg v)) {N : Nat} (hN : 2000 < N) : ∃ f' w' st' lg' tr' tl' v, fX12_works N rules lefts sizes rights iw e f w st lg tr tl = some (1, Es, f', w', st', lg', tr', tl') ∧ WK G Es Fs Ws Es f' w' st' lg' v := by
  rcases hi with rfl | ⟨rfl, v, hv⟩
  · simp only [fX12_works, if_true, jn2, jn3]
    refine vlp3 (B := bX12_works_20 fun v1 v2 => itr4 (bX12_works_58 N rules lefts sizes rights fun v3 v4 v5 => bd4 (fX12_shortens N rules lefts sizes rights st lg tr tl) fun o6 o7 o8 o9 => some (1, v3, v4, v5, o6, o7, o8, o9)) N 1 0 v1 v2) (fun j i f w => i = nI j ∧ j ≤ 8 ∧ (∀ n, n < j → f n = 0) ∧ (∀ n, n < j → w n = if n = 0 then 256 else 0)) (fun r => ∃ f' w' st' lg' tr' tl' v, r = some (1, Es, f', w', st', lg', tr', tl') ∧ WK G Es Fs Ws Es f' w' st' lg' v) 8 ?_ ?_ N 0 f w (by omega) ⟨rfl, Nat.zero_le _, fun n hn => absurd hn (Nat.not_lt_zero _), fun n hn => absurd hn (Nat.not_lt_zero _)⟩
    · rintro j i f w hj ⟨rfl, _, h1, h2⟩
      left
      refine ⟨nI (j + 1), upd f j 0, upd w j (if j = 0 then 256 else 0), ⟨rfl, by omega, fun n hn => ?_, fun n hn => ?_⟩, fun rc => ?_⟩
      · by_cases e : n = j
        · subst e; exact pk_us
        · rw [pk_un e]; exact h1 n (by omega)
      · by_cases e : n = j
        · subst e; exact pk_us
        · rw [pk_un e]; exact h2 n (by omega)
      · simp only [bX12_works_20]
        rw [if_neg (nleL 8 8 hj), as_ok hj]
        simp only [obs, jn_, as_ok hj, lt_, nI_1]
        by_cases e : j = 0
        · rw [if_pos (by rw [e]; rfl), if_pos e]
        · rw [if_neg (nI_ne0 (by omega) (by omega)), if_neg e]
    · rintro i f w ⟨rfl, _, h1, h2⟩
      obtain ⟨f', w', e1, e2, e3⟩ := m_setsLoop hM hG hN hS f w h1 (by rw [h2 0 (by decide)]; rfl) (fun n h3 h4 => by rw [h2 n h4, if_neg (by omega)]) (fun v3 v4 v5 => bd4 (fX12_shortens N rules lefts sizes rights st lg tr tl) fun o6 o7 o8 o9 => some (1, v3, v4, v5, o6, o7, o8, o9))
      obtain ⟨st', lg', tr', tl', v, e4, e5, e6⟩ := m_shortens hM hG st lg tr tl hN
      refine ⟨_, ⟨f', w', st', lg', tr', tl', v, rfl, rfl, e2, e3, e5, e6⟩, fun rc => ?_⟩
      simp only [bX12_works_20]
      rw [if_pos (by decide), e1, e4]
      simp only [bd4, obs]
  · obtain ⟨rfl, h1, h2, h3, h4⟩ := hv
    refine ⟨f, w, st, lg, tr, tl, v, ?_, rfl, h1, h2, h3, h4⟩
    simp only [fX12_works]
    rw [if_neg (by decide)]
theorem tb_or (x y : Int32) {j : Nat} (hj : j < 31) : tb (x ||| y) j = (tb x j || tb y j) := by
  rw [tb_lsb _ _ hj, tb_lsb _ _ hj, tb_lsb _ _ hj]
  show (x.toBitVec ||| y.toBitVec).getLsbD j = _
  rw [BitVec.getLsbD_or]
theorem tb_0 : ∀ j, j < 31 → tb 0 j = false := by decide +kernel
def bsI (P : Nat → Bool) : Nat → Int32
  | 0 => 0
  | n + 1 => if P n = true then bsI P n ||| bitI n else bsI P n
theorem tb_bsI (P : Nat → Bool) : ∀ k, k ≤ 31 → ∀ j, j < 31 → tb (bsI P k) j = (decide (j < k) && P j)
  | 0, _, j, hj => by simp [bsI, tb_0 j hj]
  | k + 1, hk, j, hj => by
    have ih := tb_bsI P k (by omega) j hj
    simp only [bsI]
    by_cases e : j = k
    · subst e
      cases hp : P j with
      | true =>
        rw [if_pos rfl, tb_or _ _ hj, tb_bitI_dec j hj j hj]
        simp
      | false =>
        rw [if_neg (by simp), ih, hp]
        simp
    · have e2 : decide (j < k + 1) = decide (j < k) := by
        by_cases h : j < k
        · simp [h]; omega
        · simp [h]; omega
      rw [e2]
      cases hp : P k with
      | true =>
        rw [if_pos rfl, tb_or _ _ hj, ih, tb_bitI_dec k (by omega) j hj]
        have : (k == j) = false := by simp; omega
        rw [this, Bool.or_false]
      | false => rw [if_neg (by simp)]; exact ih
theorem clv_em {v : vW} : ∀ (w : List Nat), (∀ s ∈ w, (pwS v s).1 = some []) → clv v w = wEm
  | [], _ => rfl
  | s :: r, h => by
    have e1 : pwS v s = wEm := Subtype.ext (h s List.mem_cons_self)
    simp only [clv]
    rw [e1, catW_em_l, clv_em r (fun x hx => h x (List.mem_cons_of_mem _ hx))]
theorem ky_em : ky w0 wEm = 0 := rfl
theorem em_of_ky {x : wW} (h : ky w0 x = 0) : x.1 = some [] := by
  have : x = wEm := ky_inj w0_9 (by rw [h, ky_em])
  rw [this]; rfl
theorem plain_null {G : List gP} (hG : okG G) {E : Int32} {v : vW} (hE : clE G E) (hE2 : ∀ E', clE G E' → sb E E') (hv : PlainOK G v) {n : Nat} (hn : n < 8) : (v n).1 = some [] ↔ tb E n = true := by
  constructor
  · intro h
    refine Classical.byContradiction fun hno => ?_
    have hcl : clR w0 (RP G) (fun n => if tb E n = true then wEm else wT 0) := by
      rintro s ev ⟨p, hp, rfl, rfl⟩
      have hq := okG_gp hG hp
      have hc := hE p hp
      simp only
      by_cases hl : tb E (gp G p).1 = true
      · rw [if_pos hl, ky_em]; exact Nat.zero_le _
      · rw [if_neg hl]
        have hnv : ¬ van E (gp G p).2 = true := by
          intro hvan
          have h8 := hq.1
          exact hl ((sb_bitI_iff (by omega)).mp (hc hvan))
        have : ∀ (w : List Nat), (∀ s ∈ w, okS s) → ¬ van E w = true → ky w0 (wT 0) ≤ ky w0 (clv (fun n => if tb E n = true then wEm else wT 0) w) := by
          intro w
          induction w with
          | nil => intro _ h; exact absurd rfl h
          | cons s r ih =>
            intro hw h
            have hs := hw s List.mem_cons_self
            have h18 := okS_lt hs
            simp only [clv]
            have one : ∀ t, t < 8 → ∀ y : wW, ky w0 (wT 0) ≤ ky w0 (catW (wT t) y) := by
              intro t ht y
              have a1 : ky w0 (wT 0) ≤ ky w0 (wT t) := by
                rw [ky_le_iff, wT_val ht, wT_val (by decide)]
                simp [cN, vN, valN, wsum, w0]
              have a2 := cat_mono w0_9 a1 (show ky w0 wEm ≤ ky w0 y by rw [ky_em]; exact Nat.zero_le _)
              rw [catW_em_r] at a2
              exact a2
            by_cases hb : nb E s = true
            · have h10 : ¬ s < 10 := by intro e; simp [nb] at hb; omega
              have ht : tb E (s - 10) = true := by simp [nb] at hb; exact hb.2
              have e1 : pwS (fun n => if tb E n = true then wEm else wT 0) s = wEm := by
                unfold pwS; rw [if_neg h10]; simp only; rw [if_pos ht]
              rw [e1, catW_em_l]
              refine ih (fun x hx => hw x (List.mem_cons_of_mem _ hx)) fun hvr => h ?_
              unfold van at hvr ⊢
              rw [List.all_cons, hb, hvr]; rfl
            · by_cases h10 : s < 10
              · have e1 : pwS (fun n => if tb E n = true then wEm else wT 0) s = wT s := by unfold pwS; rw [if_pos h10]
                rw [e1]
                exact one s (by rcases hs with q | q <;> omega) _
              · have ht : ¬ tb E (s - 10) = true := by intro q; apply hb; simp [nb, q]; omega
                have e1 : pwS (fun n => if tb E n = true then wEm else wT 0) s = wT 0 := by
                  unfold pwS; rw [if_neg h10]; simp only; rw [if_neg ht]
                rw [e1]
                exact one 0 (by decide) _
        exact this _ hq.2.2 hnv
    have := hv.2 _ hcl n hn
    rw [if_neg hno] at this
    have e : v n = wEm := Subtype.ext h
    rw [e, ky_em] at this
    have e2 : ky w0 (wT 0) ≠ 0 := by
      intro q
      have := em_of_ky q
      rw [wT_val (by decide)] at this
      simp at this
    omega
  · intro h
    have hcl : clE G (bsI (fun n => decide ((v n).1 = some [])) 8) := by
      intro p hp hvan
      have hq := okG_gp hG hp
      have h8 := hq.1
      rw [sb_bitI_iff (by omega), tb_bsI _ 8 (by omega) _ (by omega)]
      have e1 : clv v (gp G p).2 = wEm := by
        refine clv_em _ fun s hs => ?_
        unfold van at hvan
        have := List.all_eq_true.mp hvan s hs
        have h18 := okS_lt (hq.2.2 s hs)
        simp only [nb, Bool.and_eq_true, decide_eq_true_eq] at this
        rw [tb_bsI _ 8 (by omega) _ (by omega)] at this
        simp only [Bool.and_eq_true, decide_eq_true_eq] at this
        unfold pwS
        rw [if_neg (by omega)]
        exact this.2.2
      have := hv.1 _ _ ⟨p, hp, rfl, rfl⟩
      rw [e1, ky_em] at this
      have := em_of_ky (Nat.le_zero.mp this)
      simp [h8, this]
    have := tb_mono (hE2 _ hcl) (show n < 31 by omega) h
    rw [tb_bsI _ 8 (by omega) _ (by omega)] at this
    simp at this
    exact this.2
theorem plain_empty {G : List gP} (hG : okG G) {E : Int32} {v : vW} (hE : clE G E) (hE2 : ∀ E', clE G E' → sb E E') (hv : PlainOK G v) {s : Nat} (hs : okS s) : decide ((pwS v s).1 = some []) = nb E s := by
  have h18 := okS_lt hs
  unfold pwS nb
  by_cases h : s < 10
  · rw [if_pos h, wT_val (by rcases hs with q | q <;> omega)]
    have : ¬ 10 ≤ s := by omega
    simp [this]
  · rw [if_neg h]
    have h10 : 10 ≤ s := by omega
    have := plain_null hG hE hE2 hv (show s - 10 < 8 by omega)
    simp only [h10, decide_true, Bool.true_and]
    cases ht : tb E (s - 10) with
    | true => simp [this.mpr ht]
    | false =>
      have : ¬ (v (s - 10)).1 = some [] := by rw [this, ht]; simp
      simp [this]
