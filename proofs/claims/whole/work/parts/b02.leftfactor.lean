/-! THE CALL leftFactor on both sides -/
theorem cps2 {A B R : Type} {Q : R → Prop} {X : R} {F : A → B → R} {P : A → B → Prop} (h : ∃ a b, X = F a b ∧ P a b) (h2 : ∀ a b, P a b → Q (F a b)) : Q X := by
  obtain ⟨a, b, e, p⟩ := h
  rw [e]
  exact h2 a b p
theorem cps4 {A B C D R : Type} {Q : R → Prop} {X : R} {F : A → B → C → D → R} {P : A → B → C → D → Prop} (h : ∃ a b c d, X = F a b c d ∧ P a b c d) (h2 : ∀ a b c d, P a b c d → Q (F a b c d)) : Q X := by
  obtain ⟨a, b, c, d, e, p⟩ := h
  rw [e]
  exact h2 a b c d p
theorem c_report {fc fd : Nat → Int32} {fl : Int32} (a b d : Int32) : ∃ fc' fd' fl', fX11_reportRewriting fc fd fl a b d = some (fc', fd', fl') ∧ FL [(15, a), (b, d)] fl' fc' fd' := by
  obtain ⟨l1, f1, d1, t1, r1⟩ := c_begin fl fc fd 15 a
  obtain ⟨l2, f2, d2, t2, r2⟩ := c_because r1 (by simp) b d
  refine ⟨f2, d2, l2, ?_, r2⟩
  simp only [fX11_reportRewriting, t1, bd3, obs, t2]
theorem m_refuses {lv : Int32} {mc md : Nat → Int32} (a b d r : Int32) : ∃ lv' mc' md', fX12_refuses lv mc md a b d r = some (r, lv', mc', md') ∧ FL [(15, a), (b, d)] lv' mc' md' := by
  obtain ⟨l1, f1, d1, t1, r1⟩ := m_tells0 lv mc md 15 a
  obtain ⟨l2, f2, d2, t2, r2⟩ := m_tells1 r1 b d
  refine ⟨l2, f2, d2, ?_, r2⟩
  simp only [fX12_refuses, t1, bd3, obs, t2]
theorem sy_app_m {w : List Nat} {M x i : Nat} (hM : M ≤ w.length) (h : i < (w.take M ++ [x]).length) : sy (w.take M ++ [x]) i = if i < M then sy w i else x := by
  rw [List.length_append, List.length_take, List.length_singleton] at h
  have hl : (w.take M).length = M := by rw [List.length_take]; omega
  by_cases e : i < M
  · rw [if_pos e, sy_app_l (by omega)]
    unfold sy
    rw [List.getD_eq_getElem?_getD, List.getD_eq_getElem?_getD, List.getElem?_take, if_pos e]
  · have : i = M := by omega
    subst this
    rw [if_neg e]
    have := sy_app_end (w.take i) x
    rw [hl] at this
    exact this
section KF
variable {codes : Nat → Int32} {count : Int32} {sc : Nat → Nat → Int32} {sn : Nat → Int32} {nw sz E : Int32} {F W : Nat → Int32} {E0 : Int32} {F0 W0 se ps lo : Nat → Int32} {cf : Int32} {fc fd : Nat → Int32} {fl : Int32} {c : Nat → Int32} {h l : Nat → Int64} {pk key rules : Int32} {lefts sizes rights : Nat → Int32} {ed : Int32} {pr pl pz pg : Nat → Int32} {lv : Int32} {mc md : Nat → Int32} {iw e : Int32} {f w : Nat → Int32} {ik ke : Int32} {kf kw st lg : Nat → Int32} {G : List gP} {hs : List (List gP)} {L : List (Int32 × Int32)}
theorem m_lfEdit (hM : RM rules lefts sizes rights G) (hG : okG G) {n lw fr M : Nat} (hn : n < 8) (hlw : lw < G.length) (eM : mxN (hA G n) G.length = M) (h0M : 0 < M) (elo : loL G n G.length = nI lw) (h0 : tP n M (gp G lw) (gp G lw) = true) (hb4 : ∀ p, p < lw → tP n M (gp G lw) (gp G p) = false) (hM4 : M ≤ 4) (hfr : freI G n = some fr) (h24 : G.length < 24) (mv mz tr tr' : Nat → Int32) (tl tl' : Int32) {ed' : Int32} {pr' pl' pz' pg' f' w' kf' kw' st' lg' : Nat → Int32} {N : Nat} (hN : 2000 < N) (me : fX12_edits N rules lefts sizes rights ed pr pl pz pg iw e f w ik ke kf kw st lg tr tl = some (ed', pr', pl', pz', pg', 0, E, f', w', 1, E, kf', kw', st', lg', tr', tl')) : ∃ r' l' s' g' mv' mz', fX12_leftFactor N rules lefts sizes rights ed pr pl pz pg lv mc md iw e f w ik ke kf kw st lg tr tl mv mz (nI n) = some (nI fr, r', l', s', g', ed', pr', pl', pz', pg', lv, mc, md, 0, E, f', w', 1, E, kf', kw', st', lg', tr', tl', mv', mz') ∧ RM r' l' s' g' (G.flatMap (rA n M fr (gp G lw)) ++ G.flatMap (rB n M fr (gp G lw))) := by
  have hl := hG.1
  obtain ⟨fr8, frn, frG⟩ := fre_free hG hn hfr
  have hq0 := okG_gp hG hlw
  obtain ⟨tn, tM, _⟩ := tP_pre h0 h0
  have hok := fac_ok hG h24 (gp_mem hlw) h0 hM4 hn fr8 frn frG
  obtain ⟨Q, hQ⟩ : ∃ Q : Option lfT → Prop, Q = fun r => ∃ r' l' s' g' mv' mz', r = some (nI fr, r', l', s', g', ed', pr', pl', pz', pg', lv, mc, md, 0, E, f', w', 1, E, kf', kw', st', lg', tr', tl', mv', mz') ∧ RM r' l' s' g' (G.flatMap (rA n M fr (gp G lw)) ++ G.flatMap (rB n M fr (gp G lw))) := ⟨_, rfl⟩
  have hfin : Q (fX12_leftFactor N rules lefts sizes rights ed pr pl pz pg lv mc md iw e f w ik ke kf kw st lg tr tl mv mz (nI n)) := by
    simp only [fX12_leftFactor, m_isName, inI_nI hn (show 8 < 2 ^ 31 by decide), obs, jn2, jn3, jn4]
    rw [if_neg (show ¬ b01 true = 0 by decide), m_lfOuter hM hG hn _ (show 30 < N by omega) (show 30 < N by omega), eM, elo, if_neg (nI_ne0 h0M (by omega)), m_unused hM hG n (show 30 < N by omega), hfr]
    simp only [obs, oI]
    have hr1 : rules + 1 = nI (G.length + 1) := by rw [hM.1, nI_1]
    have hr2 : rules - 1 = nI (G.length - 1) := by rw [hM.1, nI_sub1 (by omega)]
    rw [if_pos (show (0 : Int32) ≤ nI fr from nI_le (a := 0) (Nat.zero_le _) (by omega)), if_pos (show rules + 1 ≤ 24 by rw [hr1]; exact nI_le (b := 24) (by omega) (by decide)), me]
    simp only [bd17, obs, lt_, hr2]
    refine cps2 (m_lfMoved hM hG hn hlw h0 hb4 mv mz _ (show 30 < N by omega) (show 30 < N by omega)) (fun mv' mz' hV => ?_)
    refine cps4 (m_lfDrops hM hG hn hM4 hlw _ (show 30 < N by omega) (show 30 < N by omega)) (fun r1 l1 s1 g1 hR => ?_)
    have hD := okG_sub hG (dpL_sub (fun q => !tP n M (gp G lw) q) G (lw + 1))
    have hlD := dpL_len (G := G) (fun q => !tP n M (gp G lw) q) (show lw + 1 ≤ G.length by omega)
    have gD := dpL_gp (G := G) (fun q => !tP n M (gp G lw) q) (show lw < lw + 1 by omega) (by omega)
    have hputs := m_puts (sizes := upd s1 lw (nI M)) (rights := g1) (show lw < 24 by omega) (show M < 5 by omega) pk_us ((10 : Int32) + nI fr)
    rw [as_ok (show lw < 24 by omega), obs, hputs]
    simp only [bd2, obs]
    have hwl : ((gp G lw).2.take M ++ [10 + fr]).length = M + 1 := by rw [List.length_append, List.length_take, List.length_singleton]; omega
    have hS := RM_set hR hD (show lw < _ by omega) (w := (gp G lw).2.take M ++ [10 + fr]) (s' := upd (upd s1 lw (nI M)) lw (nI (M + 1))) (g' := upd g1 (5 * lw + M) ((10 : Int32) + nI fr)) (by rw [hwl]; omega) (by rw [hwl]; exact pk_us) (fun k hk => by rw [pk_un hk, pk_un hk]) (fun i hi => by
      rw [sy_app_m tM hi]
      rw [hwl] at hi
      by_cases e : i < M
      · rw [if_pos e, pk_un (by omega)]
        have := (hR.2 lw (by omega)).2.2 i (by rw [gD]; omega)
        rw [gD] at this
        exact this
      · have : i = M := by omega
        subst this
        rw [if_neg e, pk_us, n10, nI_add]) (fun x hx => by rw [pk_un (by omega)])
    rw [gD, tn, fac_A (fr := fr) hG hlw hb4] at hS
    have hB := fac_B (n := n) (M := M) (fr := fr) (q0 := gp G lw) G
    refine cps4 (m_lfNew hS (fr := fr) hV (by rw [hB]; exact hok) _ (show 30 < N by omega) (show 30 < N by omega)) (fun r2 l2 s2 g2 hR2 => ?_)
    rw [hB] at hR2
    rw [hQ]
    exact ⟨r2, l2, s2, g2, mv', mz', rfl, hR2⟩
  rw [hQ] at hfin
  exact hfin
theorem c_room (hc : RC codes count G) (hG : okG G) (fc fd : Nat → Int32) (fl : Int32) (n : Nat) (o : Option Nat) (ho : ∀ k, o = some k → k < 8) : ((o = none ∨ ¬ G.length < 24) ∧ ∃ fc' fd' fl', fX11_leavesNoRoom count fc fd fl (nI n) (oI o) = some (1, fc', fd', fl') ∧ FL (if o = none then [(15, nI n), (16, 0)] else [(15, nI n), (17, nI (G.length + 1))]) fl' fc' fd') ∨ (∃ k, o = some k ∧ G.length < 24 ∧ fX11_leavesNoRoom count fc fd fl (nI n) (oI o) = some (0, fc, fd, fl)) := by
  have hl := hG.1
  cases o with
  | none =>
    left
    obtain ⟨fc', fd', fl', t1, r1⟩ := c_report (fc := fc) (fd := fd) (fl := fl) (nI n) 16 0
    refine ⟨Or.inl rfl, fc', fd', fl', ?_, by rw [if_pos rfl]; exact r1⟩
    rw [show oI none = (-1 : Int32) from rfl]
    simp only [fX11_leavesNoRoom]
    rw [if_neg (show ¬ (0 : Int32) ≤ -1 by decide), t1]
    rfl
  | some k =>
    have hk := ho k rfl
    by_cases h : G.length < 24
    · right
      refine ⟨k, rfl, h, ?_⟩
      rw [show oI (some k) = nI k from rfl]
      simp only [fX11_leavesNoRoom]
      rw [if_pos (show (0 : Int32) ≤ nI k from nI_le (a := 0) (Nat.zero_le _) (by omega)), if_pos (show count < 24 by rw [hc.1]; exact ltL 24 24 h)]
    · left
      obtain ⟨fc', fd', fl', t1, r1⟩ := c_report (fc := fc) (fd := fd) (fl := fl) (nI n) 17 (nI (G.length + 1))
      refine ⟨Or.inr h, fc', fd', fl', ?_, by rw [if_neg (by simp)]; exact r1⟩
      rw [show oI (some k) = nI k from rfl]
      simp only [fX11_leavesNoRoom]
      rw [if_pos (show (0 : Int32) ≤ nI k from nI_le (a := 0) (Nat.zero_le _) (by omega)), if_neg (show ¬ count < 24 by rw [hc.1]; exact nltL 24 24 (by omega) (by omega)), show count + 1 = nI (G.length + 1) by rw [hc.1, nI_1], t1]
      rfl
theorem k_leftFactor (H : ER G hs L codes count sc sn nw sz E F W E0 F0 W0 se ps lo cf fc fd fl c h l pk key rules lefts sizes rights ed pr pl pz pg lv mc md iw e f w ik ke kf kw st lg) (tr : Nat → Int32) (tl : Int32) (mv mz : Nat → Int32) (x1 : Int32) {N : Nat} (hN : 2000 < N) : ∃ o o', fX11_leftFactor N codes count sc sn nw sz E F W E0 F0 W0 se ps lo cf fc fd fl pk key x1 = some o ∧ fX12_leftFactor N rules lefts sizes rights ed pr pl pz pg lv mc md iw e f w ik ke kf kw st lg tr tl mv mz x1 = some o' ∧ o.1 = o'.1 ∧ ∃ G' hs' L', ER G' hs' L' o.2.1 o.2.2.1 o.2.2.2.1 o.2.2.2.2.1 o.2.2.2.2.2.1 o.2.2.2.2.2.2.1 o.2.2.2.2.2.2.2.1 o.2.2.2.2.2.2.2.2.1 o.2.2.2.2.2.2.2.2.2.1 o.2.2.2.2.2.2.2.2.2.2.1 o.2.2.2.2.2.2.2.2.2.2.2.1 o.2.2.2.2.2.2.2.2.2.2.2.2.1 o.2.2.2.2.2.2.2.2.2.2.2.2.2.1 o.2.2.2.2.2.2.2.2.2.2.2.2.2.2.1 o.2.2.2.2.2.2.2.2.2.2.2.2.2.2.2.1 o.2.2.2.2.2.2.2.2.2.2.2.2.2.2.2.2.1 o.2.2.2.2.2.2.2.2.2.2.2.2.2.2.2.2.2.1 o.2.2.2.2.2.2.2.2.2.2.2.2.2.2.2.2.2.2.1 o.2.2.2.2.2.2.2.2.2.2.2.2.2.2.2.2.2.2.2.1 c h l o.2.2.2.2.2.2.2.2.2.2.2.2.2.2.2.2.2.2.2.2.1 o.2.2.2.2.2.2.2.2.2.2.2.2.2.2.2.2.2.2.2.2.2 o'.2.1 o'.2.2.1 o'.2.2.2.1 o'.2.2.2.2.1 o'.2.2.2.2.2.1 o'.2.2.2.2.2.2.1 o'.2.2.2.2.2.2.2.1 o'.2.2.2.2.2.2.2.2.1 o'.2.2.2.2.2.2.2.2.2.1 o'.2.2.2.2.2.2.2.2.2.2.1 o'.2.2.2.2.2.2.2.2.2.2.2.1 o'.2.2.2.2.2.2.2.2.2.2.2.2.1 o'.2.2.2.2.2.2.2.2.2.2.2.2.2.1 o'.2.2.2.2.2.2.2.2.2.2.2.2.2.2.1 o'.2.2.2.2.2.2.2.2.2.2.2.2.2.2.2.1 o'.2.2.2.2.2.2.2.2.2.2.2.2.2.2.2.2.1 o'.2.2.2.2.2.2.2.2.2.2.2.2.2.2.2.2.2.1 o'.2.2.2.2.2.2.2.2.2.2.2.2.2.2.2.2.2.2.1 o'.2.2.2.2.2.2.2.2.2.2.2.2.2.2.2.2.2.2.2.1 o'.2.2.2.2.2.2.2.2.2.2.2.2.2.2.2.2.2.2.2.2.1 o'.2.2.2.2.2.2.2.2.2.2.2.2.2.2.2.2.2.2.2.2.2.1 o'.2.2.2.2.2.2.2.2.2.2.2.2.2.2.2.2.2.2.2.2.2.2.1 := by
  obtain ⟨hc, hM, hG, hHC, hHM, hS, hT, hX, hF1, hF2, hw, hK⟩ := H
  have hl24 := hG.1
  rcases inI_tf x1 8 with hx | hx
  · obtain ⟨n, hn, rfl⟩ := inI_of (by decide) hx
    obtain ⟨M, hMd⟩ : ∃ M, M = mxN (shA G n) G.length := ⟨_, rfl⟩
    have hMh : mxN (hA G n) G.length = M := by rw [hMd]; exact mx_same n
    have hM4 : M ≤ 4 := by rw [← hMh]; exact mxN_le _ fun q hq => hA_le hG n hq
    have ec : fX6_longestCommonPrefix N codes count (nI n) = some (nI M) := by rw [hMd]; exact c_longest hc hG hn (show 30 < N by omega)
    by_cases h0M : M = 0
    · refine ⟨(-2, codes, count, sc, sn, nw, sz, E, F, W, E0, F0, W0, se, ps, lo, cf, fc, fd, fl, pk, key), (-2, rules, lefts, sizes, rights, ed, pr, pl, pz, pg, lv, mc, md, iw, e, f, w, ik, ke, kf, kw, st, lg, tr, tl, mv, mz), ?_, ?_, rfl, G, hs, L, hc, hM, hG, hHC, hHM, hS, hT, hX, hF1, hF2, hw, hK⟩
      · simp only [fX11_leftFactor, c_isNt, hx, obs]
        rw [if_neg (show ¬ b01 true = 0 by decide), ec, obs, h0M, if_pos (by rfl)]
      · simp only [fX12_leftFactor, m_isName, hx, obs, jn2]
        rw [if_neg (show ¬ b01 true = 0 by decide), m_lfOuter hM hG hn _ (show 30 < N by omega) (show 30 < N by omega), hMh, h0M, if_pos (by rfl)]
    · have h0M' : 0 < M := by omega
      obtain ⟨lw, hlw, elo, l1, l2⟩ := loL_ex G n G.length (by rw [hMh]; exact h0M')
      rw [hMh] at l1 l2
      obtain ⟨s1, s2⟩ := lead_same hlw (by rw [← hMd]; exact h0M') (by rw [l1, hMd]) (fun p hp => by rw [← hMd]; exact l2 p hp)
      rw [← hMd] at s1 s2
      obtain ⟨q, hq, eq1⟩ := mxN_ex (f := gC G n lw) G.length (show 0 < hA G n lw by rw [l1]; exact h0M')
      have eq2 : gC G n lw q = M := by rw [← l1]; exact eq1
      have hcond : (lw ≠ q ∧ (gp G lw).1 = n ∧ (gp G q).1 = n) ∧ cmn (gp G lw).2 (gp G q).2 = M := by
        unfold gC at eq2
        split at eq2
        · rename_i h; exact ⟨h, eq2⟩
        · omega
      have h0 : tP n M (gp G lw) (gp G lw) = true := by
        have := (cmn_le (gp G lw).2 (gp G q).2).1
        unfold tP
        rw [cmn_self]
        simp [hcond.1.2.1]
        omega
      have hb4 : ∀ p, p < lw → tP n M (gp G lw) (gp G p) = false := fun p hp => by
        cases ht : tP n M (gp G lw) (gp G p) with
        | false => rfl
        | true =>
          exfalso
          unfold tP at ht
          rw [Bool.and_eq_true, beq_iff_eq, decide_eq_true_eq] at ht
          refine l2 p hp (Nat.le_antisymm (by rw [← hMh]; exact le_mxN (hA G n) _ p (by omega)) ?_)
          refine Nat.le_trans ?_ (le_mxN (gC G n p) _ lw hlw)
          unfold gC
          rw [if_pos ⟨by omega, ht.1, hcond.1.2.1⟩]
          exact ht.2
      have eu := c_unused hc hG n (show 30 < N by omega)
      have mu := m_unused hM hG n (show 30 < N by omega)
      rcases c_room hc hG fc fd fl n (freI G n) (fun k hk => (fre_free hG hn hk).1) with ⟨hno, fc', fd', fl', t1, r1⟩ | ⟨fr, hfr, h24, t1⟩
      · have hm : ∃ lv' mc' md', fX12_leftFactor N rules lefts sizes rights ed pr pl pz pg lv mc md iw e f w ik ke kf kw st lg tr tl mv mz (nI n) = some (-3, rules, lefts, sizes, rights, ed, pr, pl, pz, pg, lv', mc', md', iw, e, f, w, ik, ke, kf, kw, st, lg, tr, tl, mv, mz) ∧ FL (if freI G n = none then [(15, nI n), (16, 0)] else [(15, nI n), (17, nI (G.length + 1))]) lv' mc' md' := by
          simp only [fX12_leftFactor, m_isName, hx, obs, jn2]
          rw [if_neg (show ¬ b01 true = 0 by decide), m_lfOuter hM hG hn _ (show 30 < N by omega) (show 30 < N by omega), hMh, if_neg (nI_ne0 h0M' (by omega)), mu]
          cases hfr : freI G n with
          | none =>
            obtain ⟨lv', mc', md', t2, r2⟩ := m_refuses (lv := lv) (mc := mc) (md := md) (nI n) 16 0 (-3)
            refine ⟨lv', mc', md', ?_, by rw [if_pos rfl]; exact r2⟩
            simp only [obs, oI]
            rw [if_neg (show ¬ (0 : Int32) ≤ -1 by decide), t2]
            rfl
          | some k =>
            have hk := (fre_free hG hn hfr).1
            have h24 : ¬ G.length < 24 := by
              rcases hno with h | h
              · rw [hfr] at h; exact absurd h (by simp)
              · exact h
            have hr1 : rules + 1 = nI (G.length + 1) := by rw [hM.1, nI_1]
            obtain ⟨lv', mc', md', t2, r2⟩ := m_refuses (lv := lv) (mc := mc) (md := md) (nI n) 17 (nI (G.length + 1)) (-3)
            refine ⟨lv', mc', md', ?_, by rw [if_neg (by simp)]; exact r2⟩
            simp only [obs, oI]
            rw [if_pos (show (0 : Int32) ≤ nI k from nI_le (a := 0) (Nat.zero_le _) (by omega)), hr1, if_neg (show ¬ nI (G.length + 1) ≤ 24 from nI_ge (show 24 < G.length + 1 by omega) (by omega)), t2]
            rfl
        obtain ⟨lv', mc', md', t2, r2⟩ := hm
        refine ⟨(-3, codes, count, sc, sn, nw, sz, E, F, W, E0, F0, W0, se, ps, lo, cf, fc', fd', fl', pk, key), (-3, rules, lefts, sizes, rights, ed, pr, pl, pz, pg, lv', mc', md', iw, e, f, w, ik, ke, kf, kw, st, lg, tr, tl, mv, mz), ?_, t2, rfl, G, hs, _, hc, hM, hG, hHC, hHM, hS, hT, hX, r1, r2, hw, hK⟩
        simp only [fX11_leftFactor, c_isNt, hx, obs]
        rw [if_neg (show ¬ b01 true = 0 by decide), ec, obs, if_neg (nI_ne0 h0M' (by omega)), eu, obs, t1]
        simp only [bd4, obs]
        rw [if_neg (by decide)]
      · obtain ⟨fr8, frn, frG⟩ := fre_free hG hn hfr
        have hG' := fac_ok hG h24 (gp_mem hlw) h0 hM4 hn fr8 frn frG
        obtain ⟨j, sc', sn', nw', sz', k1, k2, b1, b2, b3, b4, b5, b6⟩ := c_beginEdit hHC hc hG E F W E0 F0 W0
        obtain ⟨codes', count', b7, b8⟩ := c_factor b4 hG hn hlw s1 s2 h0 hM4 fr8 h24 codes count (show 30 < N by omega)
        obtain ⟨E', F', W', se', ps', lo', cf', b9, b10, b11⟩ := c_endChange b8 hG' E F W se ps lo cf pk key hN
        obtain ⟨ed', pr', pl', pz', pg', f', w', kf', kw', st', lg', tr', tl', m1, m2, m3, m4⟩ := m_edits hM hG hS tr tl hw hHM ik ke kf kw hN
        obtain ⟨r', l', s', g', mv', mz', m5, m6⟩ := m_lfEdit (lv := lv) (mc := mc) (md := md) hM hG hn hlw hMh h0M' elo h0 hb4 hM4 hfr h24 mv mz tr tr' tl tl' hN m1
        refine ⟨(nI fr, codes', count', sc', sn', nw', sz', E', F', W', E, k1, k2, se', ps', lo', cf', fc, fd, fl, 0, -1), (nI fr, r', l', s', g', ed', pr', pl', pz', pg', lv, mc, md, 0, E, f', w', 1, E, kf', kw', st', lg', tr', tl', mv', mz'), ?_, m5, rfl, _, (G :: hs).take 10, L, b8, m6, hG', b2, m2, b10, b11, Or.inl ⟨rfl, rfl, ExI_ws hX⟩, hF1, hF2, Or.inl rfl, Or.inl ⟨rfl, rfl, fun n hn => ⟨by show kf' n = k1 n; rw [m3 n hn, b5 n hn], by show kw' n = k2 n; rw [m4 n hn, b6 n hn]⟩⟩⟩
        simp only [fX11_leftFactor, c_isNt, hx, obs]
        rw [if_neg (show ¬ b01 true = 0 by decide), ec, obs, if_neg (nI_ne0 h0M' (by omega)), eu, obs, t1, hfr]
        simp only [bd4, obs, oI, b1, bd8, jc10]
        rw [if_pos trivial, if_pos b3]
        simp only [b7, bd2, obs, b9, bd9]
  · refine ⟨(-1, codes, count, sc, sn, nw, sz, E, F, W, E0, F0, W0, se, ps, lo, cf, fc, fd, fl, pk, key), (-1, rules, lefts, sizes, rights, ed, pr, pl, pz, pg, lv, mc, md, iw, e, f, w, ik, ke, kf, kw, st, lg, tr, tl, mv, mz), ?_, ?_, rfl, G, hs, L, hc, hM, hG, hHC, hHM, hS, hT, hX, hF1, hF2, hw, hK⟩
    · simp only [fX11_leftFactor, c_isNt, hx, obs]
      rw [if_pos (by rfl)]
    · simp only [fX12_leftFactor, m_isName, hx, obs]
      rw [if_pos (by rfl)]
end KF
