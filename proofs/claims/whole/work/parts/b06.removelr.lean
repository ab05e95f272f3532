/-! THE CALL removeLeftRecursion on both sides -/
section KT
variable {codes : Nat → Int32} {count : Int32} {sc : Nat → Nat → Int32} {sn : Nat → Int32} {nw sz E : Int32} {F W : Nat → Int32} {E0 : Int32} {F0 W0 se ps lo : Nat → Int32} {cf : Int32} {fc fd : Nat → Int32} {fl : Int32} {c : Nat → Int32} {h l : Nat → Int64} {pk key rules : Int32} {lefts sizes rights : Nat → Int32} {ed : Int32} {pr pl pz pg : Nat → Int32} {lv : Int32} {mc md : Nat → Int32} {iw e : Int32} {f w : Nat → Int32} {ik ke : Int32} {kf kw st lg : Nat → Int32} {G : List gP} {hs : List (List gP)} {L : List (Int32 × Int32)}
theorem filP_none {n : Nat} (h : fstI (filP G n) G.length = none) : ∀ p, p < G.length → filP G n p = false := fun p hp => by
  unfold fstI at h
  have := List.find?_eq_none.mp h p (by simpa using hp)
  simpa using this
theorem fMr_get {n : Nat} (hG : okG G) : ∀ k, k < (G.flatMap (fMr n)).length → ((G.flatMap (fMr n)).getD k []).length ≤ 4 := by
  intro k hk
  have hm : (G.flatMap (fMr n)).getD k [] ∈ G.flatMap (fMr n) := by
    rw [List.getD_eq_getElem?_getD, List.getElem?_eq_getElem hk]
    exact List.getElem_mem hk
  generalize (G.flatMap (fMr n)).getD k [] = x at *
  obtain ⟨a, ha, hx⟩ := List.mem_flatMap.mp hm
  unfold fMr at hx
  have h5 := (hG.2.1 a ha).2.1
  split at hx
  · rw [List.mem_singleton] at hx
    rw [hx, List.length_drop]; omega
  · exact absurd hx (by simp)
theorem m_rlEdit (hM : RM rules lefts sizes rights G) (hG : okG G) {n fr : Nat} (hn : n < 8) (h0R : pcR (fun p => (gp G p).1 == n && recP (gp G p)) G.length ≠ 0) (hRO : pcR (fun p => (gp G p).1 == n && recP (gp G p)) G.length ≠ pcR (fun p => (gp G p).1 == n) G.length) (hal : fstI (aloP G n) G.length = none) (hfi : fstI (filP G n) G.length = none) (hfr : freI G n = some fr) (h24 : G.length < 24) (mv mz tr tr' : Nat → Int32) (tl tl' : Int32) {ed' : Int32} {pr' pl' pz' pg' f' w' kf' kw' st' lg' : Nat → Int32} {N : Nat} (hN : 2000 < N) (me : fX12_edits N rules lefts sizes rights ed pr pl pz pg iw e f w ik ke kf kw st lg tr tl = some (ed', pr', pl', pz', pg', 0, E, f', w', 1, E, kf', kw', st', lg', tr', tl')) : ∃ r' l' s' g' mv' mz', fX12_removeLeftRecursion N rules lefts sizes rights ed pr pl pz pg lv mc md iw e f w ik ke kf kw st lg tr tl mv mz (nI n) = some (nI fr, r', l', s', g', ed', pr', pl', pz', pg', lv, mc, md, 0, E, f', w', 1, E, kf', kw', st', lg', tr', tl', mv', mz') ∧ RM r' l' s' g' ((G.flatMap (tA n fr) ++ G.flatMap (tB n fr)) ++ [(fr, [])]) := by
  have hl := hG.1
  obtain ⟨fr8, frn, frG⟩ := fre_free hG hn hfr
  have hfil := filP_none hfi
  have hU := uP_ok (fr := fr) hG hn fr8 hfil frG
  have hok := turn_ok (fr := fr) hG h24 hn fr8 frn hfil frG
  have hpos : 0 < G.length := by
    by_cases h : G.length = 0
    · exfalso
      apply h0R
      rw [h]
      rfl
    · omega
  have hle1 := pcR_le (fun p => (gp G p).1 == n && recP (gp G p)) G.length
  have hle2 := pcR_le (fun p => (gp G p).1 == n) G.length
  obtain ⟨Q, hQ⟩ : ∃ Q : Option lfT → Prop, Q = fun r => ∃ r' l' s' g' mv' mz', r = some (nI fr, r', l', s', g', ed', pr', pl', pz', pg', lv, mc, md, 0, E, f', w', 1, E, kf', kw', st', lg', tr', tl', mv', mz') ∧ RM r' l' s' g' ((G.flatMap (tA n fr) ++ G.flatMap (tB n fr)) ++ [(fr, [])]) := ⟨_, rfl⟩
  have hfin : Q (fX12_removeLeftRecursion N rules lefts sizes rights ed pr pl pz pg lv mc md iw e f w ik ke kf kw st lg tr tl mv mz (nI n)) := by
    simp only [fX12_removeLeftRecursion, m_isName, inI_nI hn (show 8 < 2 ^ 31 by decide), obs, jn4, jn5]
    rw [if_neg (show ¬ b01 true = 0 by decide), m_rlScan hM hG hn _ (show 30 < N by omega), if_neg (nI_ne0 (by omega) (by omega)), hal, if_pos (show oI none < (0 : Int32) by decide), if_neg (by rw [nI_eq (by omega) (by omega)]; exact hRO), hfi, if_pos (show oI none < (0 : Int32) by decide), m_unused hM hG n (show 30 < N by omega), hfr]
    simp only [obs, oI]
    have hr1 : rules + 1 = nI (G.length + 1) := by rw [hM.1, nI_1]
    have hr2 : rules - 1 = nI (G.length - 1) := by rw [hM.1, nI_sub1 (by omega)]
    rw [if_pos (show (0 : Int32) ≤ nI fr from nI_le (a := 0) (Nat.zero_le _) (by omega)), if_pos (show rules + 1 ≤ 24 by rw [hr1]; exact nI_le (b := 24) (by omega) (by decide)), me]
    simp only [bd17, obs, lt_, hr2]
    refine cps4 (m_rlRows hM hG (fr := fr) hn hU mv mz _ (show 30 < N by omega) (show 30 < N by omega)) (fun s1 g1 mv' mz' hRV => ?_)
    obtain ⟨hR1, hV⟩ := hRV
    have hdr := fun K => m_rlDrops hR1 hU hn (by rw [List.length_map]; exact hpos) K (show 30 < N by omega) (show 30 < N by omega)
    rw [List.length_map, turn_A frn] at hdr
    refine cps4 (hdr _) (fun r2 l2 s2 g2 hR2 => ?_)
    have hB := turn_B (n := n) (fr := fr) G
    have hokAB : okG (G.flatMap (tA n fr) ++ G.flatMap (tB n fr)) := okG_sub hok (List.sublist_append_left _ _)
    refine cps4 (m_rlNew hR2 (fr := fr) hV (fMr_get hG) (by rw [hB]; exact hokAB) _ (show 30 < N by omega) (show 30 < N by omega)) (fun r3 l3 s3 g3 hR3 => ?_)
    rw [hB] at hR3
    have hlenAB : (G.flatMap (tA n fr) ++ G.flatMap (tB n fr)).length < 24 := by
      have := tAB_len n fr G
      rw [List.length_append]; omega
    rw [m_opens hR3 (l := fr) hlenAB]
    simp only [bd4, obs]
    have hR4 := RM_app (l := fr) (w := []) (s' := upd s3 (G.flatMap (tA n fr) ++ G.flatMap (tB n fr)).length 0) (g' := g3) hR3 hokAB pk_us (fun k hk => by rw [pk_un hk]) (fun i hi => absurd hi (Nat.not_lt_zero _)) (fun x hx => rfl)
    rw [hQ]
    exact ⟨_, _, _, _, mv', mz', rfl, hR4⟩
  rw [hQ] at hfin
  exact hfin
theorem k_removeLR (H : ER G hs L codes count sc sn nw sz E F W E0 F0 W0 se ps lo cf fc fd fl c h l pk key rules lefts sizes rights ed pr pl pz pg lv mc md iw e f w ik ke kf kw st lg) (tr : Nat → Int32) (tl : Int32) (mv mz : Nat → Int32) (x1 : Int32) {N : Nat} (hN : 2000 < N) : ∃ o o', fX11_removeLeftRecursion N codes count sc sn nw sz E F W E0 F0 W0 se ps lo cf fc fd fl pk key x1 = some o ∧ fX12_removeLeftRecursion N rules lefts sizes rights ed pr pl pz pg lv mc md iw e f w ik ke kf kw st lg tr tl mv mz x1 = some o' ∧ o.1 = o'.1 ∧ ∃ G' hs' L', ER G' hs' L' o.2.1 o.2.2.1 o.2.2.2.1 o.2.2.2.2.1 o.2.2.2.2.2.1 o.2.2.2.2.2.2.1 o.2.2.2.2.2.2.2.1 o.2.2.2.2.2.2.2.2.1 o.2.2.2.2.2.2.2.2.2.1 o.2.2.2.2.2.2.2.2.2.2.1 o.2.2.2.2.2.2.2.2.2.2.2.1 o.2.2.2.2.2.2.2.2.2.2.2.2.1 o.2.2.2.2.2.2.2.2.2.2.2.2.2.1 o.2.2.2.2.2.2.2.2.2.2.2.2.2.2.1 o.2.2.2.2.2.2.2.2.2.2.2.2.2.2.2.1 o.2.2.2.2.2.2.2.2.2.2.2.2.2.2.2.2.1 o.2.2.2.2.2.2.2.2.2.2.2.2.2.2.2.2.2.1 o.2.2.2.2.2.2.2.2.2.2.2.2.2.2.2.2.2.2.1 o.2.2.2.2.2.2.2.2.2.2.2.2.2.2.2.2.2.2.2.1 c h l o.2.2.2.2.2.2.2.2.2.2.2.2.2.2.2.2.2.2.2.2.1 o.2.2.2.2.2.2.2.2.2.2.2.2.2.2.2.2.2.2.2.2.2 o'.2.1 o'.2.2.1 o'.2.2.2.1 o'.2.2.2.2.1 o'.2.2.2.2.2.1 o'.2.2.2.2.2.2.1 o'.2.2.2.2.2.2.2.1 o'.2.2.2.2.2.2.2.2.1 o'.2.2.2.2.2.2.2.2.2.1 o'.2.2.2.2.2.2.2.2.2.2.1 o'.2.2.2.2.2.2.2.2.2.2.2.1 o'.2.2.2.2.2.2.2.2.2.2.2.2.1 o'.2.2.2.2.2.2.2.2.2.2.2.2.2.1 o'.2.2.2.2.2.2.2.2.2.2.2.2.2.2.1 o'.2.2.2.2.2.2.2.2.2.2.2.2.2.2.2.1 o'.2.2.2.2.2.2.2.2.2.2.2.2.2.2.2.2.1 o'.2.2.2.2.2.2.2.2.2.2.2.2.2.2.2.2.2.1 o'.2.2.2.2.2.2.2.2.2.2.2.2.2.2.2.2.2.2.1 o'.2.2.2.2.2.2.2.2.2.2.2.2.2.2.2.2.2.2.2.1 o'.2.2.2.2.2.2.2.2.2.2.2.2.2.2.2.2.2.2.2.2.1 o'.2.2.2.2.2.2.2.2.2.2.2.2.2.2.2.2.2.2.2.2.2.1 o'.2.2.2.2.2.2.2.2.2.2.2.2.2.2.2.2.2.2.2.2.2.2.1 := by
  obtain ⟨hc, hM, hG, hHC, hHM, hS, hT, hX, hF1, hF2, hw, hK⟩ := H
  have hl24 := hG.1
  rcases inI_tf x1 8 with hx | hx
  · obtain ⟨n, hn, rfl⟩ := inI_of (by decide) hx
    have hle1 := pcR_le (fun p => (gp G p).1 == n && recP (gp G p)) G.length
    have hle2 := pcR_le (fun p => (gp G p).1 == n) G.length
    have er := c_recOf hc hG hn (show 30 < N by omega)
    have ep := c_prodOf hc hG hn (show 30 < N by omega)
    have ef := c_filled hc hG hn (show 30 < N by omega)
    have hqa : okP (n, [10 + n]) := ⟨hn, by show [10 + n].length ≤ 5; simp, fun s hs => by rw [List.mem_singleton.mp hs]; exact Or.inr ⟨by omega, by omega⟩⟩
    have ea : fX6_find N codes count (nI (enc (n, [10 + n]))) = some (oI (fstI (aloP G n) G.length)) := c_find hc hG hqa (show 24 < N by omega)
    have eext : fX6_extended (nI n) ((10 : Int32) + nI n) = some (nI (enc (n, [10 + n]))) := by
      rw [n10, nI_add]
      exact c_extended (l := n) (w := []) (s := 10 + n) ⟨hn, Nat.zero_le _, fun s hs => absurd hs (by simp)⟩ (by simp) (Or.inr ⟨by omega, by omega⟩)
    have eh : fX11_hindersRemoval N codes count fc fd fl (nI n) = if oI (fstI (aloP G n) G.length) < 0 then (if nI (pcR (fun p => (gp G p).1 == n && recP (gp G p)) G.length) = nI (pcR (fun p => (gp G p).1 == n) G.length) then (bd3 (fX11_reportRewriting fc fd fl (nI n) 19 (nI (pcR (fun p => (gp G p).1 == n) G.length))) fun o10 o11 o12 => some (1, o10, o11, o12)) else (if oI (fstI (filP G n) G.length) < 0 then some (0, fc, fd, fl) else (bd3 (fX11_reportRewriting fc fd fl (nI n) 20 (oI (fstI (filP G n) G.length))) fun o7 o8 o9 => some (1, o7, o8, o9)))) else (bd3 (fX11_reportRewriting fc fd fl (nI n) 18 (oI (fstI (aloP G n) G.length))) fun o13 o14 o15 => some (1, o13, o14, o15)) := by
      simp only [fX11_hindersRemoval, fX6_emptyOf, obs, eext, ea, ep, er, ef]
    have ms := fun K => m_rlScan hM hG hn K (show 30 < N by omega)
    by_cases h0R : pcR (fun p => (gp G p).1 == n && recP (gp G p)) G.length = 0
    · refine ⟨(-2, codes, count, sc, sn, nw, sz, E, F, W, E0, F0, W0, se, ps, lo, cf, fc, fd, fl, pk, key), (-2, rules, lefts, sizes, rights, ed, pr, pl, pz, pg, lv, mc, md, iw, e, f, w, ik, ke, kf, kw, st, lg, tr, tl, mv, mz), ?_, ?_, rfl, G, hs, L, hc, hM, hG, hHC, hHM, hS, hT, hX, hF1, hF2, hw, hK⟩
      · simp only [fX11_removeLeftRecursion, c_isNt, hx, obs]
        rw [if_neg (show ¬ b01 true = 0 by decide), er, obs, h0R, if_pos (by rfl)]
      · simp only [fX12_removeLeftRecursion, m_isName, hx, obs, jn4]
        rw [if_neg (show ¬ b01 true = 0 by decide), ms, h0R, if_pos (by rfl)]
    · have hR0 : ¬ nI (pcR (fun p => (gp G p).1 == n && recP (gp G p)) G.length) = 0 := nI_ne0 (by omega) (by omega)
      have refuse : ∀ (d k : Int32), (∃ lv' mc' md', fX12_removeLeftRecursion N rules lefts sizes rights ed pr pl pz pg lv mc md iw e f w ik ke kf kw st lg tr tl mv mz (nI n) = some (-5, rules, lefts, sizes, rights, ed, pr, pl, pz, pg, lv', mc', md', iw, e, f, w, ik, ke, kf, kw, st, lg, tr, tl, mv, mz) ∧ FL [(15, nI n), (d, k)] lv' mc' md') → (fX11_hindersRemoval N codes count fc fd fl (nI n) = bd3 (fX11_reportRewriting fc fd fl (nI n) d k) fun a b c => some (1, a, b, c)) → ∃ o o', fX11_removeLeftRecursion N codes count sc sn nw sz E F W E0 F0 W0 se ps lo cf fc fd fl pk key (nI n) = some o ∧ fX12_removeLeftRecursion N rules lefts sizes rights ed pr pl pz pg lv mc md iw e f w ik ke kf kw st lg tr tl mv mz (nI n) = some o' ∧ o.1 = o'.1 ∧ ∃ G' hs' L', ER G' hs' L' o.2.1 o.2.2.1 o.2.2.2.1 o.2.2.2.2.1 o.2.2.2.2.2.1 o.2.2.2.2.2.2.1 o.2.2.2.2.2.2.2.1 o.2.2.2.2.2.2.2.2.1 o.2.2.2.2.2.2.2.2.2.1 o.2.2.2.2.2.2.2.2.2.2.1 o.2.2.2.2.2.2.2.2.2.2.2.1 o.2.2.2.2.2.2.2.2.2.2.2.2.1 o.2.2.2.2.2.2.2.2.2.2.2.2.2.1 o.2.2.2.2.2.2.2.2.2.2.2.2.2.2.1 o.2.2.2.2.2.2.2.2.2.2.2.2.2.2.2.1 o.2.2.2.2.2.2.2.2.2.2.2.2.2.2.2.2.1 o.2.2.2.2.2.2.2.2.2.2.2.2.2.2.2.2.2.1 o.2.2.2.2.2.2.2.2.2.2.2.2.2.2.2.2.2.2.1 o.2.2.2.2.2.2.2.2.2.2.2.2.2.2.2.2.2.2.2.1 c h l o.2.2.2.2.2.2.2.2.2.2.2.2.2.2.2.2.2.2.2.2.1 o.2.2.2.2.2.2.2.2.2.2.2.2.2.2.2.2.2.2.2.2.2 o'.2.1 o'.2.2.1 o'.2.2.2.1 o'.2.2.2.2.1 o'.2.2.2.2.2.1 o'.2.2.2.2.2.2.1 o'.2.2.2.2.2.2.2.1 o'.2.2.2.2.2.2.2.2.1 o'.2.2.2.2.2.2.2.2.2.1 o'.2.2.2.2.2.2.2.2.2.2.1 o'.2.2.2.2.2.2.2.2.2.2.2.1 o'.2.2.2.2.2.2.2.2.2.2.2.2.1 o'.2.2.2.2.2.2.2.2.2.2.2.2.2.1 o'.2.2.2.2.2.2.2.2.2.2.2.2.2.2.1 o'.2.2.2.2.2.2.2.2.2.2.2.2.2.2.2.1 o'.2.2.2.2.2.2.2.2.2.2.2.2.2.2.2.2.1 o'.2.2.2.2.2.2.2.2.2.2.2.2.2.2.2.2.2.1 o'.2.2.2.2.2.2.2.2.2.2.2.2.2.2.2.2.2.2.1 o'.2.2.2.2.2.2.2.2.2.2.2.2.2.2.2.2.2.2.2.1 o'.2.2.2.2.2.2.2.2.2.2.2.2.2.2.2.2.2.2.2.2.1 o'.2.2.2.2.2.2.2.2.2.2.2.2.2.2.2.2.2.2.2.2.2.1 o'.2.2.2.2.2.2.2.2.2.2.2.2.2.2.2.2.2.2.2.2.2.2.1 := by
        rintro d k ⟨lv', mc', md', t2, r2⟩ hh
        obtain ⟨fc', fd', fl', t1, r1⟩ := c_report (fc := fc) (fd := fd) (fl := fl) (nI n) d k
        refine ⟨(-5, codes, count, sc, sn, nw, sz, E, F, W, E0, F0, W0, se, ps, lo, cf, fc', fd', fl', pk, key), (-5, rules, lefts, sizes, rights, ed, pr, pl, pz, pg, lv', mc', md', iw, e, f, w, ik, ke, kf, kw, st, lg, tr, tl, mv, mz), ?_, t2, rfl, G, hs, _, hc, hM, hG, hHC, hHM, hS, hT, hX, r1, r2, hw, hK⟩
        simp only [fX11_removeLeftRecursion, c_isNt, hx, obs]
        rw [if_neg (show ¬ b01 true = 0 by decide), er, obs, if_neg hR0, hh, t1]
        simp only [bd3, bd4, obs]
        rw [if_neg (by decide)]
      cases hal : fstI (aloP G n) G.length with
      | some a =>
        have ha := (fstI_lt hal).1
        have hneg : ¬ oI (some a) < (0 : Int32) := nI_pos (by omega)
        refine refuse 18 (nI a) ?_ (by rw [eh, hal, if_neg hneg]; rfl)
        obtain ⟨lv', mc', md', t2, r2⟩ := m_refuses (lv := lv) (mc := mc) (md := md) (nI n) 18 (nI a) (-5)
        refine ⟨lv', mc', md', ?_, r2⟩
        simp only [fX12_removeLeftRecursion, m_isName, hx, obs, jn4]
        rw [if_neg (show ¬ b01 true = 0 by decide), ms, if_neg hR0, hal, if_neg hneg, show oI (some a) = nI a from rfl, t2]
        rfl
      | none =>
        have hneg : oI none < (0 : Int32) := by decide
        by_cases hRO : pcR (fun p => (gp G p).1 == n && recP (gp G p)) G.length = pcR (fun p => (gp G p).1 == n) G.length
        · refine refuse 19 (nI (pcR (fun p => (gp G p).1 == n) G.length)) ?_ (by rw [eh, hal, if_pos hneg, if_pos (by rw [hRO])])
          obtain ⟨lv', mc', md', t2, r2⟩ := m_refuses (lv := lv) (mc := mc) (md := md) (nI n) 19 (nI (pcR (fun p => (gp G p).1 == n) G.length)) (-5)
          refine ⟨lv', mc', md', ?_, r2⟩
          simp only [fX12_removeLeftRecursion, m_isName, hx, obs, jn4]
          rw [if_neg (show ¬ b01 true = 0 by decide), ms, if_neg hR0, hal, if_pos hneg, if_pos (by rw [hRO]), t2]
          rfl
        · have hRO' : ¬ nI (pcR (fun p => (gp G p).1 == n && recP (gp G p)) G.length) = nI (pcR (fun p => (gp G p).1 == n) G.length) := by rw [nI_eq (by omega) (by omega)]; exact hRO
          cases hfi : fstI (filP G n) G.length with
          | some a =>
            have ha := (fstI_lt hfi).1
            have hneg2 : ¬ oI (some a) < (0 : Int32) := nI_pos (by omega)
            refine refuse 20 (nI a) ?_ (by rw [eh, hal, if_pos hneg, if_neg hRO', hfi, if_neg hneg2]; rfl)
            obtain ⟨lv', mc', md', t2, r2⟩ := m_refuses (lv := lv) (mc := mc) (md := md) (nI n) 20 (nI a) (-5)
            refine ⟨lv', mc', md', ?_, r2⟩
            simp only [fX12_removeLeftRecursion, m_isName, hx, obs, jn4]
            rw [if_neg (show ¬ b01 true = 0 by decide), ms, if_neg hR0, hal, if_pos hneg, if_neg hRO', hfi, if_neg hneg2, show oI (some a) = nI a from rfl, t2]
            rfl
          | none =>
            have hh : fX11_hindersRemoval N codes count fc fd fl (nI n) = some (0, fc, fd, fl) := by rw [eh, hal, if_pos hneg, if_neg hRO', hfi, if_pos hneg]
            have hfil := filP_none hfi
            have eu := c_unused hc hG n (show 30 < N by omega)
            have mu := m_unused hM hG n (show 30 < N by omega)
            rcases c_room hc hG fc fd fl n (freI G n) (fun k hk => (fre_free hG hn hk).1) with ⟨hno, fc', fd', fl', t1, r1⟩ | ⟨fr, hfr, h24, t1⟩
            · have hm : ∃ lv' mc' md', fX12_removeLeftRecursion N rules lefts sizes rights ed pr pl pz pg lv mc md iw e f w ik ke kf kw st lg tr tl mv mz (nI n) = some (-3, rules, lefts, sizes, rights, ed, pr, pl, pz, pg, lv', mc', md', iw, e, f, w, ik, ke, kf, kw, st, lg, tr, tl, mv, mz) ∧ FL (if freI G n = none then [(15, nI n), (16, 0)] else [(15, nI n), (17, nI (G.length + 1))]) lv' mc' md' := by
                simp only [fX12_removeLeftRecursion, m_isName, hx, obs, jn4]
                rw [if_neg (show ¬ b01 true = 0 by decide), ms, if_neg hR0, hal, if_pos hneg, if_neg hRO', hfi, if_pos hneg, mu]
                cases hfr : freI G n with
                | none =>
                  obtain ⟨lv', mc', md', t2, r2⟩ := m_refuses (lv := lv) (mc := mc) (md := md) (nI n) 16 0 (-3)
                  refine ⟨lv', mc', md', ?_, by rw [if_pos rfl]; exact r2⟩
                  simp only [obs, oI]
                  rw [if_neg (show ¬ (0 : Int32) ≤ -1 by decide), t2]
                  rfl
                | some k =>
                  have hk := (fre_free hG hn hfr).1
                  have h24 : ¬ G.length < 24 := by
                    rcases hno with h | h
                    · rw [hfr] at h; exact absurd h (by simp)
                    · exact h
                  have hr1 : rules + 1 = nI (G.length + 1) := by rw [hM.1, nI_1]
                  obtain ⟨lv', mc', md', t2, r2⟩ := m_refuses (lv := lv) (mc := mc) (md := md) (nI n) 17 (nI (G.length + 1)) (-3)
                  refine ⟨lv', mc', md', ?_, by rw [if_neg (by simp)]; exact r2⟩
                  simp only [obs, oI]
                  rw [if_pos (show (0 : Int32) ≤ nI k from nI_le (a := 0) (Nat.zero_le _) (by omega)), hr1, if_neg (show ¬ nI (G.length + 1) ≤ 24 from nI_ge (show 24 < G.length + 1 by omega) (by omega)), t2]
                  rfl
              obtain ⟨lv', mc', md', t2, r2⟩ := hm
              refine ⟨(-3, codes, count, sc, sn, nw, sz, E, F, W, E0, F0, W0, se, ps, lo, cf, fc', fd', fl', pk, key), (-3, rules, lefts, sizes, rights, ed, pr, pl, pz, pg, lv', mc', md', iw, e, f, w, ik, ke, kf, kw, st, lg, tr, tl, mv, mz), ?_, t2, rfl, G, hs, _, hc, hM, hG, hHC, hHM, hS, hT, hX, r1, r2, hw, hK⟩
              simp only [fX11_removeLeftRecursion, c_isNt, hx, obs]
              rw [if_neg (show ¬ b01 true = 0 by decide), er, obs, if_neg hR0, hh]
              simp only [bd4, obs]
              rw [if_pos trivial, eu, obs, t1, obs, if_neg (show ¬ (1 : Int32) = 0 by decide)]
            · obtain ⟨fr8, frn, frG⟩ := fre_free hG hn hfr
              have hG' := turn_ok (fr := fr) hG h24 hn fr8 frn hfil frG
              obtain ⟨j, sc', sn', nw', sz', k1, k2, b1, b2, b3, b4, b5, b6⟩ := c_beginEdit hHC hc hG E F W E0 F0 W0
              obtain ⟨codes', count', b7, b8⟩ := c_turn (fr := fr) b4 hG hn fr8 hfil h24 codes count (show 30 < N by omega)
              obtain ⟨E', F', W', se', ps', lo', cf', b9, b10, b11⟩ := c_endChange b8 hG' E F W se ps lo cf pk key hN
              obtain ⟨ed', pr', pl', pz', pg', f', w', kf', kw', st', lg', tr', tl', m1, m2, m3, m4⟩ := m_edits hM hG hS tr tl hw hHM ik ke kf kw hN
              obtain ⟨r', l', s', g', mv', mz', m5, m6⟩ := m_rlEdit (lv := lv) (mc := mc) (md := md) hM hG hn h0R hRO hal hfi hfr h24 mv mz tr tr' tl tl' hN m1
              refine ⟨(nI fr, codes', count', sc', sn', nw', sz', E', F', W', E, k1, k2, se', ps', lo', cf', fc, fd, fl, 0, -1), (nI fr, r', l', s', g', ed', pr', pl', pz', pg', lv, mc, md, 0, E, f', w', 1, E, kf', kw', st', lg', tr', tl', mv', mz'), ?_, m5, rfl, _, (G :: hs).take 10, L, b8, m6, hG', b2, m2, b10, b11, Or.inl ⟨rfl, rfl, ExI_ws hX⟩, hF1, hF2, Or.inl rfl, Or.inl ⟨rfl, rfl, fun n hn => ⟨by show kf' n = k1 n; rw [m3 n hn, b5 n hn], by show kw' n = k2 n; rw [m4 n hn, b6 n hn]⟩⟩⟩
              simp only [fX11_removeLeftRecursion, c_isNt, hx, obs]
              rw [if_neg (show ¬ b01 true = 0 by decide), er, obs, if_neg hR0, hh]
              simp only [bd4, obs]
              rw [if_pos trivial, eu, obs, t1, hfr]
              simp only [obs, oI, b1, bd8, jc10]
              rw [if_pos trivial, if_pos b3]
              simp only [b7, bd2, obs, b9, bd9]
  · refine ⟨(-1, codes, count, sc, sn, nw, sz, E, F, W, E0, F0, W0, se, ps, lo, cf, fc, fd, fl, pk, key), (-1, rules, lefts, sizes, rights, ed, pr, pl, pz, pg, lv, mc, md, iw, e, f, w, ik, ke, kf, kw, st, lg, tr, tl, mv, mz), ?_, ?_, rfl, G, hs, L, hc, hM, hG, hHC, hHM, hS, hT, hX, hF1, hF2, hw, hK⟩
    · simp only [fX11_removeLeftRecursion, c_isNt, hx, obs]
      rw [if_pos (by rfl)]
    · simp only [fX12_removeLeftRecursion, m_isName, hx, obs]
      rw [if_pos (by rfl)]
end KT
