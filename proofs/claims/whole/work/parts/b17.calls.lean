/-! THE WEIGHTS, repair, and the parser's calls -/
def PWT (cw mw : Nat → Int32) : Prop := ∃ wt, WC cw wt ∧ WC mw wt
theorem m_in19 (x : Int32) : fX12_in x 1 9 = some (b01 (decide (¬ x < 1 ∧ ¬ (9 : Int32) < x))) := by
  simp only [fX12_in, jn_, gz]
  by_cases h1 : x < 1
  · rw [if_pos h1]; simp [b01, h1]
  · rw [if_neg h1]
    by_cases h2 : (9 : Int32) < x
    · rw [if_pos h2]; simp [b01, h2]
    · rw [if_neg h2]; simp [b01, h1, h2]
theorem k_weight {cw mw : Nat → Int32} (h : PWT cw mw) (x1 x2 : Int32) : ∃ o o', fX11_setWeight cw x1 x2 = some o ∧ fX12_setWeight mw x1 x2 = some o' ∧ o.1 = o'.1 ∧ PWT o.2 o'.2 := by
  obtain ⟨wt, w1, w2⟩ := h
  have h7 : fX12_in x1 0 7 = some (b01 (inI x1 8)) := m_in x1 (n := 8) (by decide)
  rcases inI_tf x1 8 with hx | hx
  · obtain ⟨t, ht, rfl⟩ := inI_of (by decide) hx
    by_cases h2 : ¬ x2 < 1 ∧ ¬ (9 : Int32) < x2
    · obtain ⟨k, hk, rfl⟩ := nI_of (x := x2) (fun q => h2.1 (Int32.lt_trans q (by decide)))
      have hk1 : 1 ≤ k := by
        by_cases q : k < 1
        · exact absurd (nI_lt (b := 1) q (by decide)) h2.1
        · omega
      have hk9 : k ≤ 9 := by
        by_cases q : 9 < k
        · exact absurd (nI_lt (a := 9) q hk) h2.2
        · omega
      have hupd : ∀ f, WC f wt → WC (upd f t (nI k)) (fun s => if s = t then k else wt s) := fun f hf s hs => by
        show upd f t (nI k) s = nI (if s = t then k else wt s) ∧ 1 ≤ (if s = t then k else wt s) ∧ (if s = t then k else wt s) ≤ 9
        by_cases e : s = t
        · subst e; rw [pk_us, if_pos rfl]; exact ⟨rfl, hk1, hk9⟩
        · rw [pk_un e, if_neg e]; exact hf s hs
      refine ⟨(cw t, upd cw t (nI k)), (mw t, upd mw t (nI k)), ?_, ?_, by show cw t = mw t; rw [(w1 t ht).1, (w2 t ht).1], _, hupd cw w1, hupd mw w2⟩
      · simp only [fX11_setWeight, jn_]
        rw [if_neg (nI_pos (by omega)), if_neg (nleL 8 8 ht), if_neg h2.1, if_pos (show nI k ≤ 9 from nI_le (b := 9) hk9 (by decide)), ag_ok ht, obs, as_ok ht, obs]
      · simp only [fX12_setWeight, h7, hx, obs, jn_, m_in19]
        rw [if_neg (by decide), decide_eq_true h2, if_neg (by decide), ag_ok ht, obs, as_ok ht, obs]
    · refine ⟨(-1, cw), (-1, mw), ?_, ?_, rfl, wt, w1, w2⟩
      · simp only [fX11_setWeight, jn_]
        rw [if_neg (nI_pos (by omega)), if_neg (nleL 8 8 ht)]
        by_cases h3 : x2 < 1
        · rw [if_pos h3]
        · rw [if_neg h3, if_neg (fun hle => h2 ⟨h3, fun q => absurd (Int32.lt_of_lt_of_le q hle) Int32.lt_irrefl⟩)]
      · simp only [fX12_setWeight, h7, hx, obs, jn_, m_in19]
        rw [if_neg (by decide), decide_eq_false h2, if_pos (by rfl)]
  · refine ⟨(-1, cw), (-1, mw), ?_, ?_, rfl, wt, w1, w2⟩
    · simp only [fX11_setWeight, jn_]
      rcases inI_not (by decide) (show ¬ inI x1 8 = true by rw [hx]; decide) with h3 | h3
      · rw [if_pos h3]
      · by_cases h0 : x1 < 0
        · rw [if_pos h0]
        · rw [if_neg h0, if_pos (show (8 : Int32) ≤ x1 from h3)]
    · simp only [fX12_setWeight, h7, hx, obs, jn_]
      rw [if_pos (by rfl)]
def PRP (rc0 : Nat → Int32) (rh rl : Nat → Int64) (rp : Nat → Int32) (rlg : Int32) : Prop := ∃ x : wW, KP rc0 rh rl x ∧ rlg = lnI x.1 ∧ ∀ u, x.1 = some u → ∀ k, k < u.length → rp k = nI (sy u k)
theorem k_repair {codes : Nat → Int32} {count : Int32} {rules : Int32} {lefts sizes rights : Nat → Int32} {G : List gP} (hc : RC codes count G) (hM : RM rules lefts sizes rights G) (hG : okG G) {tm mi : Nat → Int32} {il ml : Int32} (hI : PIN tm il mi ml) {cw mw : Nat → Int32} (hW : PWT cw mw) {rc0 : Nat → Int32} {rh rl : Nat → Int64} {rp : Nat → Int32} {rlg : Int32} (hR : PRP rc0 rh rl rp rlg) (tr : Nat → Int32) (tl : Int32) (be bl pt pl0 : Nat → Int32) {N : Nat} (hN : 2000 < N) : ∃ o o', fX11_repair N codes count tm il cw rc0 rh rl = some o ∧ fX12_repair N rules lefts sizes rights tr tl mi ml mw be bl pt pl0 rp rlg = some o' ∧ o.1 = o'.1 ∧ PRP o.2.1 o.2.2.1 o.2.2.2 o'.2.2.2.2.2.2.2.1 o'.2.2.2.2.2.2.2.2 := by
  obtain ⟨I, i1, i2⟩ := hI
  obtain ⟨wt, w1, w2⟩ := hW
  obtain ⟨x, x1, x2, x3⟩ := hR
  have h40 := i1.2.1
  by_cases h8 : I.length ≤ 8
  · obtain ⟨o, v, v1, v2⟩ := c_findLeast hc hG i1 w1 h8 x1 hN
    obtain ⟨v', tr', tl', be', bl', pt', pl', m1, m2⟩ := m_repair hM hG i2 h8 w2 tr tl be bl pt pl0 rp rlg hN
    have hrs : rs 0 0 I.length < 648 := by unfold rs; omega
    have ev := RepOK_uniq (WC_9 w1) v1 m1 _ hrs
    have hle : il ≤ 8 := by rw [i1.1]; exact nI_le (b := 8) h8 (by decide)
    rcases v2 with ⟨a1, a2, a3⟩ | ⟨u, a1, a2, a3⟩
    · rcases m2 with ⟨b1, b2⟩ | ⟨u', rp', b1, b2, b3⟩
      · refine ⟨(-2, o.1, o.2.1, o.2.2), (-2, tr', tl', be', bl', pt', pl', rp, rlg), ?_, b2, rfl, x, a3, x2, x3⟩
        simp only [fX11_repair]
        rw [if_pos hle, a2]
        rfl
      · rw [ev] at a1
        rw [a1] at b1
        exact absurd b1 (by simp)
    · rcases m2 with ⟨b1, b2⟩ | ⟨u', rp', b1, b2, b3⟩
      · rw [ev, b1] at a1
        exact absurd a1 (by simp)
      · have eu : u = u' := by
          rw [ev, b1] at a1
          injection a1 with a1
          exact a1.symm
        subst eu
        refine ⟨(nI u.length - nI I.length, o.1, o.2.1, o.2.2), (nI u.length - nI I.length, tr', tl', be', bl', pt', pl', rp', nI u.length), ?_, b2, rfl, v (rs 0 0 I.length), a3, by rw [a1]; rfl, fun w hw k hk => ?_⟩
        · simp only [fX11_repair]
          rw [if_pos hle, a2]
          rfl
        · rw [a1] at hw
          injection hw with hw
          subst hw
          exact b3 k hk
  · refine ⟨(-6, rc0, rh, rl), (-6, tr, tl, be, bl, pt, pl0, rp, rlg), ?_, ?_, rfl, x, x1, x2, x3⟩
    · simp only [fX11_repair]
      rw [if_neg (show ¬ il ≤ 8 by rw [i1.1]; exact nI_ge (show 8 < I.length by omega) (by omega))]
    · simp only [fX12_repair]
      rw [if_neg (show ¬ ml ≤ 8 by rw [i2.1]; exact nI_ge (show 8 < I.length by omega) (by omega))]
theorem k_repT {rc0 : Nat → Int32} {rh rl : Nat → Int64} {rp : Nat → Int32} {rlg : Int32} (hR : PRP rc0 rh rl rp rlg) (x1 : Int32) : ∃ o o', fX11_repairedTerminal rc0 rh rl x1 = some o ∧ fX12_repairedTerminal rp rlg x1 = some o' ∧ o = o' := by
  obtain ⟨x, k1, k2, k3⟩ := hR
  refine ⟨wtI x.1 x1, wtI x.1 x1, ?_, ?_, rfl⟩
  · simp only [fX11_repairedTerminal, (kp_read k1 x1).2, obs]
  · simp only [fX12_repairedTerminal, jn_]
    rw [k2, m_inL x1 x.2, obs]
    obtain ⟨o, ho⟩ := x
    cases o with
    | none => rfl
    | some u =>
      have h40 := ok40 ho
      show (if b01 (inI x1 u.length) = 0 then _ else _) = some (if inI x1 u.length = true then nI (sy u x1.toNatClampNeg) else -2)
      rcases inI_tf x1 u.length with h | h
      · obtain ⟨j, hj, rfl⟩ := inI_of (by omega) h
        rw [h, if_neg (by decide), ag_ok (show j < 40 by omega), obs, k3 u rfl j hj, if_pos rfl, nI_clamp (by omega)]
      · rw [h, if_pos (by rfl), if_neg (by decide)]
def PPS (ta : Nat → Int32) (tn : Int32) (ts tp th : Nat → Int32) (tc0 : Int32) (ep : Nat → Int32) (en trd : Int32) (trs : Nat → Int32) (nds : Int32) (nsy npa : Nat → Int32) (ers : Int32) (era erk ert : Nat → Int32) : Prop := (∃ t, t ≤ 300 ∧ tn = nI t ∧ trd = nI t ∧ ∀ k, k < t → ta k = trs k) ∧ (∃ c, c ≤ 300 ∧ tc0 = nI c ∧ nds = nI c ∧ ∃ pa : Nat → Nat, (∀ k, 0 < k → k < c → pa k < k) ∧ (∀ k, 0 < k → k < c → npa k = nI (pa k)) ∧ ∀ k, k < c → ts k = nsy k ∧ tp k = npa k ∧ th k = nI (HU pa c k)) ∧ ∃ e, e ≤ 300 ∧ en = nI e ∧ ers = nI e ∧ ∀ k, k < e → ep (3 * k) = era k ∧ ep (3 * k + 1) = erk k ∧ ep (3 * k + 2) = ert k
section KP1
variable {codes : Nat → Int32} {count : Int32} {sc : Nat → Nat → Int32} {sn : Nat → Int32} {nw sz E : Int32} {F W : Nat → Int32} {E0 : Int32} {F0 W0 se ps lo : Nat → Int32} {cf : Int32} {fc fd : Nat → Int32} {fl : Int32} {c : Nat → Int32} {h l : Nat → Int64} {pk key rules : Int32} {lefts sizes rights : Nat → Int32} {ed : Int32} {pr pl pz pg : Nat → Int32} {lv : Int32} {mc md : Nat → Int32} {iw e : Int32} {f w : Nat → Int32} {ik ke : Int32} {kf kw st lg : Nat → Int32} {G : List gP} {hs : List (List gP)} {L : List (Int32 × Int32)}
variable {ta : Nat → Int32} {tn : Int32} {ts tp th : Nat → Int32} {tc0 : Int32} {ep : Nat → Int32} {en trd : Int32} {trs : Nat → Int32} {nds : Int32} {nsy npa : Nat → Int32} {ers : Int32} {era erk ert : Nat → Int32}
theorem k_parse (H : ER G hs L codes count sc sn nw sz E F W E0 F0 W0 se ps lo cf fc fd fl c h l pk key rules lefts sizes rights ed pr pl pz pg lv mc md iw e f w ik ke kf kw st lg) {tm mi : Nat → Int32} {il ml : Int32} (hI : PIN tm il mi ml) (hP : PPS ta tn ts tp th tc0 ep en trd trs nds nsy npa ers era erk ert) (tr : Nat → Int32) (tl : Int32) (sk br : Nat → Int32) (dp ix sp : Int32) (ks kp : Nat → Int32) (top at0 stp mde : Int32) {N : Nat} (hN : 2000 < N) : ∃ o o', fX11_parse N codes count ps lo fc fd fl tm il ta tn ts tp th tc0 sk br dp ix sp = some o ∧ fX12_parse N rules lefts sizes rights lv mc md iw e f w st lg tr tl mi ml ks kp top at0 stp trd trs nds mde nsy npa = some o' ∧ o.1 = o'.1 ∧ (∃ G' hs' L', ER G' hs' L' codes count sc sn nw sz E F W E0 F0 W0 se ps lo cf o.2.1 o.2.2.1 o.2.2.2.1 c h l pk key rules lefts sizes rights ed pr pl pz pg o'.2.1 o'.2.2.1 o'.2.2.2.1 o'.2.2.2.2.1 o'.2.2.2.2.2.1 o'.2.2.2.2.2.2.1 o'.2.2.2.2.2.2.2.1 ik ke kf kw o'.2.2.2.2.2.2.2.2.1 o'.2.2.2.2.2.2.2.2.2.1) ∧ PPS o.2.2.2.2.1 o.2.2.2.2.2.1 o.2.2.2.2.2.2.1 o.2.2.2.2.2.2.2.1 o.2.2.2.2.2.2.2.2.1 o.2.2.2.2.2.2.2.2.2.1 ep en o'.2.2.2.2.2.2.2.2.2.2.2.2.2.2.2.2.2.1 o'.2.2.2.2.2.2.2.2.2.2.2.2.2.2.2.2.2.2.1 o'.2.2.2.2.2.2.2.2.2.2.2.2.2.2.2.2.2.2.2.1 o'.2.2.2.2.2.2.2.2.2.2.2.2.2.2.2.2.2.2.2.2.2.1 o'.2.2.2.2.2.2.2.2.2.2.2.2.2.2.2.2.2.2.2.2.2.2 ers era erk ert := by
  obtain ⟨f', w', st', lg', tr', tl', v, mw, q1, hE⟩ := ER_works H tr tl hN
  obtain ⟨hc, hM, hG, hHC, hHM, hS, hT, hX, hF1, hF2, hw, hK⟩ := H
  obtain ⟨I, i1, i2⟩ := hI
  have h40 := i1.2.1
  obtain ⟨ta', tn', ts', tp', th', sk', br', dp', ix', sp', th0, e1, p1, p2, p3, p4⟩ := c_parse (E := E) (F := F) (W := W) hc hG hT.1 i1 ta tn ts tp th tc0 sk br dp ix sp hN
  obtain ⟨lv', mc', md', ks', kp', top', at', stp', trd', trs', mde', nsy', npa', e2, m1, m2⟩ := m_parse hM hG i2 hF2 mw ks kp top at0 stp trd trs nds mde nsy npa hN
  rw [aP_congr hG q1.2.1 q1.2.2.1] at e2 m1 m2
  obtain ⟨R, hR⟩ : ∃ R, R = aP G E F W I 301 s0P := ⟨_, rfl⟩
  rw [← hR] at e1 p1 p2 p3 p4 e2 m1 m2
  rw [repP_congr hG q1.2.1 q1.2.2.1] at m2
  obtain ⟨r, s, a, st0, T, D⟩ := R
  have p1' := p1
  obtain ⟨c1, c2, c3, c4, c5, c6, c7⟩ := p1'
  have c4' : T.length ≤ st0 := c4
  have c5' : D.length = st0 := c5
  have c6' : st0 ≤ 300 := c6
  have p2' := p2
  obtain ⟨_, _, _, _, d5, d6, d7⟩ := p2
  obtain ⟨_, _, _, _, n5, n6, n7, n8⟩ := m1
  have hcnt : cntP (r, s, a, st0, T, D) ≤ st0 := by
    unfold cntP
    split
    · exact Nat.le_refl _
    · exact Nat.zero_le _
  have hPPS : PPS ta' tn' ts' tp' th' (nI (cntP (r, s, a, st0, T, D))) ep en trd' trs' (nI (cntP (r, s, a, st0, T, D))) nsy' npa' ers era erk ert := by
    refine ⟨⟨T.length, by omega, d5, n5, fun k hk => by rw [d6 k hk, n6 k hk]⟩, ?_, hP.2.2⟩
    by_cases hr : r = 0
    · have ec : cntP (r, s, a, st0, T, D) = st0 := by unfold cntP; rw [if_pos (show (r, s, a, st0, T, D).1 = 0 from hr)]
      have hs : s = [] := by
        rcases p3 with ⟨_, h⟩ | ⟨h, _⟩ | h
        · exact h
        · have h' : r = 1 := h
          omega
        · have h' : r = 2 := h
          omega
      have hpar : PAR s D := c7
      obtain ⟨q1', q2', q3'⟩ := paD_ok hpar (by omega) hs
      rw [ec] at p4 ⊢
      refine ⟨st0, c6', rfl, rfl, paD D, ?_, ?_, fun k hk => ?_⟩
      · rw [← c5']; exact q2'
      · intro k hk0 hk
        rw [← c5'] at hk
        rw [(n8 k hk).2]
        exact q3' k hk0 hk
      · have hk' := hk
        rw [← c5'] at hk'
        refine ⟨by rw [(d7 k hk').1, (n8 k hk').1], by rw [(d7 k hk').2.1, (n8 k hk').2], p4 k hk⟩
    · have ec : cntP (r, s, a, st0, T, D) = 0 := by unfold cntP; rw [if_neg (show ¬ (r, s, a, st0, T, D).1 = 0 from hr)]
      rw [ec]
      exact ⟨0, by omega, rfl, rfl, fun _ => 0, fun k hk0 hk => absurd hk (Nat.not_lt_zero _), fun k hk0 hk => absurd hk (Nat.not_lt_zero _), fun k hk => absurd hk (Nat.not_lt_zero _)⟩
  by_cases hr : r = 0
  · have hcode : codeP (r, s, a, st0, T, D) = nI st0 := by unfold codeP; rw [if_pos (show (r, s, a, st0, T, D).1 = 0 from hr)]
    rcases m2 with ⟨_, rfl, rfl, rfl⟩ | ⟨h, _⟩
    · refine ⟨(codeP (r, s, a, st0, T, D), fc, fd, fl, ta', tn', ts', tp', th', nI (cntP (r, s, a, st0, T, D)), sk', br', dp', ix', sp'), _, ?_, e2, rfl, ⟨G, hs, L, hE⟩, hPPS⟩
      simp only [fX11_parse, e1, bd12, obs, jn3]
      rw [if_pos (show 0 ≤ codeP (r, s, a, st0, T, D) by rw [hcode]; exact nI_le (a := 0) (Nat.zero_le _) (by omega))]
    · exact absurd hr h
  · rcases m2 with ⟨h, _⟩ | ⟨_, h2⟩
    · exact absurd h hr
    · have hr12 : r = 1 ∨ r = 2 := by
        rcases p3 with ⟨h, _⟩ | ⟨h, _⟩ | h
        · exact absurd h hr
        · exact Or.inl h
        · exact Or.inr h
      obtain ⟨fc', fd', fl', t1, t2⟩ := c_explain (il := il) (ta := ta') (tn := tn') (ts := ts') (tp := tp') (th := th0) (sk := sk') (br := br') (dp := dp') (ix := ix') (sp := sp') hc hG hT.1 i1.1 h40 (R := (r, s, a, st0, T, D)) hr hr12 p1 p2' fc fd fl (show 30 < N by omega)
      refine ⟨(codeP (r, s, a, st0, T, D), fc', fd', fl', ta', tn', ts', tp', th', nI (cntP (r, s, a, st0, T, D)), sk', br', dp', ix', sp'), _, ?_, e2, rfl, ⟨G, hs, _, hE.1, hE.2.1, hE.2.2.1, hE.2.2.2.1, hE.2.2.2.2.1, hE.2.2.2.2.2.1, hE.2.2.2.2.2.2.1, hE.2.2.2.2.2.2.2.1, t2, h2, hE.2.2.2.2.2.2.2.2.2.2⟩, hPPS⟩
      simp only [fX11_parse, e1, bd12, obs, jn3]
      rw [if_neg (show ¬ 0 ≤ codeP (r, s, a, st0, T, D) by
        unfold codeP
        rw [if_neg (show ¬ (r, s, a, st0, T, D).1 = 0 from hr)]
        split <;> decide), t1]
      simp only [bd3, obs]
theorem k_recover (H : ER G hs L codes count sc sn nw sz E F W E0 F0 W0 se ps lo cf fc fd fl c h l pk key rules lefts sizes rights ed pr pl pz pg lv mc md iw e f w ik ke kf kw st lg) {tm mi : Nat → Int32} {il ml : Int32} (hI : PIN tm il mi ml) {sy0 ms : Nat → Int32} (hY : PSY sy0 ms) (hP : PPS ta tn ts tp th tc0 ep en trd trs nds nsy npa ers era erk ert) (tr : Nat → Int32) (tl : Int32) (sk br : Nat → Int32) (dp ix sp : Int32) (ks kp : Nat → Int32) (top at0 stp mde : Int32) {N : Nat} (hN : 2000 < N) : ∃ o o', fX11_recover N codes count W ps lo tm il sy0 ta tn tc0 ep en sk br dp ix sp = some o ∧ fX12_recover N rules lefts sizes rights iw e f w st lg tr tl ms mi ml ks kp top at0 stp trd trs nds mde nsy npa ers era erk ert = some o' ∧ o.1 = o'.1 ∧ (∃ G' hs' L', ER G' hs' L' codes count sc sn nw sz E F W E0 F0 W0 se ps lo cf fc fd fl c h l pk key rules lefts sizes rights ed pr pl pz pg lv mc md o'.2.1 o'.2.2.1 o'.2.2.2.1 o'.2.2.2.2.1 ik ke kf kw o'.2.2.2.2.2.1 o'.2.2.2.2.2.2.1) ∧ PPS o.2.1 o.2.2.1 ts tp th o.2.2.2.1 o.2.2.2.2.1 o.2.2.2.2.2.1 o'.2.2.2.2.2.2.2.2.2.2.2.2.2.2.1 o'.2.2.2.2.2.2.2.2.2.2.2.2.2.2.2.1 o'.2.2.2.2.2.2.2.2.2.2.2.2.2.2.2.2.1 o'.2.2.2.2.2.2.2.2.2.2.2.2.2.2.2.2.2.2.1 o'.2.2.2.2.2.2.2.2.2.2.2.2.2.2.2.2.2.2.2.1 o'.2.2.2.2.2.2.2.2.2.2.2.2.2.2.2.2.2.2.2.2.1 o'.2.2.2.2.2.2.2.2.2.2.2.2.2.2.2.2.2.2.2.2.2.1 o'.2.2.2.2.2.2.2.2.2.2.2.2.2.2.2.2.2.2.2.2.2.2.1 o'.2.2.2.2.2.2.2.2.2.2.2.2.2.2.2.2.2.2.2.2.2.2.2 := by
  obtain ⟨f', w', st', lg', tr', tl', v, mw, q1, hE⟩ := ER_works H tr tl hN
  obtain ⟨hc, hM, hG, hHC, hHM, hS, hT, hX, hF1, hF2, hw, hK⟩ := H
  obtain ⟨I, i1, i2⟩ := hI
  obtain ⟨ta', tn', ep', en', sk', br', dp', ix', sp', e1, p1, p2⟩ := c_recover (E := E) (F := F) (W := W) (Y := sy0) hc hG hT.1 i1 ta tn tc0 ep en sk br dp ix sp hN
  obtain ⟨ks', kp', top', at', stp', trd', trs', mde', nsy', npa', ers', era', erk', ert', e2, m1⟩ := m_recover (Y := ms) hM hG i2 mw ks kp top at0 stp trd trs nds mde nsy npa ers era erk ert hN
  rw [aR_congr hG q1.2.1 q1.2.2.1 hY 301 r0Q (QO_r0 I) (by decide)] at e2 m1
  obtain ⟨R, hR⟩ : ∃ R, R = aR G E F W sy0 I 301 r0Q := ⟨_, rfl⟩
  rw [← hR] at e1 p1 p2 e2 m1
  obtain ⟨c1, c2, c3, c4, c5, c6⟩ := p1
  obtain ⟨_, _, _, _, d5, d6, d7, d8⟩ := p2
  obtain ⟨_, _, _, _, n5, n6, _, n8, n9⟩ := m1
  refine ⟨(cdR R, ta', tn', 0, ep', en', sk', br', dp', ix', sp'), _, ?_, e2, rfl, ⟨G, hs, L, hE⟩, ⟨R.2.2.2.2.1.length, by omega, d5, n5, fun k hk => (d6 k hk).trans (n6 k hk).symm⟩, ⟨0, by omega, rfl, rfl, fun _ => 0, fun k hk0 hk => absurd hk (Nat.not_lt_zero _), fun k hk0 hk => absurd hk (Nat.not_lt_zero _), fun k hk => absurd hk (Nat.not_lt_zero _)⟩, ⟨R.2.2.2.2.2.length, by omega, d7, n8, fun k hk => ?_⟩⟩
  · simp only [fX11_recover, e1, bd11, obs]
  · obtain ⟨a1, a2, a3⟩ := d8 k hk
    obtain ⟨b1, b2, b3⟩ := n9 k hk
    exact ⟨a1.trans b1.symm, a2.trans b2.symm, a3.trans b3.symm⟩
theorem k_traceLen (hP : PPS ta tn ts tp th tc0 ep en trd trs nds nsy npa ers era erk ert) : ∃ o o', fX11_traceLength tn = some o ∧ fX12_traceLength trd = some o' ∧ o = o' := by
  obtain ⟨⟨t, _, rfl, rfl, _⟩, _⟩ := hP
  exact ⟨_, _, rfl, rfl, rfl⟩
theorem k_trace (hP : PPS ta tn ts tp th tc0 ep en trd trs nds nsy npa ers era erk ert) (x1 : Int32) : ∃ o o', fX11_trace ta tn x1 = some o ∧ fX12_trace trd trs x1 = some o' ∧ o = o' := by
  obtain ⟨⟨t, h3, rfl, rfl, h⟩, _⟩ := hP
  exact ⟨rdI x1 t ta, rdI x1 t trs, c_rd ta h3 rfl x1, m_rd trs h3 rfl x1, rdI_congr (by omega) h⟩
theorem k_nodeCnt (hP : PPS ta tn ts tp th tc0 ep en trd trs nds nsy npa ers era erk ert) : ∃ o o', fX11_nodeCount tc0 = some o ∧ fX12_nodeCount nds = some o' ∧ o = o' := by
  obtain ⟨_, ⟨c, _, rfl, rfl, _⟩, _⟩ := hP
  exact ⟨_, _, rfl, rfl, rfl⟩
theorem c_rd9 (f : Nat → Int32) {n : Nat} (hn : n ≤ 300) (x : Int32) : ((fX9_has (nI n) x).bind fun x1 => if x1 = 0 then some (-2) else (ag f 300 x).bind fun x4 => some x4) = some (rdI x n f) := by
  have hh : fX9_has (nI n) x = some (b01 (inI x n)) := c_has x (by omega)
  rw [hh, obs]
  unfold rdI
  rcases inI_tf x n with h | h
  · obtain ⟨j, hj, rfl⟩ := inI_of (by omega) h
    rw [h, if_neg (by decide), ag_ok (show j < 300 by omega), obs, if_pos rfl, nI_clamp (by omega)]
  · rw [h, if_pos (by rfl), if_neg (by decide)]
theorem k_nodeSym (hP : PPS ta tn ts tp th tc0 ep en trd trs nds nsy npa ers era erk ert) (x1 : Int32) : ∃ o o', fX11_nodeSymbol ts tc0 x1 = some o ∧ fX12_nodeSymbol nds nsy x1 = some o' ∧ o = o' := by
  obtain ⟨_, ⟨c, h3, rfl, rfl, pa, _, _, h⟩, _⟩ := hP
  exact ⟨rdI x1 c ts, rdI x1 c nsy, c_rd9 ts h3 x1, m_rd nsy h3 rfl x1, rdI_congr (by omega) fun k hk => (h k hk).1⟩
theorem k_nodePar (hP : PPS ta tn ts tp th tc0 ep en trd trs nds nsy npa ers era erk ert) (x1 : Int32) : ∃ o o', fX11_nodeParent tp tc0 x1 = some o ∧ fX12_nodeParent nds npa x1 = some o' ∧ o = o' := by
  obtain ⟨_, ⟨c, h3, rfl, rfl, pa, _, _, h⟩, _⟩ := hP
  exact ⟨rdI x1 c tp, rdI x1 c npa, c_rd9 tp h3 x1, m_rd npa h3 rfl x1, rdI_congr (by omega) fun k hk => (h k hk).2.1⟩
theorem k_nodeHt (hP : PPS ta tn ts tp th tc0 ep en trd trs nds nsy npa ers era erk ert) (x1 : Int32) {N : Nat} (hN : 2000 < N) : ∃ o o', fX11_nodeHeight th tc0 x1 = some o ∧ fX12_nodeHeight N nds npa x1 = some o' ∧ o = o' := by
  obtain ⟨_, ⟨c, h3, rfl, rfl, pa, h1, h2, h⟩, _⟩ := hP
  refine ⟨rdI x1 c th, rdI x1 c th, c_rd9 th h3 x1, ?_, rfl⟩
  unfold rdI
  rcases inI_tf x1 c with hx | hx
  · obtain ⟨j, hj, rfl⟩ := inI_of (by omega) hx
    rw [m_height h1 h3 h2 hj (show 400 < N by omega), if_pos hx, nI_clamp (by omega), (h j hj).2.2]
  · simp only [fX12_nodeHeight, m_in x1 (show c < 2 ^ 30 by omega), hx, obs]
    rw [if_pos (by rfl), if_neg (by decide)]
theorem k_error (hP : PPS ta tn ts tp th tc0 ep en trd trs nds nsy npa ers era erk ert) (x1 x2 : Int32) : ∃ o o', fX11_error ep en x1 x2 = some o ∧ fX12_error ers era erk ert x1 x2 = some o' ∧ o = o' := by
  obtain ⟨_, _, ⟨e, h3, rfl, rfl, h⟩⟩ := hP
  have h2 : fX12_in x2 0 2 = some (b01 (inI x2 3)) := m_in x2 (n := 3) (by decide)
  rcases inI_tf x2 3 with hx | hx
  · obtain ⟨w, hw, rfl⟩ := inI_of (by decide) hx
    have hle : nI w ≤ 2 := nI_le (b := 2) (by omega) (by decide)
    have hc : fX11_error ep (nI e) x1 (nI w) = some (rdI x1 e (fun k => ep (3 * k + w))) := by
      simp only [fX11_error, jn_, fX4_errorPart]
      rw [if_neg (nI_pos (by omega)), if_pos hle]
      unfold rdI
      rcases inI_tf x1 e with hx1 | hx1
      · obtain ⟨j, hj, rfl⟩ := inI_of (by omega) hx1
        have e3 : nI j * (3 : Int32) = nI (j * 3) := pk_mul j 3
        rw [if_neg (nI_pos (by omega)), if_neg (nI_ge hj (by omega)), e3, nI_add, ag_ok (show j * 3 + w < 900 by omega), if_pos hx1, nI_clamp (by omega)]
        show some (ep (j * 3 + w)) = some (ep (3 * j + w))
        rw [Nat.mul_comm 3 j]
      · have hx1' : ¬ inI x1 e = true := by rw [hx1]; decide
        rw [hx1, if_neg (show ¬ (false = true) by decide)]
        rcases inI_not (by omega) hx1' with h4 | h4
        · rw [if_pos h4]; rfl
        · by_cases h0 : x1 < 0
          · rw [if_pos h0]; rfl
          · rw [if_neg h0, if_pos h4]; rfl
    have hm : fX12_error (nI e) era erk ert x1 (nI w) = some (rdI x1 e (if w = 0 then era else if w = 1 then erk else ert)) := by
      simp only [fX12_error, h2, hx, obs, jn_]
      rw [if_neg (by decide)]
      have : w = 0 ∨ w = 1 ∨ w = 2 := by omega
      rcases this with rfl | rfl | rfl
      · have := m_rd era h3 (sz := 300) rfl x1
        simp only [if_pos (show nI 0 = 0 from rfl)]
        exact this
      · have := m_rd erk h3 (sz := 300) rfl x1
        simp only [if_neg (show ¬ nI 1 = 0 by decide), if_pos (show nI 1 = 1 from rfl)]
        exact this
      · have := m_rd ert h3 (sz := 300) rfl x1
        simp only [if_neg (show ¬ nI 2 = 0 by decide), if_neg (show ¬ nI 2 = 1 by decide)]
        exact this
    refine ⟨_, _, hc, hm, rdI_congr (by omega) fun k hk => ?_⟩
    have := h k hk
    have hw3 : w = 0 ∨ w = 1 ∨ w = 2 := by omega
    rcases hw3 with rfl | rfl | rfl
    · exact this.1
    · exact this.2.1
    · exact this.2.2
  · refine ⟨-1, -1, ?_, ?_, rfl⟩
    · simp only [fX11_error, jn_]
      rcases inI_not (by decide) (show ¬ inI x2 3 = true by rw [hx]; decide) with h4 | h4
      · rw [if_pos h4]
      · by_cases h0 : x2 < 0
        · rw [if_pos h0]
        · rw [if_neg h0, if_neg (fun hle => by have := Int32.le_trans h4 hle; exact absurd this (by decide))]
    · simp only [fX12_error, h2, hx, obs]
      rw [if_pos (by rfl)]
end KP1
