/-! THE REFERENCE'S grows, and its loop -/
section MG
variable {rules : Int32} {lefts sizes rights : Nat → Int32} {G : List gP}
theorem m_growsInner (h : RM rules lefts sizes rights G) (hG : okG G) {p : Nat} (hp : p < G.length) {N : Nat} (hN : 30 < N) (E : Int32) (F W : Nat → Int32) (c : Bool) (k : Int32 → (Nat → Int32) → Option (Int32 × Int32 × (Nat → Int32) × (Nat → Int32))) : itr3 (bX12_grows_100 N sizes rights (nI p) (nI (gp G p).1) E F k) N (b01 c) 0 W = k (b01 (c || chN (mD E F (gp G p)) (mI E F (gp G p)) (gp G p).2.length W)) (foldN (mI E F (gp G p)) (gp G p).2.length W) := by
  have hq := okG_gp hG hp
  have hl := hq.2.1
  have h8 := hq.1
  have hG24 := hG.1
  have hs := itr3_seq (B := bX12_grows_100 N sizes rights (nI p) (nI (gp G p).1) E F k) (fun i => b01 (c || chN (mD E F (gp G p)) (mI E F (gp G p)) i W)) (fun i => nI i) (fun i => foldN (mI E F (gp G p)) i W) (gp G p).2.length N (by omega) ?_ (r := k (b01 (c || chN (mD E F (gp G p)) (mI E F (gp G p)) (gp G p).2.length W)) (foldN (mI E F (gp G p)) (gp G p).2.length W)) ?_
  · have z0 : b01 (c || chN (mD E F (gp G p)) (mI E F (gp G p)) 0 W) = b01 c := by simp [chN]
    have z1 : nI 0 = 0 := rfl
    have z2 : foldN (mI E F (gp G p)) 0 W = W := rfl
    simp only [z0, z1, z2] at hs
    exact hs
  · intro i hi rc
    have hok := okP_sy hq hi
    have h18 := okS_lt hok
    have e1 : foldN (mI E F (gp G p)) (i + 1) W = mI E F (gp G p) i (foldN (mI E F (gp G p)) i W) := rfl
    have e2 : chN (mD E F (gp G p)) (mI E F (gp G p)) (i + 1) W = (chN (mD E F (gp G p)) (mI E F (gp G p)) i W || mD E F (gp G p) i (foldN (mI E F (gp G p)) i W)) := rfl
    rw [e1, e2, ← Bool.or_assoc]
    generalize foldN (mI E F (gp G p)) i W = W1
    generalize (c || chN (mD E F (gp G p)) (mI E F (gp G p)) i W) = c1
    simp only [bX12_grows_100, ag_ok (show p < 24 by omega), obs, (h.2 p hp).2.1]
    rw [if_neg (nI_ge hi (by omega)), m_symbol h hG hp hi]
    simp only [obs, lt_, jn_, jn2, nI_1, m_firstOf h hG E F hp (show 5 < N by omega) (i + 1) (by omega), m_areEmpty h hG E hp (show 5 < N by omega) (i + 1) (by omega), ag_ok h8]
    unfold mI mD
    rw [bh_eq]
    generalize sy (gp G p).2 i = s at *
    by_cases h10 : s < 10
    · have hneg : ¬ 0 ≤ nI s - 10 := by
        have := pk_sneg (a := s) (b := 10) (by decide) h10
        exact Int32.not_le.mpr this
      rw [if_neg hneg, if_pos h10]
      simp [h10]
    · rw [sub10 h10, if_pos (nI_pos' (by omega)), if_neg h10]
      simp only [ag_ok (show s - 10 < 8 by omega), as_ok (show s - 10 < 8 by omega), obs]
      have fin : ∀ b : Int32, (if b01 c1 = 0 then if (W1 (s - 10) ||| frst E F ((gp G p).2.drop (i + 1))) ||| b = W1 (s - 10) then rc 0 (nI (i + 1)) (upd W1 (s - 10) ((W1 (s - 10) ||| frst E F ((gp G p).2.drop (i + 1))) ||| b)) else rc 1 (nI (i + 1)) (upd W1 (s - 10) ((W1 (s - 10) ||| frst E F ((gp G p).2.drop (i + 1))) ||| b)) else rc 1 (nI (i + 1)) (upd W1 (s - 10) ((W1 (s - 10) ||| frst E F ((gp G p).2.drop (i + 1))) ||| b))) = rc (b01 (c1 || !(decide (W1 (s - 10) ||| (frst E F ((gp G p).2.drop (i + 1)) ||| b) = W1 (s - 10))))) (nI (i + 1)) (upd W1 (s - 10) (W1 (s - 10) ||| (frst E F ((gp G p).2.drop (i + 1)) ||| b))) := by
        intro b
        rw [Int32.or_assoc]
        cases c1 with
        | true => simp [b01]
        | false =>
          rw [if_pos (by rfl)]
          by_cases e : W1 (s - 10) ||| (frst E F ((gp G p).2.drop (i + 1)) ||| b) = W1 (s - 10)
          · rw [if_pos e]; simp [e, b01]
          · rw [if_neg e]; simp [e, b01]
      simp only [fin]
      cases hv : van E ((gp G p).2.drop (i + 1)) with
      | false => rw [if_pos (by rfl)]; simp [h10]
      | true => rw [if_neg (by decide)]; simp [h10]
  · intro rc
    simp only [bX12_grows_100, ag_ok (show p < 24 by omega), obs, (h.2 p hp).2.1]
    rw [if_pos (Int32.le_refl _)]
theorem m_grows (h : RM rules lefts sizes rights G) (hG : okG G) {N : Nat} (hN : 30 < N) (v : m3) : fX12_grows N rules lefts sizes rights v.1 v.2.1 v.2.2 = some (b01 (chN (dM G) (stM G) G.length v), foldN (stM G) G.length v) := by
  have hG24 := hG.1
  simp only [fX12_grows, jn4]
  have hs := itr5_seq (B := bX12_grows_4 N rules lefts sizes rights (fun v1 v2 v3 v4 => gz v1 (some (v1, v2, v3, v4)))) (fun i => b01 (chN (dM G) (stM G) i v)) (fun i => nI i) (fun i => (foldN (stM G) i v).1) (fun i => (foldN (stM G) i v).2.1) (fun i => (foldN (stM G) i v).2.2) G.length N (by omega) ?_ (r := some (b01 (chN (dM G) (stM G) G.length v), foldN (stM G) G.length v)) ?_
  · exact hs
  · intro p hp rc
    have hq := okG_gp hG hp
    have h8 := hq.1
    have e1 : foldN (stM G) (p + 1) v = stM G p (foldN (stM G) p v) := rfl
    have e2 : chN (dM G) (stM G) (p + 1) v = (chN (dM G) (stM G) p v || dM G p (foldN (stM G) p v)) := rfl
    rw [e1, e2]
    generalize foldN (stM G) p v = V
    generalize chN (dM G) (stM G) p v = c
    obtain ⟨E, F, W⟩ := V
    simp only [bX12_grows_4]
    rw [h.1, if_neg (nI_ge hp (by omega)), ag_ok (show p < 24 by omega)]
    simp only [obs, (h.2 p hp).1, jn_, jn2, lt_, bit01]
    have body : ∀ (c' : Bool) (E' : Int32), ((ag F 8 (nI (gp G p).1)).bind fun x15 => (fX12_firstOf N sizes rights E' F (nI p) 0).bind fun x16 => if b01 c' = 0 then (ag F 8 (nI (gp G p).1)).bind fun x53 => if x15 ||| x16 = x53 then (as_ F 8 (nI (gp G p).1) (x15 ||| x16)).bind fun f19 => itr3 (bX12_grows_100 N sizes rights (nI p) (nI (gp G p).1) E' f19 fun v20 v21 => rc v20 (nI p + 1) E' f19 v21) N 0 0 W else (as_ F 8 (nI (gp G p).1) (x15 ||| x16)).bind fun f19 => itr3 (bX12_grows_100 N sizes rights (nI p) (nI (gp G p).1) E' f19 fun v20 v21 => rc v20 (nI p + 1) E' f19 v21) N 1 0 W else (as_ F 8 (nI (gp G p).1) (x15 ||| x16)).bind fun f19 => itr3 (bX12_grows_100 N sizes rights (nI p) (nI (gp G p).1) E' f19 fun v20 v21 => rc v20 (nI p + 1) E' f19 v21) N 1 0 W) = rc (b01 ((c' || dF G E' p F) || chN (mD E' (stF G E' p F) (gp G p)) (mI E' (stF G E' p F) (gp G p)) (gp G p).2.length W)) (nI (p + 1)) E' (stF G E' p F) (foldN (mI E' (stF G E' p F) (gp G p)) (gp G p).2.length W) := by
      intro c' E'
      simp only [ag_ok h8, as_ok h8, obs, m_firstOf0 h hG E' F hp (show 5 < N by omega), nI_1]
      have hin := fun c2 => m_growsInner h hG hp hN E' (upd F (gp G p).1 (F (gp G p).1 ||| frst E' F (gp G p).2)) W c2 (fun v20 v21 => rc v20 (nI (p + 1)) E' (upd F (gp G p).1 (F (gp G p).1 ||| frst E' F (gp G p).2)) v21)
      have i0 := hin false
      have i1 := hin true
      have z0 : b01 false = 0 := rfl
      have z1 : b01 true = 1 := rfl
      rw [z0] at i0
      rw [z1] at i1
      rw [i0, i1]
      unfold stF dF
      cases c' with
      | true => rw [if_neg (by decide)]; simp
      | false =>
        rw [if_pos (by rfl)]
        by_cases e : F (gp G p).1 ||| frst E' F (gp G p).2 = F (gp G p).1
        · rw [if_pos e]; simp [e]
        · rw [if_neg e]; simp [e]
    have hd : dM G p (E, F, W) = ((!(tb E (gp G p).1) && van E (gp G p).2) || (dF G (stE G p E) p F || chN (mD (stE G p E) (stF G (stE G p E) p F) (gp G p)) (mI (stE G p E) (stF G (stE G p E) p F) (gp G p)) (gp G p).2.length W)) := rfl
    have hst : stM G p (E, F, W) = (stE G p E, stF G (stE G p E) p F, foldN (mI (stE G p E) (stF G (stE G p E) p F) (gp G p)) (gp G p).2.length W) := rfl
    rw [hd, hst]
    cases ht : tb E (gp G p).1 with
    | true =>
      rw [if_neg (by decide)]
      have eE : stE G p E = E := by
        unfold stE
        split
        · exact or_of_sb ((sb_bitI_iff (by omega)).mpr ht)
        · rfl
      rw [eE]
      refine (body c E).trans ?_
      simp [Bool.or_assoc]
    | false =>
      rw [if_pos (by rfl), m_areEmpty0 h hG E hp (by omega)]
      simp only [obs]
      cases hv : van E (gp G p).2 with
      | false =>
        have eE : stE G p E = E := by unfold stE; rw [hv]; rfl
        rw [eE, if_pos (by rfl)]
        refine (body c E).trans ?_
        simp [Bool.or_assoc]
      | true =>
        have eE : stE G p E = E ||| bitI (gp G p).1 := by unfold stE; rw [hv]; rfl
        rw [eE, if_neg (by decide)]
        refine (body true (E ||| bitI (gp G p).1)).trans ?_
        simp
  · intro rc
    simp only [bX12_grows_4]
    rw [h.1, if_pos (Int32.le_refl _)]
    unfold gz
    rw [if_pos (b01_01 _)]
end MG
