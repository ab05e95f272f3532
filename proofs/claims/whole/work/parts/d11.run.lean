set_option maxHeartbeats 2000000 in
theorem lwP_z {N : Nat} (hN : 2000 < N) (xs : Nat → Int32) (i : Int32) {a : LC} {m : LM} (h : REL a m) (k : Nat) (hk : k ≤ 45) : ∃ a' m', REL a' m' ∧ ∀ rc, lwP N xs rc i a m k = rc (i + 7, a', m') := by
  have q : k = 0 ∨ k = 1 ∨ k = 2 ∨ k = 3 ∨ k = 4 ∨ k = 5 ∨ k = 6 ∨ k = 7 ∨ k = 8 ∨ k = 9 ∨ k = 10 ∨ k = 11 ∨ k = 12 ∨ k = 13 ∨ k = 14 ∨ k = 15 ∨ k = 16 ∨ k = 17 ∨ k = 18 ∨ k = 19 ∨ k = 20 ∨ k = 21 ∨ k = 22 ∨ k = 23 ∨ k = 24 ∨ k = 25 ∨ k = 26 ∨ k = 27 ∨ k = 28 ∨ k = 29 ∨ k = 30 ∨ k = 31 ∨ k = 32 ∨ k = 33 ∨ k = 34 ∨ k = 35 ∨ k = 36 ∨ k = 37 ∨ k = 38 ∨ k = 39 ∨ k = 40 ∨ k = 41 ∨ k = 42 ∨ k = 43 ∨ k = 44 ∨ k = 45 := by omega
  rcases q with rfl | rfl | rfl | rfl | rfl | rfl | rfl | rfl | rfl | rfl | rfl | rfl | rfl | rfl | rfl | rfl | rfl | rfl | rfl | rfl | rfl | rfl | rfl | rfl | rfl | rfl | rfl | rfl | rfl | rfl | rfl | rfl | rfl | rfl | rfl | rfl | rfl | rfl | rfl | rfl | rfl | rfl | rfl | rfl | rfl | rfl
  · exact z0 hN xs i h
  · exact z1 hN xs i h
  · exact z2 hN xs i h
  · exact z3 hN xs i h
  · exact z4 hN xs i h
  · exact z5 hN xs i h
  · exact z6 hN xs i h
  · exact z7 hN xs i h
  · exact z8 hN xs i h
  · exact z9 hN xs i h
  · exact z10 hN xs i h
  · exact z11 hN xs i h
  · exact z12 hN xs i h
  · exact z13 hN xs i h
  · exact z14 hN xs i h
  · exact z15 hN xs i h
  · exact z16 hN xs i h
  · exact z17 hN xs i h
  · exact z18 hN xs i h
  · exact z19 hN xs i h
  · exact z20 hN xs i h
  · exact z21 hN xs i h
  · exact z22 hN xs i h
  · exact z23 hN xs i h
  · exact z24 hN xs i h
  · exact z25 hN xs i h
  · exact z26 hN xs i h
  · exact z27 hN xs i h
  · exact z28 hN xs i h
  · exact z29 hN xs i h
  · exact z30 hN xs i h
  · exact z31 hN xs i h
  · exact z32 hN xs i h
  · exact z33 hN xs i h
  · exact z34 hN xs i h
  · exact z35 hN xs i h
  · exact z36 hN xs i h
  · exact z37 hN xs i h
  · exact z38 hN xs i h
  · exact z39 hN xs i h
  · exact z40 hN xs i h
  · exact z41 hN xs i h
  · exact z42 hN xs i h
  · exact z43 hN xs i h
  · exact z44 hN xs i h
  · exact z45 hN xs i h
theorem nI_lit7 : (7 : Int32) = nI 7 := rfl
theorem lwJ_ok {k L : Nat} (h : k + 7 ≤ L) (hL : L ≤ 3584) : lwJ (nI k) L = true := by
  have hb : Nat.ble L 100000 = true := Nat.ble_eq.mpr (by omega)
  have e : ∀ j : Nat, j < 7 → inb (nI k + nI j) L = true := fun j hj => by rw [nI_add]; exact inb_nI (by omega) hb
  unfold lwJ
  simp only [Bool.and_eq_true]
  exact ⟨inb_nI (by omega) hb, e 1 (by decide), e 2 (by decide), e 3 (by decide), e 4 (by decide), e 5 (by decide), e 6 (by decide)⟩
theorem L7_lt {k L : Nat} (hL : L ≤ 3584) (hk : k ≤ L) : (Int32.ofNat L - 7 < nI k) ↔ L < k + 7 := by
  have h1 : (nI L).toInt = (L : Int) := nI_toInt (by omega)
  have h2 : (nI k).toInt = (k : Int) := nI_toInt (by omega)
  have h3 : (7 : Int32).toInt = 7 := by decide
  have h4 : (Int32.ofNat L - 7).toInt = (L : Int) - 7 := by
    show (nI L - 7).toInt = _
    rw [Int32.toInt_sub, h1, h3]
    exact Int.bmod_eq_of_le (by omega) (by omega)
  rw [Int32.lt_iff_toInt_lt, h4, h2]
  omega
theorem law_run {N : Nat} (hN : 2000 < N) {L : Nat} (hL : L ≤ 3584) (xs : Nat → Int32) : ∀ (F k : Nat) (a : LC) (m : LM), k ≤ L → L < k + F → REL a m → itr (lwB N L xs) F (nI k, a, m) = some () := by
  intro F
  induction F with
  | zero => intro k a m h1 h2 _; omega
  | succ F ih =>
    intro k a m h1 h2 hR
    show lwB N L xs (itr (lwB N L xs) F) (nI k, a, m) = some ()
    unfold lwB
    by_cases h : Int32.ofNat L - 7 < nI k
    · exact if_pos h
    · have hk : k + 7 ≤ L := by
        have := mt (L7_lt hL h1).mpr h
        omega
      rw [if_neg h, if_pos (lwJ_ok hk hL)]
      have hn : nI k + 7 = nI (k + 7) := nI_add k 7
      by_cases hx : (xs (nI k).toNatClampNeg &&& 63).toInt < 0 ∨ 45 < (xs (nI k).toNatClampNeg &&& 63).toInt
      · rw [if_pos hx, hn]
        exact ih _ _ _ hk (by omega) hR
      · rw [if_neg hx]
        obtain ⟨a', m', hR', e⟩ := lwP_z hN xs (nI k) hR ((xs (nI k).toNatClampNeg &&& 63).toInt - 0).toNat (by omega)
        rw [e, hn]
        exact ih _ _ _ hk (by omega) hR'
theorem law_holds {L : Nat} (hL : L ≤ 3584) (xs : Nat → Int32) : ((fX11_init 2001).bind fun u => fX12_init.bind fun _ => itr (lwB 2001 L xs) (L + 1) (0, a0I u, m0I)) = some () := by
  obtain ⟨u, e, h⟩ := REL_init (N := 2001) (by decide)
  rw [e, obs]
  show itr (lwB 2001 L xs) (L + 1) (0, a0I u, m0I) = some ()
  exact law_run (by decide) hL xs (L + 1) 0 _ _ (Nat.zero_le _) (by omega) h
