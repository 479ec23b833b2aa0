/-! the law of one call on a fresh object -/
set_option maxHeartbeats 8000000 in
set_option maxRecDepth 100000 in
theorem law_holds {xs : Nat → Int32} {L : Nat} (hL : L ≤ 6) : ∃ F n, fL_law F xs L n 0 mem0 = some () := by
  refine ⟨FF, 2, ?_⟩
  show fL_law_b FF xs L (fL_law FF xs L 1) (nI 0) mem0 = some ()
  unfold fL_law_b
  have hcond : ∀ y, y ≤ 6 → ((Int32.ofNat L - 6 < nI y) ↔ L < y + 6) := fun y hy => by
    have e : (Int32.ofNat L - 6).toInt = (L : Int) - 6 := pk_sub_toInt (a := L) (b := 6) (by omega) (by omega)
    rw [Int32.lt_iff_toInt_lt, e, nI_toInt (by omega)]
    omega
  by_cases hc : L < 0 + 6
  · rw [if_pos ((hcond 0 (by omega)).mpr hc)]
  · rw [if_neg (fun q => hc ((hcond 0 (by omega)).mp q)), rs_n (by omega) (by omega)]
    have e1 : nI 0 + 1 = nI 1 := nI_add 0 1
    have e2 : nI 0 + 2 = nI 2 := nI_add 0 2
    have e3 : nI 0 + 3 = nI 3 := nI_add 0 3
    have e4 : nI 0 + 4 = nI 4 := nI_add 0 4
    have e5 : nI 0 + 5 = nI 5 := nI_add 0 5
    have e6 : nI 0 + 6 = nI 6 := nI_add 0 6
    have hI : Inv True mem0 := inv0
    have go : ∀ μ2, fL_law FF xs L 1 (nI 6) μ2 = some () := fun μ2 => by
      show fL_law_b FF xs L (fL_law FF xs L 0) (nI 6) μ2 = some ()
      unfold fL_law_b
      rw [if_pos ((hcond 6 (by omega)).mpr (by omega))]
    generalize xs 0 &&& 31 = v
    by_cases c0 : v = 0
    · rw [if_pos c0]
      obtain ⟨r, μ1, μ2, h1, h2, h3⟩ := op_sheet (xs 1) (xs 2) (xs 3) mem0 hI
      rw [e1, e2, e3, rs_n (by omega) (by omega), rs_n (by omega) (by omega), rs_n (by omega) (by omega), h1, cal_n, rs_n (by omega) (by omega), rs_n (by omega) (by omega), rs_n (by omega) (by omega), h2, cal_n, if_pos rfl, e6]
      exact go _
    rw [if_neg c0]
    by_cases c1 : v = 1
    · rw [if_pos c1]
      obtain ⟨r, μ1, μ2, h1, h2, h3⟩ := op_lose (xs 1) mem0 hI
      rw [e1, rs_n (by omega) (by omega), h1, cal_n, rs_n (by omega) (by omega), h2, cal_n, if_pos rfl, e6]
      exact go _
    rw [if_neg c1]
    by_cases c2 : v = 2
    · rw [if_pos c2]
      obtain ⟨r, μ1, μ2, h1, h2, h3⟩ := op_put (xs 1) (xs 2) (xs 3) (xs 4) mem0 hI
      rw [e1, e2, e3, e4, rs_n (by omega) (by omega), rs_n (by omega) (by omega), rs_n (by omega) (by omega), rs_n (by omega) (by omega), h1, cal_n, rs_n (by omega) (by omega), rs_n (by omega) (by omega), rs_n (by omega) (by omega), rs_n (by omega) (by omega), h2, cal_n, if_pos rfl, e6]
      exact go _
    rw [if_neg c2]
    by_cases c3 : v = 3
    · rw [if_pos c3]
      obtain ⟨r, μ1, μ2, h1, h2, h3⟩ := op_get (xs 1) (xs 2) (xs 3) mem0 hI
      rw [e1, e2, e3, rs_n (by omega) (by omega), rs_n (by omega) (by omega), rs_n (by omega) (by omega), h1, cal_n, rs_n (by omega) (by omega), rs_n (by omega) (by omega), rs_n (by omega) (by omega), h2, cal_n, if_pos rfl, e6]
      exact go _
    rw [if_neg c3]
    by_cases c4 : v = 4
    · rw [if_pos c4]
      obtain ⟨r, μ1, μ2, h1, h2, h3⟩ := op_copy (xs 1) (xs 2) (xs 3) (xs 4) (xs 5) mem0 hI
      rw [e1, e2, e3, e4, e5, rs_n (by omega) (by omega), rs_n (by omega) (by omega), rs_n (by omega) (by omega), rs_n (by omega) (by omega), rs_n (by omega) (by omega), h1, cal_n, rs_n (by omega) (by omega), rs_n (by omega) (by omega), rs_n (by omega) (by omega), rs_n (by omega) (by omega), rs_n (by omega) (by omega), h2, cal_n, if_pos rfl, e6]
      exact go _
    rw [if_neg c4]
    by_cases c5 : v = 5
    · rw [if_pos c5]
      obtain ⟨r, μ1, μ2, h1, h2, h3⟩ := op_take (xs 1) (xs 2) (xs 3) mem0 hI
      rw [e1, e2, e3, rs_n (by omega) (by omega), rs_n (by omega) (by omega), rs_n (by omega) (by omega), h1, cal_n, rs_n (by omega) (by omega), rs_n (by omega) (by omega), rs_n (by omega) (by omega), h2, cal_n, if_pos rfl, e6]
      exact go _
    rw [if_neg c5]
    by_cases c6 : v = 6
    · rw [if_pos c6]
      obtain ⟨r, μ1, μ2, h1, h2, h3⟩ := op_loaf (xs 1) (xs 2) mem0 hI
      rw [e1, e2, rs_n (by omega) (by omega), rs_n (by omega) (by omega), h1, cal_n, rs_n (by omega) (by omega), rs_n (by omega) (by omega), h2, cal_n, if_pos rfl, e6]
      exact go _
    rw [if_neg c6]
    by_cases c7 : v = 7
    · rw [if_pos c7]
      obtain ⟨r, r', μ1, μ2, h1, h2, h3, h4⟩ := op_of (xs 1) (xs 2) mem0 hI
      obtain rfl := h4 trivial
      rw [e1, e2, rs_n (by omega) (by omega), rs_n (by omega) (by omega), h1, cal_n, rs_n (by omega) (by omega), rs_n (by omega) (by omega), h2, cal_n, if_pos rfl, e6]
      exact go _
    rw [if_neg c7]
    by_cases c8 : v = 8
    · rw [if_pos c8]
      obtain ⟨r, μ1, μ2, h1, h2, h3⟩ := op_heat (xs 1) (xs 2) (xs 3) mem0 hI
      rw [e1, e2, e3, rs_n (by omega) (by omega), rs_n (by omega) (by omega), rs_n (by omega) (by omega), h1, cal_n, rs_n (by omega) (by omega), rs_n (by omega) (by omega), rs_n (by omega) (by omega), h2, cal_n, if_pos rfl, e6]
      exact go _
    rw [if_neg c8]
    by_cases c9 : v = 9
    · rw [if_pos c9]
      obtain ⟨r, μ1, μ2, h1, h2, h3⟩ := op_price (xs 1) (xs 2) (xs 3) mem0 hI
      rw [e1, e2, e3, rs_n (by omega) (by omega), rs_n (by omega) (by omega), rs_n (by omega) (by omega), h1, cal_n, rs_n (by omega) (by omega), rs_n (by omega) (by omega), rs_n (by omega) (by omega), h2, cal_n, if_pos rfl, e6]
      exact go _
    rw [if_neg c9]
    by_cases c10 : v = 10
    · rw [if_pos c10]
      obtain ⟨r, r', μ1, μ2, h1, h2, h3, h4⟩ := op_at (xs 1) mem0 hI
      obtain rfl := h4 trivial
      rw [e1, rs_n (by omega) (by omega), h1, cal_n, rs_n (by omega) (by omega), h2, cal_n, if_pos rfl, e6]
      exact go _
    rw [if_neg c10]
    by_cases c11 : v = 11
    · rw [if_pos c11]
      obtain ⟨r, μ1, μ2, h1, h2, h3⟩ := op_swap (xs 1) (xs 2) mem0 hI
      rw [e1, e2, rs_n (by omega) (by omega), rs_n (by omega) (by omega), h1, cal_n, rs_n (by omega) (by omega), rs_n (by omega) (by omega), h2, cal_n, if_pos rfl, e6]
      exact go _
    rw [if_neg c11]
    by_cases c12 : v = 12
    · rw [if_pos c12]
      obtain ⟨r, μ1, μ2, h1, h2, h3⟩ := op_rule  mem0 hI
      rw [h1, cal_n, h2, cal_n, if_pos rfl, e6]
      exact go _
    rw [if_neg c12]
    by_cases c13 : v = 13
    · rw [if_pos c13]
      obtain ⟨r, μ1, μ2, h1, h2, h3⟩ := op_use  mem0 hI
      rw [h1, cal_n, h2, cal_n, if_pos rfl, e6]
      exact go _
    rw [if_neg c13]
    by_cases c14 : v = 14
    · rw [if_pos c14]
      obtain ⟨r, μ1, μ2, h1, h2, h3⟩ := op_turn  mem0 hI
      rw [h1, cal_n, h2, cal_n, if_pos rfl, e6]
      exact go _
    rw [if_neg c14]
    by_cases c15 : v = 15
    · rw [if_pos c15]
      obtain ⟨r, μ1, μ2, h1, h2, h3⟩ := op_undo  mem0 hI
      rw [h1, cal_n, h2, cal_n, if_pos rfl, e6]
      exact go _
    rw [if_neg c15]
    by_cases c16 : v = 16
    · rw [if_pos c16]
      obtain ⟨r, r', μ1, μ2, h1, h2, h3, h4⟩ := op_day (xs 1) (xs 2) mem0 hI
      obtain rfl := h4 trivial
      rw [e1, e2, rs_n (by omega) (by omega), rs_n (by omega) (by omega), h1, cal_n, rs_n (by omega) (by omega), rs_n (by omega) (by omega), h2, cal_n, if_pos rfl, e6]
      exact go _
    rw [if_neg c16]
    by_cases c17 : v = 17
    · rw [if_pos c17]
      obtain ⟨r, r', μ1, μ2, h1, h2, h3, h4⟩ := op_moment (xs 1) (xs 2) (xs 3) (xs 4) mem0 hI
      obtain rfl := h4 trivial
      rw [e1, e2, e3, e4, rs_n (by omega) (by omega), rs_n (by omega) (by omega), rs_n (by omega) (by omega), rs_n (by omega) (by omega), h1, cal_n, rs_n (by omega) (by omega), rs_n (by omega) (by omega), rs_n (by omega) (by omega), rs_n (by omega) (by omega), h2, cal_n, if_pos rfl, e6]
      exact go _
    rw [if_neg c17]
    by_cases c18 : v = 18
    · rw [if_pos c18]
      obtain ⟨r, r', μ1, μ2, h1, h2, h3, h4⟩ := op_idle (xs 1) (xs 2) mem0 hI
      obtain rfl := h4 trivial
      rw [e1, e2, rs_n (by omega) (by omega), rs_n (by omega) (by omega), h1, cal_n, rs_n (by omega) (by omega), rs_n (by omega) (by omega), h2, cal_n, if_pos rfl, e6]
      exact go _
    rw [if_neg c18]
    by_cases c19 : v = 19
    · rw [if_pos c19]
      obtain ⟨r, μ1, μ2, h1, h2, h3⟩ := op_bound  mem0 hI
      rw [h1, cal_n, h2, cal_n, if_pos rfl, e6]
      exact go _
    rw [if_neg c19]
    by_cases c20 : v = 20
    · rw [if_pos c20]
      obtain ⟨r, μ1, μ2, h1, h2, h3⟩ := op_least (xs 1) (xs 2) mem0 hI
      rw [e1, e2, rs_n (by omega) (by omega), rs_n (by omega) (by omega), h1, cal_n, rs_n (by omega) (by omega), rs_n (by omega) (by omega), h2, cal_n, if_pos rfl, e6]
      exact go _
    rw [if_neg c20]
    by_cases c21 : v = 21
    · rw [if_pos c21]
      obtain ⟨r, r', μ1, μ2, h1, h2, h3, h4⟩ := op_second (xs 1) (xs 2) mem0 hI
      obtain rfl := h4 trivial
      rw [e1, e2, rs_n (by omega) (by omega), rs_n (by omega) (by omega), h1, cal_n, rs_n (by omega) (by omega), rs_n (by omega) (by omega), h2, cal_n, if_pos rfl, e6]
      exact go _
    rw [if_neg c21]
    by_cases c22 : v = 22
    · rw [if_pos c22]
      obtain ⟨r, r', μ1, μ2, h1, h2, h3, h4⟩ := better_at (xs 1) (xs 2) hI (fun _ => Or.inl rfl)
      obtain rfl := h4 trivial
      rw [e1, e2, rs_n (by omega) (by omega), rs_n (by omega) (by omega), h1, cal_n, rs_n (by omega) (by omega), rs_n (by omega) (by omega), h2, cal_n, if_pos rfl, e6]
      exact go _
    rw [if_neg c22]
    by_cases c23 : v = 23
    · rw [if_pos c23]
      obtain ⟨r, μ1, μ2, h1, h2, h3⟩ := op_best (xs 1) mem0 hI
      rw [e1, rs_n (by omega) (by omega), h1, cal_n, rs_n (by omega) (by omega), h2, cal_n, if_pos rfl, e6]
      exact go _
    rw [if_neg c23]
    by_cases c24 : v = 24
    · rw [if_pos c24]
      obtain ⟨r, μ1, μ2, h1, h2, h3⟩ := op_rings (xs 1) mem0 hI
      rw [e1, rs_n (by omega) (by omega), h1, cal_n, rs_n (by omega) (by omega), h2, cal_n, if_pos rfl, e6]
      exact go _
    rw [if_neg c24]
    by_cases c25 : v = 25
    · rw [if_pos c25]
      obtain ⟨r, r', μ1, μ2, h1, h2, h3, h4⟩ := op_cost  mem0 hI
      obtain rfl := h4 trivial
      rw [h1, cal_n, h2, cal_n, if_pos rfl, e6]
      exact go _
    rw [if_neg c25]
    by_cases c26 : v = 26
    · rw [if_pos c26]
      obtain ⟨r, μ1, μ2, h1, h2, h3⟩ := op_round  mem0 hI
      rw [h1, cal_n, h2, cal_n, if_pos rfl, e6]
      exact go _
    rw [if_neg c26]
    by_cases c27 : v = 27
    · rw [if_pos c27]
      obtain ⟨r, μ1, μ2, h1, h2, h3⟩ := op_through  mem0 hI
      rw [h1, cal_n, h2, cal_n, if_pos rfl, e6]
      exact go _
    rw [if_neg c27]
    by_cases c28 : v = 28
    · rw [if_pos c28]
      obtain ⟨r, μ1, μ2, h1, h2, h3⟩ := op_batches (xs 1) mem0 hI
      rw [e1, rs_n (by omega) (by omega), h1, cal_n, rs_n (by omega) (by omega), h2, cal_n, if_pos rfl, e6]
      exact go _
    rw [if_neg c28]
    by_cases c29 : v = 29
    · rw [if_pos c29]
      obtain ⟨r, μ1, μ2, h1, h2, h3⟩ := op_count (xs 1) mem0 hI
      rw [e1, rs_n (by omega) (by omega), h1, cal_n, rs_n (by omega) (by omega), h2, cal_n, if_pos rfl, e6]
      exact go _
    rw [if_neg c29]
    by_cases c30 : v = 30
    · rw [if_pos c30]
      obtain ⟨r, r', μ1, μ2, h1, h2, h3, h4⟩ := op_digest mem0 hI
      obtain rfl := h4 trivial
      rw [h1, cal_n, h2, cal_n, if_pos rfl, e6]
      exact go _
    rw [if_neg c30]
    rw [e6]
    exact go _
