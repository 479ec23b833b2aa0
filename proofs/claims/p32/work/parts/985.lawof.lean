/-! the law holds, if each op does -/
variable {wq : Prop}
set_option maxHeartbeats 8000000 in
set_option maxRecDepth 100000 in
theorem law_loop (o0 : ∀ a b c : Int32, Op wq (fX8_sheet FF a b c) (fX9_sheet FF a b c)) (o1 : ∀ a : Int32, Op wq (fX8_lose FF a) (fX9_lose FF a)) (o2 : ∀ a b c d : Int32, Op wq (fX8_put FF a b c d) (fX9_put FF a b c d)) (o3 : ∀ a b c : Int32, Op wq (fX8_get FF a b c) (fX9_get FF a b c)) (o4 : ∀ a b c d e : Int32, Op wq (fX8_copy FF a b c d e) (fX9_copy FF a b c d e)) (o5 : ∀ a b c : Int32, Op wq (fX8_take FF a b c) (fX9_take FF a b c)) (o6 : ∀ a b : Int32, Op wq (fX8_loaf FF a b) (fX9_loaf FF a b)) (o7 : ∀ a b : Int32, OpW wq (fX8_of FF a b) (fX9_of FF a b)) (o8 : ∀ a b c : Int32, Op wq (fX8_heat FF a b c) (fX9_heat FF a b c)) (o9 : ∀ a b c : Int32, Op wq (fX8_price FF a b c) (fX9_price FF a b c)) (o10 : ∀ a : Int32, OpW wq (fX8_at FF a) (fX9_at FF a)) (o11 : ∀ a b : Int32, Op wq (fX8_swap FF a b) (fX9_swap FF a b)) (o12 : Op wq (fX8_rule FF ) (fX9_rule FF )) (o13 : Op wq (fX8_use FF ) (fX9_use FF )) (o14 : Op wq (fX8_turn FF ) (fX9_turn FF )) (o15 : Op wq (fX8_undo FF ) (fX9_undo FF )) (o16 : ∀ a b : Int32, OpW wq (fX8_day FF a b) (fX9_day FF a b)) (o17 : ∀ a b c d : Int32, OpW wq (fX8_moment FF a b c d) (fX9_moment FF a b c d)) (o18 : ∀ a b : Int32, OpW wq (fX8_idle FF a b) (fX9_idle FF a b)) (o19 : Op wq (fX8_bound FF ) (fX9_bound FF )) (o20 : ∀ a b : Int32, Op wq (fX8_least FF a b) (fX9_least FF a b)) (o21 : ∀ a b : Int32, OpW wq (fX8_second FF a b) (fX9_second FF a b)) (o22 : ∀ a b : Int32, OpW wq (fX8_better FF a b) (fX9_better FF a b)) (o23 : ∀ a : Int32, Op wq (fX8_best FF a) (fX9_best FF a)) (o24 : ∀ a : Int32, Op wq (fX8_rings FF a) (fX9_rings FF a)) (o25 : OpW wq (fX8_cost FF ) (fX9_cost FF )) (o26 : Op wq (fX8_round FF ) (fX9_round FF )) (o27 : Op wq (fX8_through FF ) (fX9_through FF )) (o28 : ∀ a : Int32, Op wq (fX8_batches FF a) (fX9_batches FF a)) (o29 : ∀ a : Int32, Op wq (fX8_count FF a) (fX9_count FF a)) (o30 : ∀ μ, Inv wq μ → ∃ (r : Int64) (μ1 μ2 : Mem), fX8_digest FF μ = some (r, μ1) ∧ fX9_digest FF μ1 = some (r, μ2) ∧ Inv wq μ2) {xs : Nat → Int32} {L : Nat} (hL : L ≤ 3072) : ∀ (n y : Nat) (μ : Mem), y ≤ L + 6 → L < y + 6 * n → 0 < n → Inv wq μ → fL_law FF xs L n (nI y) μ = some () := by
  intro n
  induction n with
  | zero => intro y μ _ _ h0; omega
  | succ n ih =>
    intro y μ hy hn _ hI
    show fL_law_b FF xs L (fL_law FF xs L n) (nI y) μ = some ()
    unfold fL_law_b
    have hcond : (Int32.ofNat L - 6 < nI y) ↔ L < y + 6 := by
      have e : (Int32.ofNat L - 6).toInt = (L : Int) - 6 := pk_sub_toInt (a := L) (b := 6) (by omega) (by omega)
      rw [Int32.lt_iff_toInt_lt, e, nI_toInt (by omega)]
      omega
    by_cases hc : L < y + 6
    · rw [if_pos (hcond.mpr hc)]
    · rw [if_neg (fun q => hc (hcond.mp q)), rs_n (by omega) hL]
      have e1 : nI y + 1 = nI (y + 1) := nI_add y 1
      have e2 : nI y + 2 = nI (y + 2) := nI_add y 2
      have e3 : nI y + 3 = nI (y + 3) := nI_add y 3
      have e4 : nI y + 4 = nI (y + 4) := nI_add y 4
      have e5 : nI y + 5 = nI (y + 5) := nI_add y 5
      have e6 : nI y + 6 = nI (y + 6) := nI_add y 6
      have go : ∀ μ2, Inv wq μ2 → fL_law FF xs L n (nI (y + 6)) μ2 = some () := fun μ2 h2 => ih (y + 6) μ2 (by omega) (by omega) (by omega) h2
      generalize xs y &&& 31 = v
      by_cases c0 : v = 0
      · rw [if_pos c0]
        obtain ⟨r, μ1, μ2, h1, h2, h3⟩ := o0 (xs (y + 1)) (xs (y + 2)) (xs (y + 3)) μ hI
        rw [e1, e2, e3, rs_n (by omega) hL, rs_n (by omega) hL, rs_n (by omega) hL, h1, cal_n, rs_n (by omega) hL, rs_n (by omega) hL, rs_n (by omega) hL, h2, cal_n, e6]
        exact go _ h3
      rw [if_neg c0]
      by_cases c1 : v = 1
      · rw [if_pos c1]
        obtain ⟨r, μ1, μ2, h1, h2, h3⟩ := o1 (xs (y + 1)) μ hI
        rw [e1, rs_n (by omega) hL, h1, cal_n, rs_n (by omega) hL, h2, cal_n, e6]
        exact go _ h3
      rw [if_neg c1]
      by_cases c2 : v = 2
      · rw [if_pos c2]
        obtain ⟨r, μ1, μ2, h1, h2, h3⟩ := o2 (xs (y + 1)) (xs (y + 2)) (xs (y + 3)) (xs (y + 4)) μ hI
        rw [e1, e2, e3, e4, rs_n (by omega) hL, rs_n (by omega) hL, rs_n (by omega) hL, rs_n (by omega) hL, h1, cal_n, rs_n (by omega) hL, rs_n (by omega) hL, rs_n (by omega) hL, rs_n (by omega) hL, h2, cal_n, e6]
        exact go _ h3
      rw [if_neg c2]
      by_cases c3 : v = 3
      · rw [if_pos c3]
        obtain ⟨r, μ1, μ2, h1, h2, h3⟩ := o3 (xs (y + 1)) (xs (y + 2)) (xs (y + 3)) μ hI
        rw [e1, e2, e3, rs_n (by omega) hL, rs_n (by omega) hL, rs_n (by omega) hL, h1, cal_n, rs_n (by omega) hL, rs_n (by omega) hL, rs_n (by omega) hL, h2, cal_n, e6]
        exact go _ h3
      rw [if_neg c3]
      by_cases c4 : v = 4
      · rw [if_pos c4]
        obtain ⟨r, μ1, μ2, h1, h2, h3⟩ := o4 (xs (y + 1)) (xs (y + 2)) (xs (y + 3)) (xs (y + 4)) (xs (y + 5)) μ hI
        rw [e1, e2, e3, e4, e5, rs_n (by omega) hL, rs_n (by omega) hL, rs_n (by omega) hL, rs_n (by omega) hL, rs_n (by omega) hL, h1, cal_n, rs_n (by omega) hL, rs_n (by omega) hL, rs_n (by omega) hL, rs_n (by omega) hL, rs_n (by omega) hL, h2, cal_n, e6]
        exact go _ h3
      rw [if_neg c4]
      by_cases c5 : v = 5
      · rw [if_pos c5]
        obtain ⟨r, μ1, μ2, h1, h2, h3⟩ := o5 (xs (y + 1)) (xs (y + 2)) (xs (y + 3)) μ hI
        rw [e1, e2, e3, rs_n (by omega) hL, rs_n (by omega) hL, rs_n (by omega) hL, h1, cal_n, rs_n (by omega) hL, rs_n (by omega) hL, rs_n (by omega) hL, h2, cal_n, e6]
        exact go _ h3
      rw [if_neg c5]
      by_cases c6 : v = 6
      · rw [if_pos c6]
        obtain ⟨r, μ1, μ2, h1, h2, h3⟩ := o6 (xs (y + 1)) (xs (y + 2)) μ hI
        rw [e1, e2, rs_n (by omega) hL, rs_n (by omega) hL, h1, cal_n, rs_n (by omega) hL, rs_n (by omega) hL, h2, cal_n, e6]
        exact go _ h3
      rw [if_neg c6]
      by_cases c7 : v = 7
      · rw [if_pos c7]
        obtain ⟨r, r', μ1, μ2, h1, h2, h3, -⟩ := o7 (xs (y + 1)) (xs (y + 2)) μ hI
        rw [e1, e2, rs_n (by omega) hL, rs_n (by omega) hL, h1, cal_n, rs_n (by omega) hL, rs_n (by omega) hL, h2, cal_n, e6]
        exact go _ h3
      rw [if_neg c7]
      by_cases c8 : v = 8
      · rw [if_pos c8]
        obtain ⟨r, μ1, μ2, h1, h2, h3⟩ := o8 (xs (y + 1)) (xs (y + 2)) (xs (y + 3)) μ hI
        rw [e1, e2, e3, rs_n (by omega) hL, rs_n (by omega) hL, rs_n (by omega) hL, h1, cal_n, rs_n (by omega) hL, rs_n (by omega) hL, rs_n (by omega) hL, h2, cal_n, e6]
        exact go _ h3
      rw [if_neg c8]
      by_cases c9 : v = 9
      · rw [if_pos c9]
        obtain ⟨r, μ1, μ2, h1, h2, h3⟩ := o9 (xs (y + 1)) (xs (y + 2)) (xs (y + 3)) μ hI
        rw [e1, e2, e3, rs_n (by omega) hL, rs_n (by omega) hL, rs_n (by omega) hL, h1, cal_n, rs_n (by omega) hL, rs_n (by omega) hL, rs_n (by omega) hL, h2, cal_n, e6]
        exact go _ h3
      rw [if_neg c9]
      by_cases c10 : v = 10
      · rw [if_pos c10]
        obtain ⟨r, r', μ1, μ2, h1, h2, h3, -⟩ := o10 (xs (y + 1)) μ hI
        rw [e1, rs_n (by omega) hL, h1, cal_n, rs_n (by omega) hL, h2, cal_n, e6]
        exact go _ h3
      rw [if_neg c10]
      by_cases c11 : v = 11
      · rw [if_pos c11]
        obtain ⟨r, μ1, μ2, h1, h2, h3⟩ := o11 (xs (y + 1)) (xs (y + 2)) μ hI
        rw [e1, e2, rs_n (by omega) hL, rs_n (by omega) hL, h1, cal_n, rs_n (by omega) hL, rs_n (by omega) hL, h2, cal_n, e6]
        exact go _ h3
      rw [if_neg c11]
      by_cases c12 : v = 12
      · rw [if_pos c12]
        obtain ⟨r, μ1, μ2, h1, h2, h3⟩ := o12  μ hI
        rw [h1, cal_n, h2, cal_n, e6]
        exact go _ h3
      rw [if_neg c12]
      by_cases c13 : v = 13
      · rw [if_pos c13]
        obtain ⟨r, μ1, μ2, h1, h2, h3⟩ := o13  μ hI
        rw [h1, cal_n, h2, cal_n, e6]
        exact go _ h3
      rw [if_neg c13]
      by_cases c14 : v = 14
      · rw [if_pos c14]
        obtain ⟨r, μ1, μ2, h1, h2, h3⟩ := o14  μ hI
        rw [h1, cal_n, h2, cal_n, e6]
        exact go _ h3
      rw [if_neg c14]
      by_cases c15 : v = 15
      · rw [if_pos c15]
        obtain ⟨r, μ1, μ2, h1, h2, h3⟩ := o15  μ hI
        rw [h1, cal_n, h2, cal_n, e6]
        exact go _ h3
      rw [if_neg c15]
      by_cases c16 : v = 16
      · rw [if_pos c16]
        obtain ⟨r, r', μ1, μ2, h1, h2, h3, -⟩ := o16 (xs (y + 1)) (xs (y + 2)) μ hI
        rw [e1, e2, rs_n (by omega) hL, rs_n (by omega) hL, h1, cal_n, rs_n (by omega) hL, rs_n (by omega) hL, h2, cal_n, e6]
        exact go _ h3
      rw [if_neg c16]
      by_cases c17 : v = 17
      · rw [if_pos c17]
        obtain ⟨r, r', μ1, μ2, h1, h2, h3, -⟩ := o17 (xs (y + 1)) (xs (y + 2)) (xs (y + 3)) (xs (y + 4)) μ hI
        rw [e1, e2, e3, e4, rs_n (by omega) hL, rs_n (by omega) hL, rs_n (by omega) hL, rs_n (by omega) hL, h1, cal_n, rs_n (by omega) hL, rs_n (by omega) hL, rs_n (by omega) hL, rs_n (by omega) hL, h2, cal_n, e6]
        exact go _ h3
      rw [if_neg c17]
      by_cases c18 : v = 18
      · rw [if_pos c18]
        obtain ⟨r, r', μ1, μ2, h1, h2, h3, -⟩ := o18 (xs (y + 1)) (xs (y + 2)) μ hI
        rw [e1, e2, rs_n (by omega) hL, rs_n (by omega) hL, h1, cal_n, rs_n (by omega) hL, rs_n (by omega) hL, h2, cal_n, e6]
        exact go _ h3
      rw [if_neg c18]
      by_cases c19 : v = 19
      · rw [if_pos c19]
        obtain ⟨r, μ1, μ2, h1, h2, h3⟩ := o19  μ hI
        rw [h1, cal_n, h2, cal_n, e6]
        exact go _ h3
      rw [if_neg c19]
      by_cases c20 : v = 20
      · rw [if_pos c20]
        obtain ⟨r, μ1, μ2, h1, h2, h3⟩ := o20 (xs (y + 1)) (xs (y + 2)) μ hI
        rw [e1, e2, rs_n (by omega) hL, rs_n (by omega) hL, h1, cal_n, rs_n (by omega) hL, rs_n (by omega) hL, h2, cal_n, e6]
        exact go _ h3
      rw [if_neg c20]
      by_cases c21 : v = 21
      · rw [if_pos c21]
        obtain ⟨r, r', μ1, μ2, h1, h2, h3, -⟩ := o21 (xs (y + 1)) (xs (y + 2)) μ hI
        rw [e1, e2, rs_n (by omega) hL, rs_n (by omega) hL, h1, cal_n, rs_n (by omega) hL, rs_n (by omega) hL, h2, cal_n, e6]
        exact go _ h3
      rw [if_neg c21]
      by_cases c22 : v = 22
      · rw [if_pos c22]
        obtain ⟨r, r', μ1, μ2, h1, h2, h3, -⟩ := o22 (xs (y + 1)) (xs (y + 2)) μ hI
        rw [e1, e2, rs_n (by omega) hL, rs_n (by omega) hL, h1, cal_n, rs_n (by omega) hL, rs_n (by omega) hL, h2, cal_n, e6]
        exact go _ h3
      rw [if_neg c22]
      by_cases c23 : v = 23
      · rw [if_pos c23]
        obtain ⟨r, μ1, μ2, h1, h2, h3⟩ := o23 (xs (y + 1)) μ hI
        rw [e1, rs_n (by omega) hL, h1, cal_n, rs_n (by omega) hL, h2, cal_n, e6]
        exact go _ h3
      rw [if_neg c23]
      by_cases c24 : v = 24
      · rw [if_pos c24]
        obtain ⟨r, μ1, μ2, h1, h2, h3⟩ := o24 (xs (y + 1)) μ hI
        rw [e1, rs_n (by omega) hL, h1, cal_n, rs_n (by omega) hL, h2, cal_n, e6]
        exact go _ h3
      rw [if_neg c24]
      by_cases c25 : v = 25
      · rw [if_pos c25]
        obtain ⟨r, r', μ1, μ2, h1, h2, h3, -⟩ := o25  μ hI
        rw [h1, cal_n, h2, cal_n, e6]
        exact go _ h3
      rw [if_neg c25]
      by_cases c26 : v = 26
      · rw [if_pos c26]
        obtain ⟨r, μ1, μ2, h1, h2, h3⟩ := o26  μ hI
        rw [h1, cal_n, h2, cal_n, e6]
        exact go _ h3
      rw [if_neg c26]
      by_cases c27 : v = 27
      · rw [if_pos c27]
        obtain ⟨r, μ1, μ2, h1, h2, h3⟩ := o27  μ hI
        rw [h1, cal_n, h2, cal_n, e6]
        exact go _ h3
      rw [if_neg c27]
      by_cases c28 : v = 28
      · rw [if_pos c28]
        obtain ⟨r, μ1, μ2, h1, h2, h3⟩ := o28 (xs (y + 1)) μ hI
        rw [e1, rs_n (by omega) hL, h1, cal_n, rs_n (by omega) hL, h2, cal_n, e6]
        exact go _ h3
      rw [if_neg c28]
      by_cases c29 : v = 29
      · rw [if_pos c29]
        obtain ⟨r, μ1, μ2, h1, h2, h3⟩ := o29 (xs (y + 1)) μ hI
        rw [e1, rs_n (by omega) hL, h1, cal_n, rs_n (by omega) hL, h2, cal_n, e6]
        exact go _ h3
      rw [if_neg c29]
      by_cases c30 : v = 30
      · rw [if_pos c30]
        obtain ⟨r, μ1, μ2, h1, h2, h3⟩ := o30  μ hI
        rw [h1, cal_n, h2, cal_n, if_pos rfl, e6]
        exact go _ h3
      rw [if_neg c30]
      rw [e6]
      exact go _ hI
theorem law_holds {xs : Nat → Int32} {L : Nat} (hL : L ≤ 3072) : ∃ F n, fL_law F xs L n 0 mem0 = some () := by
  refine ⟨FF, 3079, ?_⟩
  exact law_loop (wq := True) op_sheet op_lose op_put op_get op_copy op_take op_loaf op_of op_heat op_price op_at op_swap op_rule op_use op_turn op_undo op_day op_moment op_idle op_bound op_least op_second op_better op_best op_rings op_cost op_round op_through op_batches op_count (fun μ hI => by
    obtain ⟨r, r', μ1, μ2, d1, d2, d3, d4⟩ := op_digest μ hI
    exact ⟨r, μ1, μ2, d1, by rw [d4 trivial]; exact d2, d3⟩) hL 3079 0 mem0 (by omega) (by omega) (by omega) inv0
