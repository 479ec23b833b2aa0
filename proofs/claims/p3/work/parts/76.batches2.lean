variable {wq : Prop}
theorem m_bt_in {F i y : Nat} {b : Nat → Nat} {μ : Mem} (hi : i < 40) (hb : μ 96 i = nI (b i)) (lb : b i ≤ 100000) (rec17 : Int32 → Int32 → Mem → Option (Int32 × Mem)) : ∀ (j n : Nat) (g : Nat → Int32), j ≤ i → j < n → (∀ p, p < j → ∃ w, w ≤ 100000 ∧ g p = nI w) → fX9_batches_29 F rec17 n (nI y) (nI i) (nI j) (upM μ 116 g) = rec17 (nI y) (nI (i + 1)) (upM μ 116 (shI (fun v => decide (v < b i)) (nI (b i)) j g)) := by
  have l96 : i < ln 96 := by show i < 240; omega
  intro j
  induction j with
  | zero =>
    intro n g hj hn hg
    obtain ⟨n, rfl⟩ : ∃ n', n = n' + 1 := ⟨n - 1, by omega⟩
    show fX9_batches_29_b F rec17 _ _ _ _ _ = _
    unfold fX9_batches_29_b fX9_batches_70
    rw [if_pos (show nI 0 ≤ 0 by decide), rd_n l96, upM_ne (by omega), hb, wr_n (by decide), nI_add1, upM_upM, upM_self]
    rfl
  | succ j ih =>
    intro n g hj hn hg
    obtain ⟨n, rfl⟩ : ∃ n', n = n' + 1 := ⟨n - 1, by omega⟩
    obtain ⟨w, hw, ew⟩ := hg j (by omega)
    have e : shI (fun v => decide (v < b i)) (nI (b i)) (j + 1) g = if w < b i then shI (fun v => decide (v < b i)) (nI (b i)) j (upd g (j + 1) (g j)) else upd g (j + 1) (nI (b i)) := by
      show (if decide (tn (g j) < b i) = true then _ else _) = _
      rw [ew, tn_n (by omega)]
      by_cases c : w < b i
      · rw [if_pos (decide_eq_true c), if_pos c]
      · rw [if_neg (fun q => c (of_decide_eq_true q)), if_neg c]
    show fX9_batches_29_b F rec17 _ _ _ _ _ = _
    unfold fX9_batches_29_b fX9_batches_70
    rw [show (0 : Int32) = nI 0 from rfl, if_neg (nI_ge (by omega) (by omega)), show (1 : Int32) = nI 1 from rfl, nI_sub (by omega), show j + 1 - 1 = j by omega, rd_n (by show j < 40; omega), upM_self, ew, rd_n l96, upM_ne (by omega), hb, ifle (by omega) (by omega), e]
    by_cases c : w < b i
    · rw [if_neg (by omega), if_pos c, rd_n (by show j < 40; omega), upM_self, ew, wr_n (by show j + 1 < 40; omega), upM_upM, upM_self, show nI (j + 1) + -nI 1 = nI j from nI_addm1 j]
      exact ih n _ (by omega) (by omega) (fun p hp => by rw [upd_ne (by omega)]; exact hg p (by omega))
    · rw [if_pos (by omega), if_neg c, rd_n l96, upM_ne (by omega), hb, wr_n (by show j + 1 < 40; omega), upM_upM, upM_self, show nI i + nI 1 = nI (i + 1) from nI_add1 i]
theorem m_bt_loop {N y : Nat} {b : Nat → Nat} {f : Nat → Int32} {μ : Mem} (hN : N ≤ 40) (h : μ 94 0 = nI N) (hb : ∀ s, s < N → b s ≤ 100000 ∧ μ 96 s = nI (b s)) : ∀ (d n i : Nat), i + d = N → d < n → fX9_batches_17 FF n (nI y) (nI i) (upM μ 116 (dsc b (μ 116) i)) = fX9_batches_92 FF FF (nI y) 0 0 (upM μ 116 (dsc b (μ 116) N)) := by
  intro d
  induction d with
  | zero =>
    intro n i hi hn
    obtain ⟨n, rfl⟩ : ∃ n', n = n' + 1 := ⟨n - 1, by omega⟩
    show fX9_batches_17_b FF _ _ _ _ = _
    unfold fX9_batches_17_b
    rw [show (0 : Int32) = nI 0 from rfl, rd_n (by decide), upM_ne (by omega), h, if_pos (nI_le (by omega) (by omega)), show i = N by omega]
  | succ d ih =>
    intro n i hi hn
    obtain ⟨n, rfl⟩ : ∃ n', n = n' + 1 := ⟨n - 1, by omega⟩
    obtain ⟨σ, s1, s2, s3⟩ := up_down (b := b) (f := μ 96) (g := f) (g' := μ 116) hN hb i (by omega)
    show fX9_batches_17_b FF _ _ _ _ = _
    unfold fX9_batches_17_b
    rw [show (0 : Int32) = nI 0 from rfl, rd_n (by decide), upM_ne (by omega), h, if_neg (nI_ge (by omega) (by omega)), m_bt_in (b := b) (by omega) (hb i (by omega)).2 (hb i (by omega)).1 _ i FF _ (by omega) (by rw [FF_e]; omega) (fun p hp => ⟨_, (hb (σ (i - 1 - p)) (by have := (s1 (i - 1 - p) (by omega)).1; omega)).1, s3 p hp⟩)]
    exact ih n (i + 1) (by omega) (by omega)
theorem bt_sum {N y : Nat} {μ μ' : Mem} {b : Nat → Nat} {σ : Nat → Nat} (hN : N ≤ 40) (hy : 1 ≤ y) (hy4 : y ≤ 40) (h94 : μ' 94 0 = nI N) (hσ : ∀ p, p < N → σ p < N ∧ μ 79 p = nI (σ p)) (hb : ∀ s, s < N → μ 11 s = nI (b s)) (hd : ∀ p, p < N → μ' 116 p = nI (b (σ (N - 1 - p)))) : ∀ (d n n' p : Nat) (acc c : Int32), N ≤ p + d → d < n → d < n' → p ≤ N + 40 → c.toInt = (N : Int) - 1 - p → ∃ R, fX8_batches_47 FF n (nI y) acc c μ = some (R, μ) ∧ fX9_batches_92 FF n' (nI y) acc (nI p) μ' = some (R, μ') := by
  intro d
  induction d with
  | zero =>
    intro n n' p acc c hp hn hn' hp2 hc
    obtain ⟨n, rfl⟩ : ∃ n', n = n' + 1 := ⟨n - 1, by omega⟩
    obtain ⟨n', rfl⟩ : ∃ q, n' = q + 1 := ⟨n' - 1, by omega⟩
    refine ⟨acc, ?_, ?_⟩
    · show fX8_batches_47_b FF _ _ _ _ _ = _
      unfold fX8_batches_47_b
      rw [if_pos (by rw [Int32.lt_iff_toInt_lt, hc, toInt_0]; omega)]
    · show fX9_batches_92_b FF _ _ _ _ _ = _
      unfold fX9_batches_92_b
      rw [show (0 : Int32) = nI 0 from rfl, rd_n (by decide), h94, if_pos (nI_le (by omega) (by omega))]
  | succ d ih =>
    intro n n' p acc c hp hn hn' hp2 hc
    by_cases hlt : N ≤ p
    · obtain ⟨n, rfl⟩ : ∃ n', n = n' + 1 := ⟨n - 1, by omega⟩
      obtain ⟨n', rfl⟩ : ∃ q, n' = q + 1 := ⟨n' - 1, by omega⟩
      refine ⟨acc, ?_, ?_⟩
      · show fX8_batches_47_b FF _ _ _ _ _ = _
        unfold fX8_batches_47_b
        rw [if_pos (by rw [Int32.lt_iff_toInt_lt, hc, toInt_0]; omega)]
      · show fX9_batches_92_b FF _ _ _ _ _ = _
        unfold fX9_batches_92_b
        rw [show (0 : Int32) = nI 0 from rfl, rd_n (by decide), h94, if_pos (nI_le (by omega) (by omega))]
    · obtain ⟨n, rfl⟩ : ∃ n', n = n' + 1 := ⟨n - 1, by omega⟩
      obtain ⟨n', rfl⟩ : ∃ q, n' = q + 1 := ⟨n' - 1, by omega⟩
      obtain rfl : c = nI (N - 1 - p) := of_toInt (by omega) (by omega)
      have ey : (nI y).toInt = y := nI_toInt (by omega)
      obtain ⟨t1, t2⟩ := hσ (N - 1 - p) (by omega)
      obtain ⟨R, e1, e2⟩ := ih n n' (p + y) (acc + nI (b (σ (N - 1 - p)))) (nI (N - 1 - p) - nI y) (by omega) (by omega) (by omega) (by omega) (by rw [sub_toInt (by omega) (by omega), ey, hc]; omega)
      refine ⟨R, ?_, ?_⟩
      · show fX8_batches_47_b FF _ _ _ _ _ = _
        unfold fX8_batches_47_b
        rw [if_neg (nI_pos (by omega)), rd_n (by show N - 1 - p < 40; omega), t2, rd_n (by show σ (N - 1 - p) < 40; omega), hb _ t1]
        exact e1
      · show fX9_batches_92_b FF _ _ _ _ _ = _
        unfold fX9_batches_92_b
        rw [show (0 : Int32) = nI 0 from rfl, rd_n (by decide), h94, if_neg (nI_ge (by omega) (by omega)), rd_n (by show p < 40; omega), hd p (by omega), nI_add]
        exact e2
theorem op_batches (a : Int32) : Op wq (fX8_batches FF a) (fX9_batches FF a) := by
  intro μ hI
  obtain ⟨N, hL⟩ := hI.2.1
  have h9 : μ 9 6 = nI N := hL.2.1
  have h94 : μ 94 0 = nI N := hL.2.2.1
  have hN := hL.1
  by_cases ha : 1 ≤ a.toInt ∧ a.toInt ≤ 40
  rotate_left
  · refine ⟨-2, μ, μ, ?_, ?_, hI⟩
    · unfold fX8_batches
      by_cases q : a < 1
      · rw [if_pos q]
      · rw [if_neg q, if_neg]
        rw [Int32.lt_iff_toInt_lt, toInt_1] at q
        rw [Int32.le_iff_toInt_le, show (40 : Int32).toInt = 40 from rfl]
        omega
    · unfold fX9_batches
      rw [m_in_g (la := 1) (lb := 40) rfl rfl, if_neg ha, cal_n, if_pos rfl]
  obtain ⟨y, hy⟩ : ∃ y : Nat, a.toInt = y := ⟨a.toInt.toNat, by omega⟩
  obtain rfl : a = nI y := of_toInt hy (by omega)
  have y1 : 1 ≤ y := by omega
  have y40 : y ≤ 40 := by omega
  have hb : ∀ s, s < N → (tn (μ 11 s)) ≤ 100000 ∧ μ 11 s = nI (tn (μ 11 s)) := fun s hs => by
    obtain ⟨x, hx, e⟩ := (hL.oks.1 s hs).2.1
    rw [e, tn_n (by omega)]
    exact ⟨hx, rfl⟩
  have hb' : ∀ s, s < N → (tn (μ 11 s)) ≤ 100000 ∧ μ 96 s = nI (tn (μ 11 s)) := fun s hs => by
    rw [← (hL.eqs hs).2.1]
    exact hb s hs
  obtain ⟨μ1, hμ1⟩ : ∃ μ1, μ1 = upM μ 79 (srI (gtK (μ 11)) (μ 79) N) := ⟨_, rfl⟩
  have c1 : fX8_rank FF 11 (nI N) 79 μ = some μ1 := by rw [hμ1]; exact c_rank (by omega) (by show N ≤ 40; omega) (by show N ≤ 40; omega)
  have k1 : ∀ k, k ≠ 79 → μ1 k = μ k := fun k hk => by rw [hμ1, upM_ne hk]
  obtain ⟨σ, s1, s2, s3⟩ := up_down (b := fun s => tn (μ 11 s)) (f := μ 11) (g := μ 79) (g' := μ1 116) hN hb N (by omega)
  obtain ⟨μ2, hμ2⟩ : ∃ μ2, μ2 = upM μ1 116 (dsc (fun s => tn (μ 11 s)) (μ1 116) N) := ⟨_, rfl⟩
  have ml := m_bt_loop (N := N) (y := y) (b := fun s => tn (μ 11 s)) (f := μ 79) (μ := μ1) hN (by rw [k1 94 (by omega)]; exact h94) (fun s hs => by rw [k1 96 (by omega)]; exact hb' s hs) N FF 0 (by omega) (by rw [FF_e]; omega)
  rw [show dsc (fun s => tn (μ 11 s)) (μ1 116) 0 = μ1 116 from rfl, upM_id, ← hμ2] at ml
  have e1 : (1 : Int32) = nI 1 := rfl
  have ec : (nI N - 1).toInt = (N : Int) - 1 - (0 : Nat) := by
    have en : (nI N).toInt = N := nI_toInt (by omega)
    rw [sub_toInt (by rw [en, toInt_1]; omega) (by rw [en, toInt_1]; omega), en, toInt_1]
    omega
  obtain ⟨R, r1, r2⟩ := bt_sum (N := N) (y := y) (μ := μ1) (μ' := μ2) (b := fun s => tn (μ 11 s)) (σ := σ) hN y1 y40 (by rw [hμ2, upM_ne (by omega), k1 94 (by omega)]; exact h94) (fun p hp => ⟨(s1 p hp).1, by rw [hμ1, upM_self]; exact (s1 p hp).2⟩) (fun s hs => by rw [k1 11 (by omega)]; exact (hb s hs).2) (fun p hp => by rw [hμ2, upM_self]; exact s3 p hp) N FF FF 0 0 (nI N - 1) (by omega) (by rw [FF_e]; omega) (by rw [FF_e]; omega) (by omega) ec
  have hp : (1 : Int) ≤ (nI y).toInt ∧ (nI y).toInt ≤ 40 := ha
  refine ⟨R, μ1, μ2, ?_, ?_, ?_⟩
  · unfold fX8_batches
    rw [if_neg (show ¬ nI y < (1 : Int32) from fun q => absurd ((nI_ltI (a := y) (b := 1) (by omega) (by omega)).mp q) (by omega)), if_pos (show nI y ≤ (40 : Int32) from nI_le (b := 40) (by omega) (by omega)), h9, c1, cav_n, k1 9 (by omega), h9]
    exact r1
  · unfold fX9_batches
    rw [m_in_g (la := 1) (lb := 40) rfl rfl, if_pos hp, cal_n, if_neg one_ne]
    exact ml.trans r2
  · have g : Ag [79, 116] [] μ μ2 := by
      rw [hμ2, hμ1]
      exact (Ag.up (by decide) (by decide)).tr (Ag.up (by decide) (by decide))
    obtain ⟨i1, i2, i3, i4, i5, i6⟩ := hI
    exact ⟨i1.ag g, i2.ag g, i3.ag g, i4.ag g (by rw [g.at 9]), i5.ag g, i6.ag g⟩
