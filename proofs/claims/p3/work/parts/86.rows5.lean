/-! the first row, the question whether it is the order, what is found -/
theorem c_begin {N : Nat} {μ : Mem} (hN : N ≤ 8) : ∃ μ', fX6_begin FF (nI N) μ = some μ' ∧ μ' 71 1 = nI N ∧ (∀ p, p < N → μ' 72 p = nI p) ∧ ∀ k, k ≠ 71 → k ≠ 72 → μ' k = μ k := by
  have loop : ∀ (d n i : Nat) (ν : Mem), i + d = N → d < n → ν 71 1 = nI N → (∀ p, p < i → ν 72 p = nI p) → ∃ μ', fX6_begin_7 FF n (nI i) ν = some μ' ∧ μ' 71 1 = nI N ∧ (∀ p, p < N → μ' 72 p = nI p) ∧ ∀ k, k ≠ 72 → μ' k = ν k := by
    intro d
    induction d with
    | zero =>
      intro n i ν hi hn h1 h2
      obtain ⟨n, rfl⟩ : ∃ n', n = n' + 1 := ⟨n - 1, by omega⟩
      obtain rfl : i = N := by omega
      refine ⟨ν, ?_, h1, h2, fun _ _ => rfl⟩
      show fX6_begin_7_b FF _ _ ν = _
      unfold fX6_begin_7_b
      rw [h1, if_pos (nI_le (by omega) (by omega))]
    | succ d ih =>
      intro n i ν hi hn h1 h2
      obtain ⟨n, rfl⟩ : ∃ n', n = n' + 1 := ⟨n - 1, by omega⟩
      obtain ⟨m2, f2, a2, b2, g2⟩ := wr_x (μ := ν) (k := 72) (i := i) (nI i) (by show i < 8; omega)
      obtain ⟨μ', q1, q2, q3, q4⟩ := ih n (i + 1) m2 (by omega) (by omega) (by rw [g2 71 (by omega)]; exact h1) (fun p hp => by
        by_cases c : p = i
        · rw [c, a2]
        · rw [b2 p c]; exact h2 p (by omega))
      refine ⟨μ', ?_, q2, q3, fun k hk => by rw [q4 k hk, g2 k hk]⟩
      show fX6_begin_7_b FF _ _ ν = _
      unfold fX6_begin_7_b
      rw [h1, if_neg (nI_ge (by omega) (by omega)), f2, nI_add1]
      exact q1
  obtain ⟨μ', q1, q2, q3, q4⟩ := loop N FF 0 (upM μ 71 (upd (μ 71) 1 (nI N))) (by omega) (by rw [FF_e]; omega) (by rw [upM_self, upd_s]) (fun p hp => by omega)
  refine ⟨μ', ?_, q2, q3, fun k h1 h2 => by rw [q4 k h2, upM_ne h1]⟩
  unfold fX6_begin
  rw [st_n]
  exact q1
theorem m_begin {N : Nat} {μ : Mem} (hN : N ≤ 40) (h : μ 94 0 = nI N) : ∃ μ', fX9_firstRow FF μ = some μ' ∧ (∀ p, p < N → μ' 105 p = nI p) ∧ ∀ k, k ≠ 105 → μ' k = μ k := by
  have loop : ∀ (d n i : Nat) (ν : Mem), i + d = N → d < n → ν 94 0 = nI N → (∀ p, p < i → ν 105 p = nI p) → ∃ μ', fX9_firstRow_2 FF n (nI i) ν = some μ' ∧ (∀ p, p < N → μ' 105 p = nI p) ∧ ∀ k, k ≠ 105 → μ' k = ν k := by
    intro d
    induction d with
    | zero =>
      intro n i ν hi hn h1 h2
      obtain ⟨n, rfl⟩ : ∃ n', n = n' + 1 := ⟨n - 1, by omega⟩
      obtain rfl : i = N := by omega
      refine ⟨ν, ?_, h2, fun _ _ => rfl⟩
      show fX9_firstRow_2_b FF _ _ ν = _
      unfold fX9_firstRow_2_b
      rw [show (0 : Int32) = nI 0 from rfl, rd_n (by decide), h1, if_pos (nI_le (by omega) (by omega))]
    | succ d ih =>
      intro n i ν hi hn h1 h2
      obtain ⟨n, rfl⟩ : ∃ n', n = n' + 1 := ⟨n - 1, by omega⟩
      obtain ⟨m2, f2, a2, b2, g2⟩ := wr_x (μ := ν) (k := 105) (i := i) (nI i) (by show i < 40; omega)
      obtain ⟨μ', q1, q3, q4⟩ := ih n (i + 1) m2 (by omega) (by omega) (by rw [g2 94 (by omega)]; exact h1) (fun p hp => by
        by_cases c : p = i
        · rw [c, a2]
        · rw [b2 p c]; exact h2 p (by omega))
      refine ⟨μ', ?_, q3, fun k hk => by rw [q4 k hk, g2 k hk]⟩
      show fX9_firstRow_2_b FF _ _ ν = _
      unfold fX9_firstRow_2_b
      rw [show (0 : Int32) = nI 0 from rfl, rd_n (by decide), h1, if_neg (nI_ge (by omega) (by omega)), f2, nI_add1]
      exact q1
  exact loop N FF 0 μ (by omega) (by rw [FF_e]; omega) h (fun p hp => by omega)
theorem c_isOrd {N k : Nat} {μ : Mem} (hN : N ≤ 40) (hk : N ≤ ln k) (h : μ 9 6 = nI N) : ((∀ p, p < N → μ k p = μ 14 p) ∧ fX3_isOrder FF k μ = some (1, μ)) ∨ ((¬ ∀ p, p < N → μ k p = μ 14 p) ∧ fX3_isOrder FF k μ = some (0, μ)) := by
  have loop : ∀ (d n i : Nat), i + d = N → d < n → ((∀ p, i ≤ p → p < N → μ k p = μ 14 p) ∧ fX3_isOrder_2 FF k n (nI i) μ = some (1, μ)) ∨ ((¬ ∀ p, i ≤ p → p < N → μ k p = μ 14 p) ∧ fX3_isOrder_2 FF k n (nI i) μ = some (0, μ)) := by
    intro d
    induction d with
    | zero =>
      intro n i hi hn
      obtain ⟨n, rfl⟩ : ∃ n', n = n' + 1 := ⟨n - 1, by omega⟩
      obtain rfl : i = N := by omega
      refine Or.inl ⟨fun p a b => by omega, ?_⟩
      show fX3_isOrder_2_b FF _ _ _ μ = _
      unfold fX3_isOrder_2_b
      rw [h, if_pos (nI_le (by omega) (by omega)), zr_1]
    | succ d ih =>
      intro n i hi hn
      obtain ⟨n, rfl⟩ : ∃ n', n = n' + 1 := ⟨n - 1, by omega⟩
      have e : fX3_isOrder_2 FF k (n + 1) (nI i) μ = if μ k i = μ 14 i then fX3_isOrder_2 FF k n (nI (i + 1)) μ else some (0, μ) := by
        show fX3_isOrder_2_b FF _ _ _ μ = _
        unfold fX3_isOrder_2_b
        rw [h, if_neg (nI_ge (by omega) (by omega)), rd_n (by omega), rd_n (by show i < 40; omega), nI_add1, zr_0]
      rw [e]
      by_cases c : μ k i = μ 14 i
      · rw [if_pos c]
        rcases ih n (i + 1) (by omega) (by omega) with ⟨q1, q2⟩ | ⟨q1, q2⟩
        · refine Or.inl ⟨fun p a b => ?_, q2⟩
          by_cases cp : p = i
          · rw [cp]; exact c
          · exact q1 p (by omega) b
        · exact Or.inr ⟨fun w => q1 (fun p a b => w p (by omega) b), q2⟩
      · rw [if_neg c]
        exact Or.inr ⟨fun w => c (w i (by omega) (by omega)), rfl⟩
  rcases loop N FF 0 (by omega) (by rw [FF_e]; omega) with ⟨q1, q2⟩ | ⟨q1, q2⟩
  · exact Or.inl ⟨fun p b => q1 p (by omega) b, q2⟩
  · exact Or.inr ⟨fun w => q1 (fun p _ b => w p b), q2⟩
theorem m_isOrd {N : Nat} {μ : Mem} (hN : N ≤ 40) (h : μ 94 0 = nI N) : ((∀ p, p < N → μ 105 p = μ 99 p) ∧ fX9_isOrder FF μ = some (1, μ)) ∨ ((¬ ∀ p, p < N → μ 105 p = μ 99 p) ∧ fX9_isOrder FF μ = some (0, μ)) := by
  have loop0 : ∀ (d n i : Nat), i + d = N → d < n → fX9_isOrder_4 FF n 0 (nI i) μ = some (0, μ) := by
    intro d
    induction d with
    | zero =>
      intro n i hi hn
      obtain ⟨n, rfl⟩ : ∃ n', n = n' + 1 := ⟨n - 1, by omega⟩
      show fX9_isOrder_4_b FF _ _ _ μ = _
      unfold fX9_isOrder_4_b
      rw [show (0 : Int32) = nI 0 from rfl, rd_n (by decide), h, if_pos (nI_le (by omega) (by omega)), show nI 0 = (0 : Int32) from rfl, zr_0]
    | succ d ih =>
      intro n i hi hn
      obtain ⟨n, rfl⟩ : ∃ n', n = n' + 1 := ⟨n - 1, by omega⟩
      show fX9_isOrder_4_b FF _ _ _ μ = _
      unfold fX9_isOrder_4_b
      rw [show (0 : Int32) = nI 0 from rfl, rd_n (by decide), h, if_neg (nI_ge (by omega) (by omega)), if_pos rfl, nI_add1]
      exact ih n (i + 1) (by omega) (by omega)
  have loop : ∀ (d n i : Nat), i + d = N → d < n → ((∀ p, i ≤ p → p < N → μ 105 p = μ 99 p) ∧ fX9_isOrder_4 FF n 1 (nI i) μ = some (1, μ)) ∨ ((¬ ∀ p, i ≤ p → p < N → μ 105 p = μ 99 p) ∧ fX9_isOrder_4 FF n 1 (nI i) μ = some (0, μ)) := by
    intro d
    induction d with
    | zero =>
      intro n i hi hn
      obtain ⟨n, rfl⟩ : ∃ n', n = n' + 1 := ⟨n - 1, by omega⟩
      refine Or.inl ⟨fun p a b => by omega, ?_⟩
      show fX9_isOrder_4_b FF _ _ _ μ = _
      unfold fX9_isOrder_4_b
      rw [show (0 : Int32) = nI 0 from rfl, rd_n (by decide), h, if_pos (nI_le (by omega) (by omega)), zr_1]
    | succ d ih =>
      intro n i hi hn
      obtain ⟨n, rfl⟩ : ∃ n', n = n' + 1 := ⟨n - 1, by omega⟩
      have e : fX9_isOrder_4 FF (n + 1) 1 (nI i) μ = if μ 105 i = μ 99 i then fX9_isOrder_4 FF n 1 (nI (i + 1)) μ else some (0, μ) := by
        show fX9_isOrder_4_b FF _ _ _ μ = _
        unfold fX9_isOrder_4_b
        rw [show (0 : Int32) = nI 0 from rfl, rd_n (by decide), h, if_neg (nI_ge (by omega) (by omega)), if_neg (show ¬ (1 : Int32) = nI 0 by decide), rd_n (by show i < 40; omega), rd_n (by show i < 240; omega), nI_add1, show nI 0 = (0 : Int32) from rfl, loop0 d n (i + 1) (by omega) (by omega)]
      rw [e]
      by_cases c : μ 105 i = μ 99 i
      · rw [if_pos c]
        rcases ih n (i + 1) (by omega) (by omega) with ⟨q1, q2⟩ | ⟨q1, q2⟩
        · refine Or.inl ⟨fun p a b => ?_, q2⟩
          by_cases cp : p = i
          · rw [cp]; exact c
          · exact q1 p (by omega) b
        · exact Or.inr ⟨fun w => q1 (fun p a b => w p (by omega) b), q2⟩
      · rw [if_neg c]
        exact Or.inr ⟨fun w => c (w i (by omega) (by omega)), rfl⟩
  rcases loop N FF 0 (by omega) (by rw [FF_e]; omega) with ⟨q1, q2⟩ | ⟨q1, q2⟩
  · exact Or.inl ⟨fun p b => q1 p (by omega) b, q2⟩
  · exact Or.inr ⟨fun w => q1 (fun p _ b => w p b), q2⟩
theorem m_finds {N : Nat} {μ : Mem} (hN : N ≤ 40) (h : μ 94 0 = nI N) : ∃ μ', fX9_finds FF 105 μ = some μ' ∧ (∀ p, p < N → μ' 100 p = μ 105 p) ∧ μ' 89 12 = nI N ∧ μ' 89 14 = 1 ∧ μ' 89 15 = 1 ∧ (∀ j, j ≠ 12 → j ≠ 14 → j ≠ 15 → μ' 89 j = μ 89 j) ∧ ∀ k, k ≠ 89 → k ≠ 100 → μ' k = μ k := by
  have loop : ∀ (d n i : Nat) (ν : Mem), i + d = N → d < n → ν 89 12 = nI N → (∀ p, p < i → ν 100 p = ν 105 p) → ∃ μ', fX9_finds_12 FF 105 n (nI i) ν = some μ' ∧ (∀ p, p < N → μ' 100 p = ν 105 p) ∧ μ' 89 12 = nI N ∧ μ' 89 14 = 1 ∧ μ' 89 15 = 1 ∧ (∀ j, j ≠ 14 → j ≠ 15 → μ' 89 j = ν 89 j) ∧ ∀ k, k ≠ 89 → k ≠ 100 → μ' k = ν k := by
    intro d
    induction d with
    | zero =>
      intro n i ν hi hn h1 h2
      obtain ⟨n, rfl⟩ : ∃ n', n = n' + 1 := ⟨n - 1, by omega⟩
      obtain rfl : i = N := by omega
      refine ⟨upM ν 89 (upd (upd (ν 89) 14 1) 15 1), ?_, fun p hp => by rw [upM_ne (by omega)]; exact h2 p hp, ?_, ?_, ?_, fun j q1 q2 => by rw [upM_self, upd_ne q2, upd_ne q1], fun k q1 q2 => upM_ne q1⟩
      · show fX9_finds_12_b FF _ _ _ ν = _
        unfold fX9_finds_12_b
        rw [h1, if_pos (nI_le (by omega) (by omega)), st_n, st_n, upM_upM, upM_self]
      · rw [upM_self, upd_ne (by decide), upd_ne (by decide)]; exact h1
      · rw [upM_self, upd_ne (by decide), upd_s]
      · rw [upM_self, upd_s]
    | succ d ih =>
      intro n i ν hi hn h1 h2
      obtain ⟨n, rfl⟩ : ∃ n', n = n' + 1 := ⟨n - 1, by omega⟩
      obtain ⟨m2, f2, a2, b2, g2⟩ := wr_x (μ := ν) (k := 100) (i := i) (ν 105 i) (by show i < 40; omega)
      obtain ⟨μ', q1, q2, q3, q4, q5, q6, q7⟩ := ih n (i + 1) m2 (by omega) (by omega) (by rw [g2 89 (by omega)]; exact h1) (fun p hp => by
        rw [g2 105 (by omega)]
        by_cases c : p = i
        · rw [c, a2]
        · rw [b2 p c]; exact h2 p (by omega))
      rw [g2 105 (by omega)] at q2
      refine ⟨μ', ?_, q2, q3, q4, q5, fun j w1 w2 => by rw [q6 j w1 w2, g2 89 (by omega)], fun k w1 w2 => by rw [q7 k w1 w2, g2 k w2]⟩
      show fX9_finds_12_b FF _ _ _ ν = _
      unfold fX9_finds_12_b
      rw [h1, if_neg (nI_ge (by omega) (by omega)), rd_n (by show i < 40; omega), f2, nI_add1]
      exact q1
  obtain ⟨μ', q1, q2, q3, q4, q5, q6, q7⟩ := loop N FF 0 (upM μ 89 (upd (μ 89) 12 (nI N))) (by omega) (by rw [FF_e]; omega) (by rw [upM_self, upd_s]) (fun p hp => by omega)
  rw [upM_ne (by omega)] at q2
  refine ⟨μ', ?_, q2, q3, q4, q5, fun j w0 w1 w2 => by rw [q6 j w1 w2, upM_self, upd_ne w0], fun k w1 w2 => by rw [q7 k w1 w2, upM_ne w1]⟩
  unfold fX9_finds
  rw [show (0 : Int32) = nI 0 from rfl, rd_n (by decide), h, st_n]
  exact q1
