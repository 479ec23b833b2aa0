/-! the place of a loaf -/
variable {wq : Prop}
theorem c_pl_loop {F N t : Nat} {σ : Nat → Nat} {x : Nat} {μ : Mem} (h : μ 9 6 = nI N) (hN : N ≤ 40) (ho : ∀ i, i < N → μ 14 i = nI (σ i)) (hσ : ∀ i, i < N → σ i < N) (ht : t < N) (hx : σ t = x) (hf : ∀ i, i < t → σ i ≠ x) : ∀ (d n i : Nat), i + d = t → d < n → fX3_placeOf_2 F n (nI x) (nI i) μ = some (nI t, μ) := by
  have hxN : x < N := by rw [← hx]; exact hσ t ht
  intro d
  induction d with
  | zero =>
    intro n i hi hn
    obtain ⟨n, rfl⟩ : ∃ n', n = n' + 1 := ⟨n - 1, by omega⟩
    obtain rfl : i = t := by omega
    show fX3_placeOf_2_b F _ _ _ _ = _
    unfold fX3_placeOf_2_b
    rw [h, if_neg (nI_ge (by omega) (by omega)), rd_n (by show i < 40; omega), ho i ht, hx, if_pos rfl]
  | succ d ih =>
    intro n i hi hn
    obtain ⟨n, rfl⟩ : ∃ n', n = n' + 1 := ⟨n - 1, by omega⟩
    show fX3_placeOf_2_b F _ _ _ _ = _
    unfold fX3_placeOf_2_b
    rw [h, if_neg (nI_ge (by omega) (by omega)), rd_n (by show i < 40; omega), ho i (by omega), ifeq (by have := hσ i (by omega); omega) (by omega), if_neg (hf i (by omega)), nI_add1]
    exact ih n (i + 1) (by omega) (by omega)
theorem m_pl_loop {F N t : Nat} {σ : Nat → Nat} {x : Nat} {μ : Mem} (hN : N ≤ 40) (ho : ∀ i, i < N → μ 99 i = nI (σ i)) (hσ : ∀ i, i < N → σ i < N) (ht : t < N) (hx : σ t = x) (hf : ∀ i, i < t → σ i ≠ x) : ∀ (d n i : Nat), i + d = t → d < n → fX9_placeOf_2 F n (nI x) (nI i) μ = some (nI t, μ) := by
  have hxN : x < N := by rw [← hx]; exact hσ t ht
  intro d
  induction d with
  | zero =>
    intro n i hi hn
    obtain ⟨n, rfl⟩ : ∃ n', n = n' + 1 := ⟨n - 1, by omega⟩
    obtain rfl : i = t := by omega
    show fX9_placeOf_2_b F _ _ _ _ = _
    unfold fX9_placeOf_2_b
    rw [rd_n (by show i < 240; omega), ho i ht, hx, if_pos rfl]
  | succ d ih =>
    intro n i hi hn
    obtain ⟨n, rfl⟩ : ∃ n', n = n' + 1 := ⟨n - 1, by omega⟩
    show fX9_placeOf_2_b F _ _ _ _ = _
    unfold fX9_placeOf_2_b
    rw [rd_n (by show i < 240; omega), ho i (by omega), ifeq (by have := hσ i (by omega); omega) (by omega), if_neg (hf i (by omega)), nI_add1]
    exact ih n (i + 1) (by omega) (by omega)
theorem places {N x : Nat} {μ : Mem} (hL : RelN wq N (CL μ) (MT μ 0)) (hx : x < N) : ∃ t t', fX3_placeOf FF (nI x) μ = some (nI t, μ) ∧ fX9_placeOf FF (nI x) μ = some (nI t', μ) ∧ t < N ∧ t' < N ∧ (wq → t = t') := by
  have hN := hL.1
  have ft : ∀ {f : Nat → Int32} {σ τ : Nat → Nat}, (∀ i, i < N → σ i < N ∧ f i = nI (σ i) ∧ τ (σ i) = i) → (∀ i, i < N → τ i < N ∧ σ (τ i) = i) → ∀ i, i < τ x → σ i ≠ x := fun h1 h2 i hi q => by
    have := (h1 i (by have := (h2 x hx).1; omega)).2.2
    rw [q] at this
    omega
  obtain ⟨σ, τ, h1, h2⟩ := hL.oks.2
  obtain ⟨σ', τ', g1, g2⟩ := hL.oko
  have ho : ∀ i, i < N → μ 14 i = nI (σ i) := fun i hi => (h1 i hi).2.1
  have hf : ∀ i, i < τ x → σ i ≠ x := ft h1 h2
  have hf' : ∀ i, i < τ' x → σ' i ≠ x := ft g1 g2
  refine ⟨τ x, τ' x, ?_, ?_, (h2 x hx).1, (g2 x hx).1, fun hq => ?_⟩
  rotate_left
  rotate_left
  · have e : ∀ i, i < N → σ i = σ' i := fun i hi => nI_inj (by have := (h1 i hi).1; omega) (by have := (g1 i hi).1; omega) (by rw [← (h1 i hi).2.1, ← (g1 i hi).2.1]; exact (hL.eqs hi).2.2.2.2 hq)
    have a := (h1 (τ' x) (g2 x hx).1).2.2
    rw [e _ (g2 x hx).1, (g2 x hx).2] at a
    exact a
  · exact c_pl_loop (σ := σ) hL.2.1 hN ho (fun i hi => (h1 i hi).1) (h2 x hx).1 (h2 x hx).2 hf (τ x) FF 0 (by omega) (by have := (h2 x hx).1; rw [FF_e]; omega)
  · exact m_pl_loop (σ := σ') hN (fun i hi => (g1 i hi).2.1) (fun i hi => (g1 i hi).1) (g2 x hx).1 (g2 x hx).2 hf' (τ' x) FF 0 (by omega) (by have := (g2 x hx).1; rw [FF_e]; omega)
/-- what is asked of a loaf, on the class's side, and on the reference's -/
theorem of_both {μ : Mem} (hI : Inv wq μ) (a b : Int32) : ∃ r r', fX8_of FF a b μ = some (r, μ) ∧ fX9_of FF a b μ = some (r', μ) ∧ (wq → r = r') := by
  obtain ⟨N, hL⟩ := hI.2.1
  have h9 : μ 9 6 = nI N := hL.2.1
  have h94 : μ 94 0 = nI N := hL.2.2.1
  have hN := hL.1
  unfold fX8_of fX9_of
  rcases (ix a N (by omega)).symm with h | ⟨i, hi, rfl⟩
  · exact ⟨_, _, by rw [c_lf_no h9 hN h, cal_n, if_pos rfl], by rw [m_lf_no h94 hN h, cal_n, if_pos rfl], fun _ => rfl⟩
  simp only [c_lf_yes h9 hN hi, m_lf_yes h94 hN hi, cal_n, if_neg one_ne]
  obtain ⟨e1, e2, e3, e4, e5⟩ := hL.eqs hi
  have l40 : ∀ k, ln k = 40 → i < ln k := fun k hk => by omega
  have l240 : ∀ k, ln k = 240 → i < ln k := fun k hk => by omega
  by_cases c0 : b = 0
  · exact ⟨_, _, by rw [if_pos c0, rd_n (l40 10 rfl)], by rw [if_pos c0, rd_n (l240 95 rfl), e1], fun _ => rfl⟩
  by_cases c1 : b = 1
  · exact ⟨_, _, by rw [if_neg c0, if_pos c1, rd_n (l40 11 rfl)], by rw [if_neg c0, if_pos c1, rd_n (l240 96 rfl), e2], fun _ => rfl⟩
  by_cases c2 : b = 2
  · exact ⟨_, _, by rw [if_neg c0, if_neg c1, if_pos c2, rd_n (l40 12 rfl)], by rw [if_neg c0, if_neg c1, if_pos c2, rd_n (l240 97 rfl), e3], fun _ => rfl⟩
  by_cases c3 : b = 3
  · exact ⟨_, _, by rw [if_neg c0, if_neg c1, if_neg c2, if_pos c3, rd_n (l40 13 rfl)], by rw [if_neg c0, if_neg c1, if_neg c2, if_pos c3, rd_n (l240 98 rfl), e4], fun _ => rfl⟩
  by_cases c4 : b = 4
  · have ek : fX9_kindOf FF (nI i) μ = fX3_kindOf FF (nI i) μ := by
      unfold fX9_kindOf fX3_kindOf
      rw [rd_n (l240 95 rfl), rd_n (l240 96 rfl), rd_n (l40 10 rfl), rd_n (l40 11 rfl), rd_n (l240 95 rfl), rd_n (l240 96 rfl), rd_n (l40 10 rfl), rd_n (l40 11 rfl), e1, e2]
    have er : ∃ r, fX3_kindOf FF (nI i) μ = some (r, μ) := by
      unfold fX3_kindOf
      rw [rd_n (l40 10 rfl), rd_n (l40 11 rfl), rd_n (l40 10 rfl), rd_n (l40 11 rfl)]
      by_cases d1 : μ 10 i = 0
      · exact ⟨3, by rw [if_pos d1]⟩
      by_cases d2 : μ 11 i = 0
      · exact ⟨4, by rw [if_neg d1, if_pos d2]⟩
      by_cases d3 : μ 11 i < μ 10 i
      · exact ⟨2, by rw [if_neg d1, if_neg d2, if_pos d3]⟩
      · exact ⟨1, by rw [if_neg d1, if_neg d2, if_neg d3]⟩
    obtain ⟨r, hr⟩ := er
    exact ⟨r, r, by rw [if_neg c0, if_neg c1, if_neg c2, if_neg c3, if_pos c4, hr, cal_n], by rw [if_neg c0, if_neg c1, if_neg c2, if_neg c3, if_pos c4, ek, hr, cal_n], fun _ => rfl⟩
  by_cases c5 : b = 5
  · obtain ⟨t, t', p1, p2, -, -, p3⟩ := places hL hi
    exact ⟨_, _, by rw [if_neg c0, if_neg c1, if_neg c2, if_neg c3, if_neg c4, if_pos c5, p1, cal_n], by rw [if_neg c0, if_neg c1, if_neg c2, if_neg c3, if_neg c4, if_pos c5, p2, cal_n], fun hq => by rw [p3 hq]⟩
  exact ⟨_, _, by rw [if_neg c0, if_neg c1, if_neg c2, if_neg c3, if_neg c4, if_neg c5], by rw [if_neg c0, if_neg c1, if_neg c2, if_neg c3, if_neg c4, if_neg c5], fun _ => rfl⟩
theorem op_of (a b : Int32) : OpW wq (fX8_of FF a b) (fX9_of FF a b) := by
  intro μ hI
  obtain ⟨r, r', h1, h2, h3⟩ := of_both hI a b
  exact ⟨r, r', μ, μ, h1, h2, hI, h3⟩
