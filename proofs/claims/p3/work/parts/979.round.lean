/-! the round of heats -/
variable {wq : Prop}
theorem lossy_or {μ ν : Mem} (h : PR μ) (e1 : ν 101 = μ 101) (e2 : ν 102 = μ 102) (y : Int32) : (fX4_hasLossyStretch FF μ = some (0, μ) ∧ fX9_round_19 FF FF y 1 0 ν = st ν 89 21 y (fun m2 => st m2 89 22 1 (fun m3 => fX9_round_76 FF FF y 0 m3))) ∨ (fX4_hasLossyStretch FF μ = some (1, μ) ∧ fX9_round_19 FF FF y 1 0 ν = some (-5, ν)) := by
  have m0 : ∀ (d n i : Nat), i + d = 8 → d < n → fX9_round_19 FF n y 0 (nI i) ν = some (-5, ν) := by
    intro d
    induction d with
    | zero =>
      intro n i hi hn
      obtain ⟨n, rfl⟩ : ∃ n', n = n' + 1 := ⟨n - 1, by omega⟩
      show fX9_round_19_b FF _ _ _ _ ν = _
      unfold fX9_round_19_b
      rw [if_pos (show (8 : Int32) ≤ nI i from nI_le (a := 8) (by omega) (by omega)), if_pos rfl]
    | succ d ih =>
      intro n i hi hn
      obtain ⟨n, rfl⟩ : ∃ n', n = n' + 1 := ⟨n - 1, by omega⟩
      show fX9_round_19_b FF _ _ _ _ ν = _
      unfold fX9_round_19_b
      rw [if_neg (show ¬ (8 : Int32) ≤ nI i from nI_ge (b := 8) (by omega) (by omega)), if_pos rfl, nI_add1]
      exact ih n (i + 1) (by omega) (by omega)
  have loop : ∀ (d n k i : Nat), i + d = 8 → d < n → d < k → (fX4_hasLossyStretch_2 FF k (nI i) μ = some (0, μ) ∧ fX9_round_19 FF n y 1 (nI i) ν = st ν 89 21 y (fun m2 => st m2 89 22 1 (fun m3 => fX9_round_76 FF FF y 0 m3))) ∨ (fX4_hasLossyStretch_2 FF k (nI i) μ = some (1, μ) ∧ fX9_round_19 FF n y 1 (nI i) ν = some (-5, ν)) := by
    intro d
    induction d with
    | zero =>
      intro n k i hi hn hk
      obtain ⟨n, rfl⟩ : ∃ n', n = n' + 1 := ⟨n - 1, by omega⟩
      obtain ⟨k, rfl⟩ : ∃ k', k = k' + 1 := ⟨k - 1, by omega⟩
      refine Or.inl ⟨?_, ?_⟩
      · show fX4_hasLossyStretch_2_b FF _ _ μ = _
        unfold fX4_hasLossyStretch_2_b
        rw [if_pos (show (8 : Int32) ≤ nI i from nI_le (a := 8) (by omega) (by omega)), zr_0]
      · show fX9_round_19_b FF _ _ _ _ ν = _
        unfold fX9_round_19_b
        rw [if_pos (show (8 : Int32) ≤ nI i from nI_le (a := 8) (by omega) (by omega)), if_neg one_ne]
    | succ d ih =>
      intro n k i hi hn hk
      obtain ⟨n, rfl⟩ : ∃ n', n = n' + 1 := ⟨n - 1, by omega⟩
      obtain ⟨k, rfl⟩ : ∃ k', k = k' + 1 := ⟨k - 1, by omega⟩
      have i8 : i < 8 := by omega
      obtain ⟨p1, p2, -⟩ := h i i8
      have hc : fX4_hasLossyStretch_2 FF (k + 1) (nI i) μ = if 0 ≤ μ 74 i + μ 75 i then fX4_hasLossyStretch_2 FF k (nI (i + 1)) μ else some (1, μ) := by
        show fX4_hasLossyStretch_2_b FF _ _ μ = _
        unfold fX4_hasLossyStretch_2_b
        rw [if_neg (show ¬ (8 : Int32) ≤ nI i from nI_ge (b := 8) (by omega) (by omega)), rd_n (by exact i8), rd_n (by exact i8), nI_add1, zr_1]
      have hm : fX9_round_19 FF (n + 1) y 1 (nI i) ν = if μ 74 i + μ 75 i < 0 then fX9_round_19 FF n y 0 (nI (i + 1)) ν else fX9_round_19 FF n y 1 (nI (i + 1)) ν := by
        show fX9_round_19_b FF _ _ _ _ ν = _
        unfold fX9_round_19_b
        rw [if_neg (show ¬ (8 : Int32) ≤ nI i from nI_ge (b := 8) (by omega) (by omega)), if_neg one_ne, rd_n (by exact i8), rd_n (by exact i8), e1, e2, ← p1, ← p2, nI_add1]
      rw [hc, hm]
      by_cases c : 0 ≤ μ 74 i + μ 75 i
      · have c2 : ¬ μ 74 i + μ 75 i < 0 := fun q => by
          rw [Int32.lt_iff_toInt_lt] at q
          rw [Int32.le_iff_toInt_le] at c
          omega
        rw [if_pos c, if_neg c2]
        exact ih n k (i + 1) (by omega) (by omega) (by omega)
      · have c2 : μ 74 i + μ 75 i < 0 := by
          rw [Int32.lt_iff_toInt_lt]
          rw [Int32.le_iff_toInt_le] at c
          omega
        rw [if_neg c, if_pos c2]
        exact Or.inr ⟨rfl, m0 d n (i + 1) (by omega) (by omega)⟩
  exact loop 8 FF FF 0 (by omega) (by rw [FF_e]; omega) (by rw [FF_e]; omega)
theorem m_r76 {N : Nat} {x b : Nat → Int32} {μ : Mem} (hN : N ≤ 40) (h5 : ∀ i, i < N → μ 97 i = x i ∧ μ 98 i = b i) : ∀ (d n i : Nat) (ν : Mem), i + d = N → d < n → (∀ c, c ≠ 106 → c ≠ 107 → ν c = μ c) → (∀ j, j < i → ν 106 j = x j ∧ ν 107 j = b j) → ∃ μ' : Mem, fX9_round_76 FF n (nI N) (nI i) ν = cal (fX9_joined FF μ') (fun r7 m6 => cav (fX9_roundFrom FF 0 m6) (fun m8 => some (r7, m8))) ∧ (∀ c, c ≠ 106 → c ≠ 107 → μ' c = μ c) ∧ ∀ j, j < N → μ' 106 j = x j ∧ μ' 107 j = b j := by
  intro d
  induction d with
  | zero =>
    intro n i ν hi hn q1 q2
    obtain ⟨n, rfl⟩ : ∃ n', n = n' + 1 := ⟨n - 1, by omega⟩
    obtain rfl : i = N := by omega
    refine ⟨ν, ?_, q1, q2⟩
    show fX9_round_76_b FF _ _ _ ν = _
    unfold fX9_round_76_b
    rw [if_pos (nI_le (by omega) (by omega))]
  | succ d ih =>
    intro n i ν hi hn q1 q2
    obtain ⟨n, rfl⟩ : ∃ n', n = n' + 1 := ⟨n - 1, by omega⟩
    obtain ⟨m1, f1, a1, b1, g1⟩ := wr_x (μ := ν) (k := 106) (i := i) (x i) (by show i < 41; omega)
    obtain ⟨m2, f2, a2, b2, g2⟩ := wr_x (μ := m1) (k := 107) (i := i) (b i) (by show i < 41; omega)
    have step : fX9_round_76 FF (n + 1) (nI N) (nI i) ν = fX9_round_76 FF n (nI N) (nI (i + 1)) m2 := by
      show fX9_round_76_b FF _ _ _ ν = _
      unfold fX9_round_76_b
      rw [if_neg (nI_ge (by omega) (by omega)), rd_n (by show i < 240; omega), q1 97 (by omega) (by omega), (h5 i (by omega)).1, f1, rd_n (by show i < 240; omega), g1 98 (by omega), q1 98 (by omega) (by omega), (h5 i (by omega)).2, f2, nI_add1]
    rw [step]
    refine ih n (i + 1) m2 (by omega) (by omega) (fun c c1 c2 => by rw [g2 c c2, g1 c c1]; exact q1 c c1 c2) (fun j hj => ?_)
    by_cases e : j = i
    · rw [e, a2, g2 106 (by omega), a1]
      exact ⟨rfl, rfl⟩
    · rw [b2 j e, g2 106 (by omega), b1 j e, g1 107 (by omega)]
      exact q2 j (by omega)
theorem op_round : Op wq (fX8_round FF) (fX9_round FF) := by
  intro μ hI
  obtain ⟨N, hL⟩ := hI.2.1
  have h9 : μ 9 6 = nI N := hL.2.1
  have h94 : μ 94 0 = nI N := hL.2.2.1
  have hN := hL.1
  have hPR := hI.2.2.2.2.2
  unfold fX8_round fX9_round
  by_cases h0 : N = 0
  · subst h0
    refine ⟨-5, μ, μ, by rw [h9, if_pos (show nI 0 = 0 from rfl)], ?_, hI⟩
    rw [show (0 : Int32) = nI 0 from rfl, rd_n (by decide), h94, if_pos (show nI 0 ≤ nI 0 by decide)]
    have m0 : ∀ (d n i : Nat), i + d = 8 → d < n → fX9_round_19 FF n (nI 0) 0 (nI i) μ = some (-5, μ) := by
      intro d
      induction d with
      | zero =>
        intro n i hi hn
        obtain ⟨n, rfl⟩ : ∃ n', n = n' + 1 := ⟨n - 1, by omega⟩
        show fX9_round_19_b FF _ _ _ _ μ = _
        unfold fX9_round_19_b
        rw [if_pos (show (8 : Int32) ≤ nI i from nI_le (a := 8) (by omega) (by omega)), if_pos rfl]
      | succ d ih =>
        intro n i hi hn
        obtain ⟨n, rfl⟩ : ∃ n', n = n' + 1 := ⟨n - 1, by omega⟩
        show fX9_round_19_b FF _ _ _ _ μ = _
        unfold fX9_round_19_b
        rw [if_neg (show ¬ (8 : Int32) ≤ nI i from nI_ge (b := 8) (by omega) (by omega)), if_pos rfl, nI_add1]
        exact ih n (i + 1) (by omega) (by omega)
    exact m0 8 FF 0 (by omega) (by rw [FF_e]; omega)
  have n0 : ¬ nI N = 0 := fun q => h0 (nI_inj (b := 0) (by omega) (by omega) q)
  have nl : ¬ nI N ≤ nI 0 := nI_ge (by omega) (by omega)
  rcases (lossy_or (ν := μ) hPR rfl rfl (nI N)).symm with ⟨z1, z2⟩ | ⟨z1, -⟩
  · refine ⟨-5, μ, μ, ?_, ?_, hI⟩
    · rw [h9, if_neg n0, z1, cal_n, if_neg one_ne]
    · rw [show (0 : Int32) = nI 0 from rfl, rd_n (by decide), h94, if_neg nl]
      exact z2
  -- the points
  have dg := hL.dg
  obtain ⟨p, hp⟩ : ∃ p : Nat → Nat, p = fun i => tn (μ 13 i) := ⟨_, rfl⟩
  obtain ⟨q, hq⟩ : ∃ q : Nat → Nat, q = fun i => tn (μ 12 i) := ⟨_, rfl⟩
  have pv : ∀ i, i < N → μ 13 i = nI (p i) ∧ p i ≤ 399 := fun i hi => by
    rw [hp]
    exact ⟨(dg i hi).2.2, (dg i hi).2.1⟩
  have qv : ∀ i, i < N → μ 12 i = nI (q i) ∧ q i ≤ 399 := fun i hi => by
    rw [hq]
    exact ⟨(dg i hi).1.2, (dg i hi).1.1⟩
  -- the class's
  obtain ⟨m1, hm1⟩ : ∃ m1, m1 = upM μ 61 (upd (μ 61) 9 (nI N)) := ⟨_, rfl⟩
  obtain ⟨m2, f2, a2, b2, c2⟩ := cp_x (μ := m1) (a := 12) (b := 62) (n := N) (by show N ≤ 40; omega) (by show N ≤ 41; omega)
  obtain ⟨m3, f3, a3, b3, c3⟩ := cp_x (μ := m2) (a := 13) (b := 63) (n := N) (by show N ≤ 40; omega) (by show N ≤ 41; omega)
  have k1 : ∀ c, c ≠ 61 → m1 c = μ c := fun c hc => by rw [hm1, upM_ne hc]
  have k3 : ∀ c, c ≠ 62 → c ≠ 63 → m3 c = m1 c := fun c w1 w2 => by rw [c3 c w2, c2 c w1]
  have hc : ∀ c, (c < 61 ∨ 70 < c) → m3 c = μ c := fun c w => by rw [k3 c (by omega) (by omega), k1 c (by omega)]
  have hpq : ∀ i, i < N → m3 63 i = nI (p i) ∧ m3 62 i = nI (q i) := fun i hi => by
    rw [a3 i hi, c2 13 (by omega), k1 13 (by omega), c3 62 (by omega), a2 i hi, k1 12 (by omega)]
    exact ⟨(pv i hi).1, (qv i hi).1⟩
  obtain ⟨M, hM⟩ : ∃ M, M + 1 = N := ⟨N - 1, by omega⟩
  obtain ⟨cost, π, μ1, d1, d2, d3, d4, d5, d6⟩ := rings_both (M := M) (P := N) (T := 399) (k := 73) (G := goC (m3 74) (m3 75)) (μc := m3) hI hL hM (by omega) (by omega) (fun i hi => ⟨(pv i hi).2, (qv i hi).2⟩) hc (by rw [k3 61 (by omega) (by omega), hm1, upM_self, upd_s]) hpq go_heat
  have rr := ring_row d2 (show 0 < N by omega) (fun y hy => d3 0 y (by omega) hy)
  obtain ⟨μa, μ2, e1, e2, e3, e4, e5⟩ := d6 0 (by omega) (fun j hj => itr_lt d2 (by omega) j) rr
  -- the reference's
  have h942 : μ2 94 0 = nI N := by rw [e4 94 (by omega) (by omega) (by omega) (by omega)]; exact h94
  have m2k : ∀ c, 89 ≤ c → μ2 c = μ c := fun c w => e4 c (by omega) (by omega) (by omega) (by omega)
  obtain ⟨ν0, hν0⟩ : ∃ ν0, ν0 = upM μ2 89 (upd (upd (μ2 89) 21 (nI N)) 22 1) := ⟨_, rfl⟩
  have v0 : ∀ c, c ≠ 89 → ν0 c = μ2 c := fun c hc' => by rw [hν0, upM_ne hc']
  obtain ⟨ν1, l1, l2, l3⟩ := m_r76 (N := N) (x := fun i => μ 12 i) (b := fun i => μ 13 i) (μ := ν0) hN (fun i hi => by
    rw [v0 97 (by omega), v0 98 (by omega), m2k 97 (by omega), m2k 98 (by omega)]
    exact ⟨(hL.eqs hi).2.2.1.symm, (hL.eqs hi).2.2.2.1.symm⟩) N FF 0 ν0 (by omega) (by rw [FF_e]; omega) (fun _ _ _ => rfl) (fun j hj => by omega)
  obtain ⟨μ3, g1, g2, g3, μ4, g4, g5, g6⟩ := e5 ν1 (fun c w1 w2 w3 => by rw [l2 c w2 w3, v0 c w1]) (fun j j1 j2 => by rw [l2 89 (by omega) (by omega), hν0, upM_self, upd_ne j2, upd_ne j1, m2k 89 (by omega)]) (by rw [l2 89 (by omega) (by omega), hν0, upM_self, upd_ne (by decide), upd_s]) (fun i hi => by
    rw [(l3 i hi).1, (l3 i hi).2]
    exact ⟨(pv i hi).1, (qv i hi).1⟩) (gm_heat (fun i hi => by
    rw [hc 74 (by omega), hc 75 (by omega), l2 101 (by omega) (by omega), l2 102 (by omega) (by omega), v0 101 (by omega), v0 102 (by omega), m2k 101 (by omega), m2k 102 (by omega)]
    exact ⟨(hPR i hi).1, (hPR i hi).2.1⟩) (by rw [l2 89 (by omega) (by omega), hν0, upM_self, upd_s]; exact one_ne))
  have z2 : fX9_round_19 FF FF (nI N) 1 0 μ2 = st μ2 89 21 (nI N) (fun m2 => st m2 89 22 1 (fun m3 => fX9_round_76 FF FF (nI N) 0 m3)) := by
    rcases lossy_or (ν := μ2) hPR (m2k 101 (by omega)) (m2k 102 (by omega)) (nI N) with ⟨_, w⟩ | ⟨w, _⟩
    · exact w
    · rw [z1] at w
      injection w with w
      injection w with w _
      exact absurd w.symm one_ne
  refine ⟨cost, μ2, μ4, ?_, ?_, g5⟩
  · have z3 : m1 9 6 = nI N := by rw [k1 9 (by omega)]; exact h9
    have z4 : m2 9 6 = nI N := by rw [c2 9 (by omega)]; exact z3
    have z5 : μ1 9 6 = nI N := by rw [d5 9 (by omega)]; exact h9
    have z6 : μa 9 6 = nI N := by rw [e2 9 (by omega) (by omega)]; exact h9
    rw [h9, if_neg n0, z1, cal_n, if_pos rfl, h9, st_n, ← hm1, z3, f2, z4, f3, d1, cal_n, z5, show (0 : Int32) = nI 0 from rfl, e1, cav_n, z6, e3, cav_n]
  · rw [show (0 : Int32) = nI 0 from rfl, rd_n (by decide), h942, if_neg nl]
    refine z2.trans ?_
    rw [st_n, st_n, upM_upM, upM_self, ← hν0]
    refine l1.trans ?_
    rw [g1, cal_n, show (0 : Int32) = nI 0 from rfl, g4, cav_n]
