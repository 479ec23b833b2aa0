/-! rings, on both sides -/
variable {wq : Prop}
theorem rings_both {N P M T k : Nat} {p q : Nat → Nat} {G : Nat → Nat → Int32} {μ μc : Mem} (hI : Inv wq μ) (hL : RelN wq N (CL μ) (MT μ 0)) (hM : M + 1 = P) (hP : P ≤ 41) (hT4 : T ≤ 100000) (hT : ∀ i, i < P → p i ≤ T ∧ q i ≤ T) (hc : ∀ c, (c < 61 ∨ 70 < c) → μc c = μ c) (h9 : μc 61 9 = nI P) (hpq : ∀ i, i < P → μc 63 i = nI (p i) ∧ μc 62 i = nI (q i)) (hG : GO k T G μc) :
    ∃ (cost : Int32) (π : Nat → Nat) (μ1 : Mem), fX5_joinAll FF k μc = some (cost, μ1) ∧ PB P π ∧ (∀ x y, x < P → y < P → Rch π x y) ∧ (∀ x, x < P → μ1 66 x = nI (π x)) ∧ (∀ c, (c < 61 ∨ 70 < c) → μ1 c = μ c) ∧ ∀ s, s < P → (∀ j, j < N → itr π j s < N) → (∀ i j, i < j → j < N → itr π i s ≠ itr π j s) →
      ∃ μa μ2 : Mem, fX5_rowFrom FF (nI s) 79 (nI N) μ1 = some μa ∧ (∀ c, (c < 61 ∨ 70 < c) → c ≠ 79 → μa c = μ c) ∧ fX0_become FF 79 (nI N) μa = some μ2 ∧ (∀ c, (c < 61 ∨ 70 < c) → c ≠ 53 → c ≠ 54 → c ≠ 79 → μ2 c = μ c) ∧
        ∀ ν : Mem, (∀ c, c ≠ 89 → c ≠ 106 → c ≠ 107 → ν c = μ2 c) → (∀ j, j ≠ 21 → j ≠ 22 → ν 89 j = μ 89 j) → ν 89 21 = nI P → (∀ i, i < P → ν 107 i = nI (p i) ∧ ν 106 i = nI (q i)) → GM T G ν →
          ∃ μ3 : Mem, fX9_joined FF ν = some (cost, μ3) ∧ (∀ x, x < P → μ3 110 x = nI (π x)) ∧ (∀ c, 94 ≤ c → c ≤ 99 → μ3 c = μ c) ∧ ∃ μ4 : Mem, fX9_roundFrom FF (nI s) μ3 = some μ4 ∧ Inv wq μ4 ∧ ∀ c, 94 ≤ c → c ≤ 99 → μ4 c = μ c := by
  have hN := hL.1
  obtain ⟨μ1, f0, a1, a2, a3, a4, a5, a6, a7, a8, a9⟩ := c_joinAll (μ0 := μc) (μ := μc) hM hP hT4 hT hG ⟨fun _ _ => rfl, h9, hpq⟩
  obtain ⟨r1, r2⟩ := rF_ring (G := G) hM hP a2
  have k1 : ∀ c, (c < 61 ∨ 70 < c) → μ1 c = μ c := fun c hc' => by rw [a3.1 c hc', hc c hc']
  refine ⟨cst P p q G (rF P M p q G f0), rF P M p q G f0, μ1, a1, r1, r2, a9, k1, fun s hs d1 d2 => ?_⟩
  obtain ⟨μa, b1, b2, b3⟩ := c_rowF hP hN r1 hs a9
  obtain ⟨μ2, c1, c2, c3, c4, c5⟩ := c_become0 (N := N) (μ := μa) hN
  have ka : ∀ c, (c < 61 ∨ 70 < c) → c ≠ 79 → μa c = μ c := fun c w1 w2 => by rw [b2 c w2, k1 c w1]
  have k2 : ∀ c, (c < 61 ∨ 70 < c) → c ≠ 53 → c ≠ 54 → c ≠ 79 → μ2 c = μ c := fun c w1 w2 w3 w4 => by rw [c5 c w2 w3, ka c w1 w4]
  refine ⟨μa, μ2, b1, ka, c1, k2, fun ν n1 n2 n3 n4 hGm => ?_⟩
  obtain ⟨μ3, e1, e2, e3, e4, e5, e6, e7, e8⟩ := m_joined (μ := ν) hM hP hT4 hT hGm ⟨⟨fun _ _ _ => rfl, fun _ _ => rfl⟩, n3, n4⟩ a2
  have k3 : ∀ c, c ≠ 89 → (c < 106 ∨ 115 < c) → μ3 c = μ2 c := fun c w1 w2 => by rw [e2.1.1 c w1 (by omega), n1 c w1 (by omega) (by omega)]
  have k3m : ∀ c, 94 ≤ c → c ≤ 99 → μ3 c = μ c := fun c w1 w2 => by rw [k3 c (by omega) (by omega), k2 c (by omega) (by omega) (by omega) (by omega)]
  obtain ⟨μ4, g1, g2, g3, g4, g5, g6, g7⟩ := m_rowF hP hN r1 hs (by rw [k3m 94 (by omega) (by omega)]; exact hL.2.2.1) e8
  have k4 : ∀ c, c ≠ 89 → c ≠ 100 → (c < 105 ∨ 115 < c) → μ4 c = μ2 c := fun c w1 w2 w3 => by rw [g7 c w1 w2 (by omega), k3 c w1 (by omega)]
  have k4m : ∀ c, 94 ≤ c → c ≤ 99 → μ4 c = μ c := fun c w1 w2 => by rw [k4 c (by omega) (by omega) (by omega), k2 c (by omega) (by omega) (by omega) (by omega)]
  have t54 : ∀ i, i < N → μ4 54 i = nI (itr (rF P M p q G f0) i s) := fun i hi => by rw [k4 54 (by omega) (by omega) (by omega), c4 i hi, b3 i hi]
  have k61 : μ4 61 = μ1 61 := by rw [k4 61 (by omega) (by omega) (by omega), c5 61 (by omega) (by omega), b2 61 (by omega)]
  have k115 : μ4 115 = μ3 115 := g7 115 (by omega) (by omega) (by omega)
  have k89 : ∀ j, j ≠ 12 → j ≠ 14 → j ≠ 15 → j ≠ 21 → j ≠ 22 → j ≠ 33 → μ4 89 j = μ 89 j := fun j w1 w2 w3 w4 w5 w6 => by rw [g6 j w1 w2 w3, e2.1.2 j w6, n2 j w4 w5]
  have q33 : μ4 89 33 = 1 := by rw [g6 33 (by decide) (by decide) (by decide)]; exact e3
  have hRI : RI μ4 := by
    unfold RI
    rw [k61, k115, q33, a4]
    refine ⟨Or.inr rfl, rfl, fun _ => ⟨?_, ?_, ?_, ?_⟩⟩
    · rw [a5, e4]
    · rw [a6, e5]
    · rw [a7, e6]
    · rw [a8, e7]
  have h96 : μ4 9 6 = nI N := by rw [k4 9 (by omega) (by omega) (by omega), k2 9 (by omega) (by omega) (by omega) (by omega)]; exact hL.2.1
  refine ⟨μ3, e1, e8, k3m, μ4, g1, hI.fnd (fun c w1 w2 w3 w4 w5 w6 => by rw [k4 c w6 w4 (by omega), k2 c (by omega) (by omega) (by omega) (by omega)]) k89 (BT.mk (N := N) hN ?_ ?_ g3 g4 g5 (fun i hi => by rw [t54 i hi, g2 i hi]) h96 ((PermF.of_inj d1 d2).congr t54)) hRI, k4m⟩
  · rw [k4 53 (by omega) (by omega) (by omega)]; exact c2
  · rw [k4 53 (by omega) (by omega) (by omega)]; exact c3
theorem m_at21 {N : Nat} {x b : Nat → Int32} {μ : Mem} (hN : N ≤ 40) (h5 : ∀ i, i < N → μ 95 i = x i ∧ μ 96 i = b i) : ∀ (d n i : Nat) (ν : Mem), i + d = N → d < n → (∀ c, c ≠ 106 → c ≠ 107 → ν c = μ c) → (∀ j, j < i → ν 106 j = x j ∧ ν 107 j = b j) → ∃ μ' : Mem, fX9_atOnce_21 FF n (nI N) (nI i) ν = wr μ' 106 (nI N) 0 (fun m4 => wr m4 107 (nI N) 0 (fun m5 => cal (fX9_joined FF m5) (fun r7 m6 => rd m6 110 (nI N) (fun v8 => cav (fX9_roundFrom FF v8 m6) (fun m9 => cal (fX9_allBake FF m9) (fun r11 m10 => some ((r11 + r7), m10))))))) ∧ (∀ c, c ≠ 106 → c ≠ 107 → μ' c = μ c) ∧ ∀ j, j < N → μ' 106 j = x j ∧ μ' 107 j = b j := by
  intro d
  induction d with
  | zero =>
    intro n i ν hi hn q1 q2
    obtain ⟨n, rfl⟩ : ∃ n', n = n' + 1 := ⟨n - 1, by omega⟩
    obtain rfl : i = N := by omega
    refine ⟨ν, ?_, q1, q2⟩
    show fX9_atOnce_21_b FF _ _ _ ν = _
    unfold fX9_atOnce_21_b
    rw [if_pos (nI_le (by omega) (by omega))]
  | succ d ih =>
    intro n i ν hi hn q1 q2
    obtain ⟨n, rfl⟩ : ∃ n', n = n' + 1 := ⟨n - 1, by omega⟩
    obtain ⟨m1, f1, a1, b1, g1⟩ := wr_x (μ := ν) (k := 106) (i := i) (x i) (by show i < 41; omega)
    obtain ⟨m2, f2, a2, b2, g2⟩ := wr_x (μ := m1) (k := 107) (i := i) (b i) (by show i < 41; omega)
    have step : fX9_atOnce_21 FF (n + 1) (nI N) (nI i) ν = fX9_atOnce_21 FF n (nI N) (nI (i + 1)) m2 := by
      show fX9_atOnce_21_b FF _ _ _ ν = _
      unfold fX9_atOnce_21_b
      rw [if_neg (nI_ge (by omega) (by omega)), rd_n (by show i < 240; omega), q1 95 (by omega) (by omega), (h5 i (by omega)).1, f1, rd_n (by show i < 240; omega), g1 96 (by omega), q1 96 (by omega) (by omega), (h5 i (by omega)).2, f2, nI_add1]
    rw [step]
    refine ih n (i + 1) m2 (by omega) (by omega) (fun c c1 c2 => by rw [g2 c c2, g1 c c1]; exact q1 c c1 c2) (fun j hj => ?_)
    by_cases e : j = i
    · rw [e, a2, g2 106 (by omega), a1]
      exact ⟨rfl, rfl⟩
    · rw [b2 j e, g2 106 (by omega), b1 j e, g1 107 (by omega)]
      exact q2 j (by omega)
theorem least_rings {N : Nat} {μ : Mem} (hI : Inv wq μ) (hL : RelN wq N (CL μ) (MT μ 0)) : ∃ r μ1 μ2, fX8_leastByRings FF μ = some (r, μ1) ∧ fX9_atOnce FF μ1 = some (r, μ2) ∧ Inv wq μ2 := by
  have h9 : μ 9 6 = nI N := hL.2.1
  have h94 : μ 94 0 = nI N := hL.2.2.1
  have hN := hL.1
  have hld := hL.ld
  -- the points
  obtain ⟨p, hp⟩ : ∃ p : Nat → Nat, p = fun i => if i < N then tn (μ 11 i) else 0 := ⟨_, rfl⟩
  obtain ⟨q, hq⟩ : ∃ q : Nat → Nat, q = fun i => if i < N then tn (μ 10 i) else 0 := ⟨_, rfl⟩
  have pv : ∀ i, i < N → μ 11 i = nI (p i) ∧ p i ≤ 100000 := fun i hi => by
    obtain ⟨-, ⟨y, ly, ey⟩⟩ := hld i hi
    have : p i = y := by rw [hp]; show (if i < N then tn (μ 11 i) else 0) = y; rw [if_pos hi, ey, tn_n (by omega)]
    rw [this]; exact ⟨ey, ly⟩
  have qv : ∀ i, i < N → μ 10 i = nI (q i) ∧ q i ≤ 100000 := fun i hi => by
    obtain ⟨⟨y, ly, ey⟩, -⟩ := hld i hi
    have : q i = y := by rw [hq]; show (if i < N then tn (μ 10 i) else 0) = y; rw [if_pos hi, ey, tn_n (by omega)]
    rw [this]; exact ⟨ey, ly⟩
  have pN : p N = 0 := by rw [hp]; exact if_neg (by omega)
  have qN : q N = 0 := by rw [hq]; exact if_neg (by omega)
  have hT : ∀ i, i < N + 1 → p i ≤ 100000 ∧ q i ≤ 100000 := fun i hi => by
    by_cases c : i < N
    · exact ⟨(pv i c).2, (qv i c).2⟩
    · rw [show i = N by omega, pN, qN]; exact ⟨by omega, by omega⟩
  -- the class's
  obtain ⟨m1, hm1⟩ : ∃ m1, m1 = upM μ 61 (upd (μ 61) 9 (nI (N + 1))) := ⟨_, rfl⟩
  obtain ⟨m2, f2, a2, b2, c2⟩ := cp_x (μ := m1) (a := 10) (b := 62) (n := N) (by show N ≤ 40; omega) (by show N ≤ 41; omega)
  obtain ⟨m3, f3, a3, b3, c3⟩ := cp_x (μ := m2) (a := 11) (b := 63) (n := N) (by show N ≤ 40; omega) (by show N ≤ 41; omega)
  obtain ⟨m4, f4, a4, b4, c4⟩ := wr_x (μ := m3) (k := 62) (i := N) 0 (by show N < 41; omega)
  obtain ⟨m5, f5, a5, b5, c5⟩ := wr_x (μ := m4) (k := 63) (i := N) 0 (by show N < 41; omega)
  have k1 : ∀ c, c ≠ 61 → m1 c = μ c := fun c hc => by rw [hm1, upM_ne hc]
  have k5 : ∀ c, c ≠ 62 → c ≠ 63 → m5 c = m1 c := fun c w1 w2 => by rw [c5 c w2, c4 c w1, c3 c w2, c2 c w1]
  have hc : ∀ c, (c < 61 ∨ 70 < c) → m5 c = μ c := fun c w => by rw [k5 c (by omega) (by omega), k1 c (by omega)]
  have hpq : ∀ i, i < N + 1 → m5 63 i = nI (p i) ∧ m5 62 i = nI (q i) := fun i hi => by
    by_cases e : i = N
    · rw [e, a5, c5 62 (by omega), a4, pN, qN]
      exact ⟨rfl, rfl⟩
    · rw [b5 i e, c4 63 (by omega), a3 i (by omega), c2 11 (by omega), k1 11 (by omega), c5 62 (by omega), b4 i e, c3 62 (by omega), a2 i (by omega), k1 10 (by omega)]
      exact ⟨(pv i (by omega)).1, (qv i (by omega)).1⟩
  have hPR : PR m5 := by
    have h := hI.2.2.2.2.2
    unfold PR at h ⊢
    rw [hc 74 (by omega), hc 75 (by omega), hc 77 (by omega), hc 78 (by omega), hc 101 (by omega), hc 102 (by omega)]
    exact h
  obtain ⟨cost, π, μ1, d1, d2, d3, d4, d5, d6⟩ := rings_both (M := N) (P := N + 1) (T := 100000) (k := 76) (G := G1) (μc := m5) hI hL rfl (by omega) (by omega) hT hc (by rw [k5 61 (by omega) (by omega), hm1, upM_self, upd_s]) hpq (go_wait hPR)
  have sN : π N < N + 1 := d2.1 N (by omega)
  have rr := ring_row d2 (show N < N + 1 by omega) (fun y hy => d3 N y (by omega) hy)
  have sh : ∀ j, itr π (j + 1) N = itr π j (π N) := fun j => itr_add j
  obtain ⟨μa, μ2, e1, e2, e3, e4, e5⟩ := d6 (π N) sN (fun j hj => by
    have a := itr_lt d2 sN j
    have b := rr 0 (j + 1) (by omega) (by omega)
    rw [sh j] at b
    have b : N ≠ itr π j (π N) := b
    omega) (fun i j hij hj => by
    have b := rr (i + 1) (j + 1) (by omega) (by omega)
    rw [sh i, sh j] at b
    exact b)
  -- the reference's
  have h942 : μ2 94 0 = nI N := by rw [e4 94 (by omega) (by omega) (by omega) (by omega)]; exact h94
  obtain ⟨ν0, hν0⟩ : ∃ ν0, ν0 = upM μ2 89 (upd (upd (μ2 89) 21 (nI (N + 1))) 22 0) := ⟨_, rfl⟩
  have n0 : ∀ c, c ≠ 89 → ν0 c = μ2 c := fun c hc' => by rw [hν0, upM_ne hc']
  obtain ⟨ν1, l1, l2, l3⟩ := m_at21 (N := N) (x := fun i => μ 10 i) (b := fun i => μ 11 i) (μ := ν0) hN (fun i hi => by
    rw [n0 95 (by omega), n0 96 (by omega), e4 95 (by omega) (by omega) (by omega) (by omega), e4 96 (by omega) (by omega) (by omega) (by omega)]
    exact ⟨(hL.eqs hi).1.symm, (hL.eqs hi).2.1.symm⟩) N FF 0 ν0 (by omega) (by rw [FF_e]; omega) (fun _ _ _ => rfl) (fun j hj => by omega)
  obtain ⟨ν2, u1, u2, u3, u4⟩ := wr_x (μ := ν1) (k := 106) (i := N) 0 (by show N < 41; omega)
  obtain ⟨ν3, v1, v2, v3, v4⟩ := wr_x (μ := ν2) (k := 107) (i := N) 0 (by show N < 41; omega)
  have n3 : ∀ c, c ≠ 106 → c ≠ 107 → ν3 c = ν0 c := fun c w1 w2 => by rw [v4 c w2, u4 c w1, l2 c w1 w2]
  obtain ⟨μ3, g1, g2, g3, μ4, g4, g5, g6⟩ := e5 ν3 (fun c w1 w2 w3 => by rw [n3 c w2 w3, n0 c w1]) (fun j j1 j2 => by rw [n3 89 (by omega) (by omega), hν0, upM_self, upd_ne j2, upd_ne j1, e4 89 (by omega) (by omega) (by omega) (by omega)]) (by rw [n3 89 (by omega) (by omega), hν0, upM_self, upd_ne (by decide), upd_s]) (fun i hi => by
    by_cases e : i = N
    · rw [e, v2, v4 106 (by omega), u2, pN, qN]
      exact ⟨rfl, rfl⟩
    · rw [v3 i e, u4 107 (by omega), (l3 i (by omega)).2, v4 106 (by omega), u3 i e, (l3 i (by omega)).1]
      exact ⟨(pv i (by omega)).1, (qv i (by omega)).1⟩) (gm_wait (by rw [n3 89 (by omega) (by omega), hν0, upM_self, upd_s]))
  have eb : sumF (μ2 11) N = sumF (μ4 96) N := sumF_congr (fun i hi => by
    rw [e4 11 (by omega) (by omega) (by omega) (by omega), g6 96 (by omega) (by omega)]
    exact (hL.eqs hi).2.1)
  refine ⟨sumF (μ2 11) N + cost, μ2, μ4, ?_, ?_, g5⟩
  · unfold fX8_leastByRings
    rw [h9, nI_add1, st_n, ← hm1, f2, f3, f4, f5, d1, cal_n, rd_n (by show N < 41; omega), d4 N (by omega), e1, cav_n, e3, cav_n, c_sum (N := N) (by rw [e4 9 (by omega) (by omega) (by omega) (by omega)]; exact h9) (by show N ≤ 40; omega), cal_n]
  · unfold fX9_atOnce
    have z : fX9_atOnce_21 FF FF (nI N) (nI 0) ν0 = some (sumF (μ2 11) N + cost, μ4) := by
      rw [l1, u1, v1, g1, cal_n, rd_n (by show N < 41; omega), g2 N (by omega), g4, cav_n, m_bake (N := N) (by rw [g6 94 (by omega) (by omega)]; exact h94) hN, cal_n, eb]
    rw [show (0 : Int32) = nI 0 from rfl, rd_n (by decide), h942, st_n, st_n, upM_upM, upM_self, nI_add1]
    rw [hν0] at z
    exact z
theorem op_least (a b : Int32) : Op wq (fX8_least FF a b) (fX9_least FF a b) := by
  intro μ hI
  unfold fX8_least fX9_least
  rcases law_or a b with ⟨l, m, hl, hm, h2, h3, rfl, rfl, w1, w2⟩ | ⟨w1, w2⟩
  · obtain ⟨N, hL⟩ := hI.2.1
    have h9 : μ 9 6 = nI N := hL.2.1
    have h94 : μ 94 0 = nI N := hL.2.2.1
    have hN := hL.1
    have l3 : l = 0 ∨ l = 1 ∨ l = 2 := by omega
    rcases l3 with rfl | rfl | rfl
    · obtain ⟨r, μ1, μ2, z1, z2, z3⟩ := least_rings hI hL
      refine ⟨r, μ1, μ2, ?_, ?_, z3⟩
      · unfold fX8_least_31
        rw [w1, cal_n, if_neg one_ne, if_neg (show ¬ nI 0 = (2 : Int32) by decide), if_pos (show nI 0 = (0 : Int32) from rfl), z1, cal_n]
      · rw [w2, cal_n, if_neg one_ne, if_pos (show nI 0 = (0 : Int32) from rfl), z2, cal_n]
    · obtain ⟨r, μ1, μ2, z1, z2, z3⟩ := least_shelf hI hL
      have m0 := h3 (by omega)
      subst m0
      refine ⟨r, μ1, μ2, ?_, ?_, z3⟩
      · rw [w1, cal_n, if_neg one_ne, if_neg (show ¬ nI 1 = (2 : Int32) by decide)]
        exact z1
      · rw [w2, cal_n, if_neg one_ne, if_neg (show ¬ nI 1 = (0 : Int32) by decide), if_pos (show nI 1 = (1 : Int32) from rfl)]
        exact z2
    · by_cases h7 : N ≤ 7
      · obtain ⟨r, μ1, μ2, z1, z2, z3⟩ := least_places hI hL h7 hm (h2 rfl)
        have e94 : μ1 94 0 = nI N := by
          by_cases q : μ1 94 0 = nI N
          · exact q
          · exfalso
            obtain ⟨μs, f1, f2, f3, f4⟩ := follow_n (l := 2) (m := m) (μ := μ)
            obtain ⟨μa, a1, a2, a3⟩ := c_all (l := 2) (m := m) (y1 := 0) (μs := μs) hL h7 (by omega) hm (fun _ => h2 rfl) f2 f3 f4
            obtain ⟨μ1', b1, b2, b3, b4, b5⟩ := c_become0 (N := N) (μ := μa) (by omega)
            have : fX8_least_31 FF (nI 2) (nI m) μ = some ((sca N (eN 2 m μ N) (Sk 0 μ N) (μ 79)).1, μ1') := by
              unfold fX8_least_31 fX8_least_91
              rw [if_neg two_ne, f1, cav_n, if_neg (show ¬ nI 2 = 1 by decide), a1, cal_n, show μa 9 6 = nI N from by rw [a3 9 (by omega) (by omega) (by omega) (by omega)]; exact h9, b1, cav_n]
            rw [z1] at this
            injection this with this
            injection this with t1 t2
            rw [t2, b5 94 (by omega) (by omega), a3 94 (by omega) (by omega) (by omega) (by omega)] at q
            exact q h94
        refine ⟨r, μ1, μ2, ?_, ?_, z3⟩
        · rw [w1, cal_n, if_neg one_ne, if_pos (show nI 2 = (2 : Int32) from rfl), h9, if_pos (show nI N ≤ (7 : Int32) from nI_le (b := 7) h7 (by omega))]
          exact z1
        · rw [w2, cal_n, if_neg one_ne, if_neg two_ne, if_neg (show ¬ nI 2 = (1 : Int32) by decide), show (0 : Int32) = nI 0 from rfl, rd_n (by decide), e94, if_pos (show nI N ≤ (7 : Int32) from nI_le (b := 7) h7 (by omega))]
          exact z2
      · refine ⟨-4, μ, μ, ?_, ?_, hI⟩
        · rw [w1, cal_n, if_neg one_ne, if_pos (show nI 2 = (2 : Int32) from rfl), h9, if_neg (show ¬ nI N ≤ (7 : Int32) from nI_ge (a := 7) (by omega) (by omega))]
        · rw [w2, cal_n, if_neg one_ne, if_neg two_ne, if_neg (show ¬ nI 2 = (1 : Int32) by decide), show (0 : Int32) = nI 0 from rfl, rd_n (by decide), h94, if_neg (show ¬ nI N ≤ (7 : Int32) from nI_ge (a := 7) (by omega) (by omega))]
  · exact ⟨-2, μ, μ, by rw [w1, cal_n, if_pos rfl], by rw [w2, cal_n, if_pos rfl], hI⟩
