/-! calls that change nothing -/
variable {wq : Prop}
theorem RelN.eqs {N : Nat} {μ : Mem} (h : RelN wq N (CL μ) (MT μ 0)) {i : Nat} (hi : i < N) : μ 10 i = μ 95 i ∧ μ 11 i = μ 96 i ∧ μ 12 i = μ 97 i ∧ μ 13 i = μ 98 i ∧ (wq → μ 14 i = μ 99 i) := by
  have e := h.2.2.2.1 i hi
  have z : 40 * 0 + i = i := by omega
  obtain ⟨a, b, c, d, f, -⟩ := e
  have t : ∀ k, (fun j => μ k (40 * 0 + j)) i = μ k i := fun k => by show μ k (40 * 0 + i) = _; rw [z]
  exact ⟨a.trans (t 95), b.trans (t 96), c.trans (t 97), d.trans (t 98), fun q => (f q).trans (t 99)⟩
theorem RelN.oko {N : Nat} {μ : Mem} (h : RelN wq N (CL μ) (MT μ 0)) : PermF (μ 99) N := h.okb.congr (fun i _ => by show μ 99 i = μ 99 (40 * 0 + i); rw [show 40 * 0 + i = i by omega])
theorem c_lf_yes {F N i : Nat} {μ : Mem} (h : μ 9 6 = nI N) (hN : N ≤ 40) (hi : i < N) : fX3_has F (nI i) μ = some (1, μ) := by
  unfold fX3_has
  rw [if_neg (nI_pos (by omega)), h, if_neg (nI_ge hi (by omega)), zr_1]
theorem c_lf_no {F N : Nat} {x : Int32} {μ : Mem} (h : μ 9 6 = nI N) (hN : N ≤ 40) (hx : x.toInt < 0 ∨ (N : Int) ≤ x.toInt) : fX3_has F x μ = some (0, μ) := by
  unfold fX3_has
  rw [h]
  by_cases h0 : x < 0
  · rw [if_pos h0, zr_0]
  · rw [if_neg h0, if_pos, zr_0]
    rw [Int32.lt_iff_toInt_lt, toInt_0] at h0
    rw [Int32.le_iff_toInt_le, nI_toInt (by omega)]
    omega
theorem m_lf_yes {F N i : Nat} {μ : Mem} (h : μ 94 0 = nI N) (hN : N ≤ 40) (hi : i < N) : fX9_isLoaf F (nI i) μ = some (1, μ) := by
  have e : (nI i).toInt = i := nI_toInt (by omega)
  unfold fX9_isLoaf
  rw [show (0 : Int32) = nI 0 from rfl, rd_n (by decide), h, m_in_z hN, if_pos (by omega), cal_n, zr_1]
theorem m_lf_no {F N : Nat} {x : Int32} {μ : Mem} (h : μ 94 0 = nI N) (hN : N ≤ 40) (hx : x.toInt < 0 ∨ (N : Int) ≤ x.toInt) : fX9_isLoaf F x μ = some (0, μ) := by
  unfold fX9_isLoaf
  rw [show (0 : Int32) = nI 0 from rfl, rd_n (by decide), h, m_in_z hN, if_neg (by omega), cal_n, zr_0]
  rfl
theorem op_at (a : Int32) : OpW wq (fX8_at FF a) (fX9_at FF a) := by
  intro μ hI
  obtain ⟨N, hL⟩ := hI.2.1
  have h9 : μ 9 6 = nI N := hL.2.1
  have h94 : μ 94 0 = nI N := hL.2.2.1
  have hN := hL.1
  unfold fX8_at fX9_at
  rcases ix a N (by omega) with ⟨i, hi, rfl⟩ | h
  · refine ⟨μ 14 i, μ 99 i, μ, μ, ?_, ?_, hI, (hL.eqs hi).2.2.2.2⟩
    · rw [c_lf_yes h9 hN hi, cal_n, if_neg one_ne, rd_n (by show i < 40; omega)]
    · rw [m_lf_yes h94 hN hi, cal_n, if_neg one_ne, rd_n (by show i < 240; omega)]
  · exact ⟨_, _, _, _, by rw [c_lf_no h9 hN h, cal_n, if_pos rfl], by rw [m_lf_no h94 hN h, cal_n, if_pos rfl], hI, fun _ => rfl⟩
theorem op_best (a : Int32) : Op wq (fX8_best FF a) (fX9_best FF a) := by
  intro μ hI
  obtain ⟨B, b1, b2, b3, b4, b5, b6, b7, b8, b9⟩ := hI.2.2.2.1
  unfold fX8_best fX9_best
  rcases ix a B (by omega) with ⟨i, hi, rfl⟩ | h
  · have h14 : ¬ μ 89 14 = 0 := fun q => by have := b7 q; omega
    have e : (nI i).toInt = i := nI_toInt (by omega)
    refine ⟨μ 54 i, μ, μ, ?_, ?_, hI⟩
    · rw [if_neg (nI_pos (by omega)), b2, if_neg (nI_ge hi (by omega)), rd_n (by show i < 40; omega)]
    · rw [if_neg h14, b3, m_in_z b1, if_pos (by omega), cal_n, if_neg one_ne, rd_n (by show i < 40; omega), b4 i hi]
  · refine ⟨-1, μ, μ, ?_, ?_, hI⟩
    · by_cases h0 : a < 0
      · rw [if_pos h0]
      · rw [if_neg h0, b2, if_pos]
        rw [Int32.lt_iff_toInt_lt, toInt_0] at h0
        rw [Int32.le_iff_toInt_le, nI_toInt (by omega)]
        omega
    · by_cases h14 : μ 89 14 = 0
      · rw [if_pos h14]
      · rw [if_neg h14, b3, m_in_z b1, if_neg (by omega), cal_n, if_pos rfl]
theorem op_rings (a : Int32) : Op wq (fX8_rings FF a) (fX9_rings FF a) := by
  intro μ hI
  obtain ⟨r1, r2, r3⟩ := hI.2.2.2.2.1
  unfold fX8_rings fX9_rings
  rcases r1 with h | h
  · exact ⟨_, _, _, by rw [if_pos h], by rw [if_pos (r2.symm.trans h)], hI⟩
  · have h0 : ¬ μ 61 10 = 0 := by rw [h]; decide
    have h0' : ¬ μ 89 33 = 0 := by rw [← r2]; exact h0
    obtain ⟨q1, q2, q3, q4⟩ := r3 h
    simp only [if_neg h0, if_neg h0']
    rcases small a 3 (by decide) with hx | ⟨s, hs, rfl⟩
    · have n0 : ¬ a = 0 := fun q => small_no (n := 3) (by decide) hx (by rw [q]; decide)
      have n1 : ¬ a = 1 := fun q => small_no (n := 3) (by decide) hx (by rw [q]; decide)
      have n2 : ¬ a = 2 := fun q => small_no (n := 3) (by decide) hx (by rw [q]; decide)
      have n3 : ¬ a = 3 := fun q => small_no (n := 3) (by decide) hx (by rw [q]; decide)
      exact ⟨_, _, _, by rw [if_neg n0, if_neg n1, if_neg n2, if_neg n3], by rw [if_neg h0', show (0 : Int64) = Int64.ofNat 0 from rfl, show (3 : Int64) = Int64.ofNat 3 from rfl, m_in_no (by decide) hx, cal_n, if_pos rfl], hI⟩
    · have hm : cal (fX9_in FF (nI s).toInt64 0 3 μ) (fun r2 m1 => if r2 = 0 then some ((-2 : Int32), m1) else rd m1 115 (nI s) fun v3 => some (v3, m1)) = some (μ 115 s, μ) := by
        rw [show (0 : Int64) = Int64.ofNat 0 from rfl, show (3 : Int64) = Int64.ofNat 3 from rfl, m_in_yes (by decide) hs, cal_n, if_neg one_ne, rd_n (by show s < 4; omega)]
      have h4 : s = 0 ∨ s = 1 ∨ s = 2 ∨ s = 3 := by omega
      rcases h4 with rfl | rfl | rfl | rfl
      · exact ⟨_, _, _, if_pos rfl, by rw [if_neg h0', hm, q1], hI⟩
      · exact ⟨_, _, _, (if_neg (show ¬ nI 1 = 0 by decide)).trans (if_pos rfl), by rw [if_neg h0', hm, q2], hI⟩
      · exact ⟨_, _, _, ((if_neg (show ¬ nI 2 = 0 by decide)).trans (if_neg (show ¬ nI 2 = 1 by decide))).trans (if_pos rfl), by rw [if_neg h0', hm, q3], hI⟩
      · exact ⟨_, _, _, (((if_neg (show ¬ nI 3 = 0 by decide)).trans (if_neg (show ¬ nI 3 = 1 by decide))).trans (if_neg (show ¬ nI 3 = 2 by decide))).trans (if_pos rfl), by rw [if_neg h0', hm, q4], hI⟩
theorem m_mix {N : Nat} {μ : Mem} (hN : μ 94 0 = nI N) (hk : N ≤ 40) : fX9_allMix FF μ = some (sumF (μ 95) N, μ) := m_mix_loop hN hk N FF 0 (by omega) (by rw [FF_e]; omega)
theorem m_bake_loop {F N : Nat} {μ : Mem} (hN : μ 94 0 = nI N) (hk : N ≤ 40) : ∀ (d n i : Nat), i + d = N → d < n → fX9_allBake_4 F n (sumF (μ 96) i) (nI i) μ = some (sumF (μ 96) N, μ) := by
  intro d
  induction d with
  | zero =>
    intro n i hi hn
    obtain ⟨n, rfl⟩ : ∃ n', n = n' + 1 := ⟨n - 1, by omega⟩
    show fX9_allBake_4_b F _ _ _ μ = _
    unfold fX9_allBake_4_b
    rw [show (0 : Int32) = nI 0 from rfl, rd_n (by decide), hN, if_pos (nI_le (by omega) (by omega)), show i = N by omega]
  | succ d ih =>
    intro n i hi hn
    obtain ⟨n, rfl⟩ : ∃ n', n = n' + 1 := ⟨n - 1, by omega⟩
    show fX9_allBake_4_b F _ _ _ μ = _
    unfold fX9_allBake_4_b
    rw [show (0 : Int32) = nI 0 from rfl, rd_n (by decide), hN, if_neg (nI_ge (by omega) (by omega)), rd_n (by show i < 240; omega), nI_add1]
    exact ih n (i + 1) (by omega) (by omega)
theorem m_bake {N : Nat} {μ : Mem} (hN : μ 94 0 = nI N) (hk : N ≤ 40) : fX9_allBake FF μ = some (sumF (μ 96) N, μ) := m_bake_loop hN hk N FF 0 (by omega) (by rw [FF_e]; omega)
theorem op_count (a : Int32) : Op wq (fX8_count FF a) (fX9_count FF a) := by
  intro μ hI
  obtain ⟨N, hL⟩ := hI.2.1
  have h9 : μ 9 6 = nI N := hL.2.1
  have h94 : μ 94 0 = nI N := hL.2.2.1
  have hN := hL.1
  unfold fX8_count fX9_count
  by_cases c0 : a = 0
  · exact ⟨_, _, _, by rw [if_pos c0], by rw [if_pos c0, show (0 : Int32) = nI 0 from rfl, rd_n (by decide), h94, h9], hI⟩
  by_cases c1 : a = 1
  · exact ⟨_, _, _, by rw [if_neg c0, if_pos c1, c_sum h9 (by show N ≤ 40; omega), cal_n], by rw [if_neg c0, if_pos c1, m_mix h94 hN, cal_n, sumF_congr (fun i hi => (hL.eqs hi).1)], hI⟩
  by_cases c2 : a = 2
  · exact ⟨_, _, _, by rw [if_neg c0, if_neg c1, if_pos c2, c_sum h9 (by show N ≤ 40; omega), cal_n], by rw [if_neg c0, if_neg c1, if_pos c2, m_bake h94 hN, cal_n, sumF_congr (fun i hi => (hL.eqs hi).2.1)], hI⟩
  by_cases c3 : a = 3
  · obtain ⟨B, b1, b2, b3, b4, b5, b6, b7, b8, b9⟩ := hI.2.2.2.1
    rw [if_neg c0, if_neg c1, if_neg c2, if_pos c3]
    simp only [if_neg c0, if_neg c1, if_neg c2, if_pos c3]
    rw [b8]
    by_cases h14 : μ 89 14 = 0
    · simp only [if_pos h14]
      exact ⟨_, _, _, by rw [if_pos trivial], by rw [if_pos h14], hI⟩
    · simp only [if_neg h14]
      by_cases h15 : μ 89 15 = 0
      · exact ⟨_, _, _, by rw [if_pos h15], by rw [if_neg h14, if_pos h15], hI⟩
      · exact ⟨_, _, _, by rw [if_neg h15], by rw [if_neg h14, if_neg h15], hI⟩
  by_cases c4 : a = 4
  · obtain ⟨nx, K, k1, k2, k3, k4, k5, k6⟩ := hI.2.2.1
    exact ⟨_, _, _, by rw [if_neg c0, if_neg c1, if_neg c2, if_neg c3, if_pos c4], by rw [if_neg c0, if_neg c1, if_neg c2, if_neg c3, if_pos c4, k5, k4], hI⟩
  by_cases c5 : a = 5
  · exact ⟨_, _, _, by rw [if_neg c0, if_neg c1, if_neg c2, if_neg c3, if_neg c4, if_pos c5], by rw [if_neg c0, if_neg c1, if_neg c2, if_neg c3, if_neg c4, if_pos c5, hI.1.1], hI⟩
  exact ⟨_, _, _, by rw [if_neg c0, if_neg c1, if_neg c2, if_neg c3, if_neg c4, if_neg c5], by rw [if_neg c0, if_neg c1, if_neg c2, if_neg c3, if_neg c4, if_neg c5], hI⟩
theorem c_pr {F : Nat} {x : Int32} {μ : Mem} : fX8_isPrice F x μ = some (if -100 ≤ x.toInt ∧ x.toInt ≤ 100 then 1 else 0, μ) := by
  unfold fX8_isPrice
  rw [if_m (q := x.toInt < -100) (by rw [Int32.lt_iff_toInt_lt]; exact Iff.rfl)]
  by_cases h : x.toInt < -100
  · rw [if_pos h, if_neg (by omega), zr_0]
  · rw [if_neg h, if_m (q := 100 < x.toInt) (by rw [Int32.lt_iff_toInt_lt]; exact Iff.rfl)]
    by_cases h2 : 100 < x.toInt
    · rw [if_pos h2, if_neg (by omega), zr_0]
    · rw [if_neg h2, if_pos (by omega), zr_1]
theorem m_pr {F : Nat} {x : Int32} {μ : Mem} : fX9_in F x.toInt64 (-100) 100 μ = some (if -100 ≤ x.toInt ∧ x.toInt ≤ 100 then 1 else 0, μ) := by
  unfold fX9_in
  rw [if_m (q := x.toInt < -100) (by rw [Int64.lt_iff_toInt_lt, Int32.toInt_toInt64]; exact Iff.rfl)]
  by_cases h : x.toInt < -100
  · rw [if_pos h, if_neg (by omega), zr_0]
  · rw [if_neg h, if_m (q := 100 < x.toInt) (by rw [Int64.lt_iff_toInt_lt, Int32.toInt_toInt64]; exact Iff.rfl)]
    by_cases h2 : 100 < x.toInt
    · rw [if_pos h2, if_neg (by omega), zr_0]
    · rw [if_neg h2, if_pos (by omega), zr_1]
theorem op_price (a b c : Int32) : Op wq (fX8_price FF a b c) (fX9_price FF a b c) := by
  intro μ hI
  unfold fX8_price fX9_price
  rw [show (0 : Int64) = Int64.ofNat 0 from rfl, show (7 : Int64) = Int64.ofNat 7 from rfl]
  rcases small a 7 (by decide) with h | ⟨s, hs, rfl⟩
  · exact ⟨_, _, _, t_no (n := 7) (by decide) h, by rw [m_in_no (by decide) h, cal_n, if_pos rfl], hI⟩
  rw [if_neg (nI_pos (by omega)), show (8 : Int32) = nI 8 from rfl, if_neg (nI_ge (by omega) (by omega)), c_pr]
  simp only [m_in_yes (show 7 < 2 ^ 31 by decide) hs, cal_n, if_neg one_ne, m_pr]
  by_cases hb : -100 ≤ b.toInt ∧ b.toInt ≤ 100
  · simp only [if_pos hb, if_neg one_ne, c_pr, cal_n]
    by_cases hc : -100 ≤ c.toInt ∧ c.toInt ≤ 100
    · simp only [if_pos hc, if_neg one_ne]
      have s8 : s < ln 74 := by show s < 8; omega
      refine ⟨1, upM (upM μ 74 (upd (μ 74) s b)) 75 (upd (μ 75) s c), upM (upM (upM (upM μ 74 (upd (μ 74) s b)) 75 (upd (μ 75) s c)) 101 (upd (μ 101) s b)) 102 (upd (μ 102) s c), by rw [wr_n s8, wr_n (by exact s8)]; rfl, by rw [wr_n (by exact s8), wr_n (by exact s8)]; rfl, ?_⟩
      have g : Ag [74, 75, 101, 102] [] μ (upM (upM (upM (upM μ 74 (upd (μ 74) s b)) 75 (upd (μ 75) s c)) 101 (upd (μ 101) s b)) 102 (upd (μ 102) s c)) := (((Ag.up (by decide) (by decide)).tr (Ag.up (by decide) (by decide))).tr (Ag.up (by decide) (by decide))).tr (Ag.up (by decide) (by decide))
      obtain ⟨i1, i2, i3, i4, i5, i6⟩ := hI
      refine ⟨i1.ag g, i2.ag g, i3.ag g, i4.ag g (by rw [g.at 9]), i5.ag g, fun i hi => ?_⟩
      show upd (μ 74) s b i = upd (μ 101) s b i ∧ upd (μ 75) s c i = upd (μ 102) s c i ∧ (-100 ≤ upd (μ 74) s b i ∧ upd (μ 74) s b i ≤ 100) ∧ (-100 ≤ upd (μ 75) s c i ∧ upd (μ 75) s c i ≤ 100) ∧ μ 77 i = 1 ∧ μ 78 i = 0
      obtain ⟨p1, p2, p3, p4, p5, p6⟩ := i6 i hi
      by_cases e : i = s
      · subst e
        rw [upd_s, upd_s, upd_s, upd_s]
        refine ⟨rfl, rfl, ?_, ?_, p5, p6⟩
        · rw [Int32.le_iff_toInt_le, Int32.le_iff_toInt_le]; exact hb
        · rw [Int32.le_iff_toInt_le, Int32.le_iff_toInt_le]; exact hc
      · rw [upd_ne e, upd_ne e, upd_ne e, upd_ne e]
        exact ⟨p1, p2, p3, p4, p5, p6⟩
    · simp only [if_neg hc]
      exact ⟨_, _, _, by rw [if_pos trivial], by rw [if_pos trivial], hI⟩
  · simp only [if_neg hb]
    exact ⟨_, _, _, by rw [if_pos trivial], by rw [if_pos trivial], hI⟩
