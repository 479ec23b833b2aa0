/-! loaves taken from two sheets -/
variable {wq : Prop}
theorem m_in_g {F : Nat} {x : Int32} {a b : Int64} {la lb : Int} {μ : Mem} (ha : a.toInt = la) (hb : b.toInt = lb) : fX9_in F x.toInt64 a b μ = some (if la ≤ x.toInt ∧ x.toInt ≤ lb then 1 else 0, μ) := by
  unfold fX9_in
  rw [if_m (q := x.toInt < la) (by rw [Int64.lt_iff_toInt_lt, Int32.toInt_toInt64, ha])]
  by_cases h : x.toInt < la
  · rw [if_pos h, if_neg (by omega), zr_0]
  · rw [if_neg h, if_m (q := lb < x.toInt) (by rw [Int64.lt_iff_toInt_lt, Int32.toInt_toInt64, hb])]
    by_cases h2 : lb < x.toInt
    · rw [if_pos h2, if_neg (by omega), zr_0]
    · rw [if_neg h2, if_pos (by omega), zr_1]
theorem fnd_take {μ : Mem} {f g : Mem → Option (Int32 × Mem)} (v : Int32) (hI : Inv wq μ) (hf : f μ = fX7_finding FF v μ) (hg : ∀ μ', (∀ k, k ≠ 1 → μ' k = μ k) → g μ' = fX9_met FF v μ') : ∃ r μ1 μ2, f μ = some (r, μ1) ∧ g μ1 = some (r, μ2) ∧ Inv wq μ2 := ⟨_, upM μ 1 (upd (μ 1) 3 v), _, hf.trans rfl, (hg _ (fun k hk => upM_ne hk)).trans rfl, fnd hI⟩
def Sp (x : Int32) : Prop := ∃ j, j ≤ 100000 ∧ x = nI j
theorem sp_no {x : Int32} (h : x < 0 ∨ nI 100000 < x) : ¬ Sp x := by
  rintro ⟨j, hj, rfl⟩
  refine small_no (n := 100000) (by decide) h ⟨?_, (nI_leI (by omega) (by omega)).mpr hj⟩
  exact (nI_leI (a := 0) (by omega) (by omega)).mpr (by omega)
theorem m_take_n {s t n N : Nat} {μ : Mem} (hs : s ≤ 3) (ht : t ≤ 3) (h1 : 1 ≤ n) (hn : N + n ≤ 40) (h94 : μ 94 0 = nI N) : fX9_take FF (nI s) (nI t) (nI n) μ = if μ 90 s < 0 then fX9_met FF 1 μ else if 0 ≤ μ 90 t then (if μ 91 s < nI n then fX9_met FF 2 μ else if nI n ≤ μ 91 t then fX9_take_98 FF FF (nI s) (nI t) (nI n) 0 μ else fX9_met FF 2 μ) else fX9_met FF 1 μ := by
  have en : (nI n).toInt = n := nI_toInt (by omega)
  unfold fX9_take
  rw [m_sh_yes hs, cal_n, if_neg one_ne, m_sh_yes ht, cal_n, if_neg one_ne, m_in_g (la := 1) (lb := 40) rfl rfl, if_pos (by omega), cal_n, if_neg one_ne, show (0 : Int32) = nI 0 from rfl, rd_n (by decide), h94, nI_add, show (40 : Int32) = nI 40 from rfl, ifle (by omega) (by omega), if_pos hn, rd_n (by show s < 4; omega), rd_n (by show t < 4; omega), rd_n (by show s < 4; omega), rd_n (by show t < 4; omega)]
  rfl
theorem c_take_n {s t n N zs zt : Nat} {μ : Mem} (hs : s ≤ 3) (ht : t ≤ 3) (h1 : 1 ≤ n) (hn : N + n ≤ 40) (h9 : μ 9 6 = nI N) (es : μ 3 s = nI zs) (et : μ 3 t = nI zt) (ls : zs ≤ 40) (lt : zt ≤ 40) : fX8_take FF (nI s) (nI t) (nI n) μ = if μ 2 s = -1 then fX7_finding FF 1 μ else if μ 2 t = -1 then fX7_finding FF 1 μ else if zs < n then fX7_finding FF 2 μ else if zt < n then fX7_finding FF 2 μ else cal (fX8_areSpans FF (5 + s) (nI n) μ) (fun r15 m14 => if r15 = 0 then some (-2, m14) else cal (fX8_areSpans FF (5 + t) (nI n) m14) (fun r18 m17 => if r18 = 0 then some (-2, m17) else cav (fX2_keep FF m17) (fun m19 => fX8_take_160 FF FF (nI s) (nI t) (nI n) 0 m19))) := by
  have en : (nI n).toInt = n := nI_toInt (by omega)
  have z0 : (0 : Int32) = nI 0 := rfl
  unfold fX8_take
  rw [c_sh_yes hs, cal_n, if_neg one_ne, c_sh_yes ht, cal_n, if_neg one_ne, if_neg (show ¬ nI n < (1 : Int32) from fun q => absurd ((nI_ltI (a := n) (b := 1) (by omega) (by omega)).mp q) (by omega)), show (40 : Int32) = nI 40 from rfl, if_pos (nI_le (by omega) (by omega)), h9, nI_add, ifle (by omega) (by omega), if_pos hn]
  unfold fX7_isLost
  rw [rd_n (by show s < 4; omega)]
  by_cases q1 : μ 2 s = -1
  · rw [if_pos q1, if_pos q1, zr_1, cal_n, if_neg one_ne]; rfl
  rw [if_neg q1, if_neg q1, zr_0, cal_n, if_pos rfl, rd_n (by show t < 4; omega)]
  by_cases q2 : μ 2 t = -1
  · rw [if_pos q2, if_pos q2, zr_1, cal_n, if_neg one_ne]; rfl
  rw [if_neg q2, if_neg q2, zr_0, cal_n, if_pos rfl]
  have e0 : (0 : Int32).toInt = 0 := rfl
  by_cases q3 : zs < n
  · rw [if_pos q3, c_has_no (by omega) ls es (by omega), cal_n, if_pos rfl]; rfl
  rw [if_neg q3, show fX7_hasItems FF (nI s) 0 (nI n) μ = some (1, μ) from c_has_yes (i := 0) (by omega) ls es (by omega), cal_n, if_neg one_ne]
  by_cases q4 : zt < n
  · rw [if_pos q4, c_has_no (by omega) lt et (by omega), cal_n, if_pos rfl]; rfl
  rw [if_neg q4, show fX7_hasItems FF (nI t) 0 (nI n) μ = some (1, μ) from c_has_yes (i := 0) (by omega) lt et (by omega), cal_n, if_neg one_ne]
  simp only [rr_n (show s < ln 4 by show s < 4; omega), rr_n (show t < ln 4 by show t < 4; omega), (gt4 (show s < 4 by omega)).1, (gt4 (show t < 4 by omega)).1]
theorem c_spans {F k N : Nat} {μ : Mem} (hN : N ≤ 40) (hk : ln k = 40) : ∀ (d n i : Nat), i + d = N → d < n → ((∀ j, i ≤ j → j < N → Sp (μ k j)) ∧ fX8_areSpans_2 F k n (nI N) (nI i) μ = some (1, μ)) ∨ ((∃ j, i ≤ j ∧ j < N ∧ ¬ Sp (μ k j)) ∧ fX8_areSpans_2 F k n (nI N) (nI i) μ = some (0, μ)) := by
  intro d
  induction d with
  | zero =>
    intro n i hi hn
    obtain ⟨n, rfl⟩ : ∃ n', n = n' + 1 := ⟨n - 1, by omega⟩
    left
    refine ⟨fun j h1 h2 => by omega, ?_⟩
    show fX8_areSpans_2_b F k _ _ _ _ = _
    unfold fX8_areSpans_2_b
    rw [if_pos (nI_le (by omega) (by omega)), zr_1]
  | succ d ih =>
    intro n i hi hn
    obtain ⟨n, rfl⟩ : ∃ n', n = n' + 1 := ⟨n - 1, by omega⟩
    have e : fX8_areSpans_2 F k (n + 1) (nI N) (nI i) μ = cal (fX8_isSpan F (μ k i) μ) (fun r3 m2 => (if r3 = 0 then zr 0 m2 else fX8_areSpans_2 F k n (nI N) (nI (i + 1)) m2)) := by
      show fX8_areSpans_2_b F k _ _ _ _ = _
      unfold fX8_areSpans_2_b
      rw [if_neg (nI_ge (by omega) (by omega)), rd_n (by omega), nI_add1]
    rw [e]
    rcases small (μ k i) 100000 (by decide) with h | ⟨x, hx, h⟩
    · right
      rw [c_sp_no h, cal_n, if_pos rfl, zr_0]
      exact ⟨⟨i, by omega, by omega, sp_no h⟩, rfl⟩
    · rw [h, c_sp_yes hx, cal_n, if_neg one_ne]
      rcases ih n (i + 1) (by omega) (by omega) with ⟨h1, h2⟩ | ⟨⟨j, j1, j2, j3⟩, h2⟩
      · left
        refine ⟨fun j j1 j2 => ?_, h2⟩
        by_cases hj : j = i
        · rw [hj]; exact ⟨x, hx, h⟩
        · exact h1 j (by omega) j2
      · right
        exact ⟨⟨j, by omega, j2, j3⟩, h2⟩
theorem m_spans {F s t N : Nat} {μ : Mem} (hN : N ≤ 40) (hs : s < 4) (ht : t < 4) : ∀ (d n i : Nat), i + d = N → d < n → ((∀ j, i ≤ j → j < N → Sp (μ 92 (40 * s + j)) ∧ Sp (μ 92 (40 * t + j))) ∧ fX9_take_98 F n (nI s) (nI t) (nI N) (nI i) μ = cav (fX9_keep F μ) (fun m20 => fX9_take_166 F F (nI s) (nI t) (nI N) 0 m20)) ∨ ((∃ j, i ≤ j ∧ j < N ∧ ¬ (Sp (μ 92 (40 * s + j)) ∧ Sp (μ 92 (40 * t + j)))) ∧ fX9_take_98 F n (nI s) (nI t) (nI N) (nI i) μ = some (-2, μ)) := by
  intro d
  induction d with
  | zero =>
    intro n i hi hn
    obtain ⟨n, rfl⟩ : ∃ n', n = n' + 1 := ⟨n - 1, by omega⟩
    left
    refine ⟨fun j h1 h2 => by omega, ?_⟩
    show fX9_take_98_b F _ _ _ _ _ _ = _
    unfold fX9_take_98_b
    rw [if_pos (nI_le (by omega) (by omega))]
  | succ d ih =>
    intro n i hi hn
    obtain ⟨n, rfl⟩ : ∃ n', n = n' + 1 := ⟨n - 1, by omega⟩
    have e : fX9_take_98 F (n + 1) (nI s) (nI t) (nI N) (nI i) μ = cal (fX9_in F (μ 92 (40 * s + i)).toInt64 0 100000 μ) (fun r23 m22 => (if r23 = 0 then some (-2, m22) else rd m22 92 (nI (40 * t + i)) (fun v24 => cal (fX9_in F v24.toInt64 0 100000 m22) (fun r26 m25 => (if r26 = 0 then some (-2, m25) else fX9_take_98 F n (nI s) (nI t) (nI N) (nI (i + 1)) m25))))) := by
      show fX9_take_98_b F _ _ _ _ _ _ = _
      unfold fX9_take_98_b
      rw [if_neg (nI_ge (by omega) (by omega)), mul40, mul40, rd_n (by show _ < 160; omega), nI_add1]
    rw [e]
    rcases small (μ 92 (40 * s + i)) 100000 (by decide) with h | ⟨x, hx, h⟩
    · right
      rw [m_sp_no h, cal_n, if_pos rfl]
      exact ⟨⟨i, by omega, by omega, fun q => sp_no h q.1⟩, rfl⟩
    rw [h, m_sp_yes hx, cal_n, if_neg one_ne, rd_n (by show _ < 160; omega)]
    rcases small (μ 92 (40 * t + i)) 100000 (by decide) with h' | ⟨y, hy, h'⟩
    · right
      rw [m_sp_no h', cal_n, if_pos rfl]
      exact ⟨⟨i, by omega, by omega, fun q => sp_no h' q.2⟩, rfl⟩
    rw [h', m_sp_yes hy, cal_n, if_neg one_ne]
    rcases ih n (i + 1) (by omega) (by omega) with ⟨h1, h2⟩ | ⟨⟨j, j1, j2, j3⟩, h2⟩
    · left
      refine ⟨fun j j1 j2 => ?_, h2⟩
      by_cases hj : j = i
      · rw [hj]; exact ⟨⟨x, hx, h⟩, ⟨y, hy, h'⟩⟩
      · exact h1 j (by omega) j2
    · right
      exact ⟨⟨j, by omega, j2, j3⟩, h2⟩
theorem c_take_loop {F s t N n : Nat} {μ : Mem} (hs : s < 4) (ht : t < 4) (hN : N + n ≤ 40) : ∀ (d w i : Nat), i + d = n → d < w → fX8_take_160 F w (nI s) (nI t) (nI n) (nI i) (cAdd N i (μ (5 + s)) (μ (5 + t)) μ) = some (nI (N + n), upM (cAdd N n (μ (5 + s)) (μ (5 + t)) μ) 53 (upd (μ 53) 2 0)) := by
  intro d
  induction d with
  | zero =>
    intro w i hi hw
    obtain ⟨w, rfl⟩ : ∃ n', w = n' + 1 := ⟨w - 1, by omega⟩
    obtain rfl : i = n := by omega
    show fX8_take_160_b F _ _ _ _ _ _ = _
    unfold fX8_take_160_b
    rw [if_pos (nI_le (by omega) (by omega)), st_n, cAdd_o (k := 53) (by omega)]
    rfl
  | succ d ih =>
    intro w i hi hw
    obtain ⟨w, rfl⟩ : ∃ n', w = n' + 1 := ⟨w - 1, by omega⟩
    show fX8_take_160_b F _ _ _ _ _ _ = _
    unfold fX8_take_160_b
    rw [if_neg (nI_ge (by omega) (by omega)), rr_n (by show s < 4; omega), (gt4 hs).1, rd_n (by rw [(gt4 hs).2]; omega), rr_n (by show t < 4; omega), (gt4 ht).1, rd_n (by rw [(gt4 ht).2]; omega), cAdd_o (k := 5 + s) (by omega), cAdd_o (k := 5 + t) (by omega), c_add (by omega), cav_n, nI_add1]
    exact ih w (i + 1) (by omega) (by omega)
theorem m_take_loop {F s t N n : Nat} {a b : Nat → Int32} {μ : Mem} (hs : s < 4) (ht : t < 4) (hN : N + n ≤ 40) (ha : ∀ i, i < n → μ 92 (40 * s + i) = a i) (hb : ∀ i, i < n → μ 92 (40 * t + i) = b i) : ∀ (d w i : Nat), i + d = n → d < w → fX9_take_166 F w (nI s) (nI t) (nI n) (nI i) (mAdd N i a b μ) = some (nI (N + n), mAdd N n a b μ) := by
  intro d
  induction d with
  | zero =>
    intro w i hi hw
    obtain ⟨w, rfl⟩ : ∃ n', w = n' + 1 := ⟨w - 1, by omega⟩
    obtain rfl : i = n := by omega
    show fX9_take_166_b F _ _ _ _ _ _ = _
    unfold fX9_take_166_b
    rw [if_pos (nI_le (by omega) (by omega)), show (0 : Int32) = nI 0 from rfl, rd_n (by decide)]
    rfl
  | succ d ih =>
    intro w i hi hw
    obtain ⟨w, rfl⟩ : ∃ n', w = n' + 1 := ⟨w - 1, by omega⟩
    show fX9_take_166_b F _ _ _ _ _ _ = _
    unfold fX9_take_166_b
    rw [if_neg (nI_ge (by omega) (by omega)), mul40, mul40, rd_n (by show _ < 160; omega), rd_n (by show _ < 160; omega), mAdd_o (k := 92) (by omega), ha i (by omega), hb i (by omega), m_come (by omega), cav_n, nI_add1]
    exact ih w (i + 1) (by omega) (by omega)
