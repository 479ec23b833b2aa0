/-! the rule's row -/
def ruK (X B : Nat → Int32) (i : Nat) : Int32 := if B i < X i then 200001 - B i else X i
def ruF (X B : Nat → Int32) (i : Nat) (g : Nat → Int32) : Nat → Int32 := fun p => if p < i then ruK X B p else g p
theorem ruF_s {X B : Nat → Int32} {i : Nat} {g : Nat → Int32} : upd (ruF X B i g) i (ruK X B i) = ruF X B (i + 1) g := by
  funext p
  unfold upd ruF
  by_cases h1 : p = i
  · rw [if_pos h1, if_pos (by omega), h1]
  · rw [if_neg h1]
    by_cases h2 : p < i
    · rw [if_pos h2, if_pos (by omega)]
    · rw [if_neg h2, if_neg (by omega)]
theorem c_rule_loop {N k1 : Nat} {μ : Mem} (hN : N ≤ 40) (h : μ 9 6 = nI N) : ∀ (d n i : Nat), i + d = N → d < n → fX3_byRule_2 FF k1 n (nI i) (upM μ 15 (ruF (μ 10) (μ 11) i (μ 15))) = cav (fX8_rank FF 15 (nI N) k1 (upM μ 15 (ruF (μ 10) (μ 11) N (μ 15)))) (fun m1 => some m1) := by
  intro d
  induction d with
  | zero =>
    intro n i hi hn
    obtain ⟨n, rfl⟩ : ∃ n', n = n' + 1 := ⟨n - 1, by omega⟩
    show fX3_byRule_2_b FF k1 _ _ _ = _
    unfold fX3_byRule_2_b
    rw [upM_ne (by omega), h, if_pos (nI_le (by omega) (by omega)), show i = N by omega]
  | succ d ih =>
    intro n i hi hn
    obtain ⟨n, rfl⟩ : ∃ n', n = n' + 1 := ⟨n - 1, by omega⟩
    have i40 : i < 40 := by omega
    show fX3_byRule_2_b FF k1 _ _ _ = _
    unfold fX3_byRule_2_b
    rw [upM_ne (by omega), h, if_neg (nI_ge (by omega) (by omega)), rd_n (by exact i40), rd_n (by exact i40), rd_n (by exact i40), rd_n (by exact i40), wr_n (by exact i40), wr_n (by exact i40), nI_add1, upM_upM, upM_upM, upM_self, upM_ne (by omega), upM_ne (by omega), ← ih n (i + 1) (by omega) (by omega), ← ruF_s]
    have e : ruK (μ 10) (μ 11) i = if μ 11 i < μ 10 i then 200001 - μ 11 i else μ 10 i := rfl
    by_cases c : μ 11 i < μ 10 i
    · rw [if_pos c] at e
      rw [if_pos c, e]
    · rw [if_neg c] at e
      rw [if_neg c, e]
theorem c_byRule {N k1 : Nat} {μ : Mem} (hN : N ≤ 40) (hk : N ≤ ln k1) (h15 : k1 ≠ 15) (h : μ 9 6 = nI N) : ∃ μ', fX3_byRule FF k1 μ = some μ' ∧ (∀ k, k ≠ 15 → k ≠ k1 → μ' k = μ k) ∧ μ' k1 = srI (gtK (ruF (μ 10) (μ 11) N (μ 15))) (μ k1) N := by
  refine ⟨upM (upM μ 15 (ruF (μ 10) (μ 11) N (μ 15))) k1 (srI (gtK (ruF (μ 10) (μ 11) N (μ 15))) (μ k1) N), ?_, fun k q1 q2 => by rw [upM_ne q2, upM_ne q1], by rw [upM_self]⟩
  have l := c_rule_loop (k1 := k1) (μ := μ) hN h N FF 0 (by omega) (by rw [FF_e]; omega)
  have e0 : ruF (μ 10) (μ 11) 0 (μ 15) = μ 15 := funext fun p => if_neg (by omega)
  rw [e0, upM_id, c_rank (by omega) hk (by exact hN), cav_n, upM_self, upM_ne h15] at l
  exact l
/-- the reference's question -/
def ahd (X B : Nat → Int32) (s x : Nat) : Bool := decide (¬ ruK X B s ≤ ruK X B x)
theorem ruK_n {X B : Nat → Int32} {i x b : Nat} (hx : X i = nI x) (hb : B i = nI b) (lx : x ≤ 100000) (lb : b ≤ 100000) : ruK X B i = nI (if b < x then 200001 - b else x) := by
  unfold ruK
  rw [hx, hb, iflt (by omega) (by omega)]
  by_cases c : b < x
  · rw [if_pos c, if_pos c, show (200001 : Int32) = nI 200001 from rfl, nI_sub (by omega)]
  · rw [if_neg c, if_neg c]
theorem m_ahead {F s x a b c d : Nat} {μ : Mem} (hs : s < x) (hx : x < 40) (h1 : μ 95 x = nI a) (h2 : μ 96 x = nI b) (h3 : μ 95 s = nI c) (h4 : μ 96 s = nI d) (la : a ≤ 100000) (lb : b ≤ 100000) (lc : c ≤ 100000) (ld : d ≤ 100000) : fX9_isAhead F (nI x) (nI s) μ = some (if ahd (μ 95) (μ 96) s x = true then 1 else 0, μ) := by
  have l95 : x < ln 95 := by show x < 240; omega
  have l96 : x < ln 96 := by show x < 240; omega
  have s95 : s < ln 95 := by show s < 240; omega
  have s96 : s < ln 96 := by show s < 240; omega
  have hA : (ahd (μ 95) (μ 96) s x = true) ↔ ¬ (if d < c then 200001 - d else c) ≤ (if b < a then 200001 - b else a) := by
    unfold ahd
    rw [decide_eq_true_iff, ruK_n h3 h4 lc ld, ruK_n h1 h2 la lb]
    have e1 : (if d < c then 200001 - d else c) < 2 ^ 31 := by by_cases q : d < c; rw [if_pos q]; omega; rw [if_neg q]; omega
    have e2 : (if b < a then 200001 - b else a) < 2 ^ 31 := by by_cases q : b < a; rw [if_pos q]; omega; rw [if_neg q]; omega
    rw [nI_leI e1 e2]
  have cmp : ∀ u v : Nat, u ≤ 100000 → v ≤ 100000 → fX9_isAhead_80 F (nI x) (nI s) (nI u - nI v) μ = some (if u < v then 1 else 0, μ) := by
    intro u v hu hv
    have eu : (nI u).toInt = u := nI_toInt (by omega)
    have ev : (nI v).toInt = v := nI_toInt (by omega)
    have es : (nI u - nI v).toInt = (u : Int) - v := by rw [sub_toInt (by omega) (by omega), eu, ev]
    unfold fX9_isAhead_80
    by_cases q1 : u < v
    · rw [if_pos q1, if_pos, zr_1]
      rw [Int32.lt_iff_toInt_lt, es, toInt_0]
      omega
    · rw [if_neg q1, if_neg (by rw [Int32.lt_iff_toInt_lt, es, toInt_0]; omega)]
      by_cases q2 : nI u - nI v = 0
      · rw [if_pos q2, if_pos (nI_le (by omega) (by omega)), zr_0]
      · rw [if_neg q2, zr_0]
  have g1 : fX9_isAhead F (nI x) (nI s) μ = fX9_isAhead_20 F (nI x) (nI s) (if b < a then 0 else 1) μ := by
    unfold fX9_isAhead
    rw [rd_n l95, rd_n l96, h1, h2, iflt (by omega) (by omega)]
    by_cases q : b < a
    · rw [if_pos q, if_pos q]
    · rw [if_neg q, if_neg q]
  rw [g1]
  unfold fX9_isAhead_20
  rw [rd_n s95, rd_n s96, h3, h4, iflt (by omega) (by omega)]
  unfold fX9_isAhead_42
  rw [rd_n s96, rd_n l96, rd_n l95, rd_n s95, h1, h2, h3, h4, cmp d b ld lb, cmp a c la lc]
  by_cases q1 : b < a
  · simp only [if_pos q1] at hA ⊢
    by_cases q2 : d < c
    · simp only [if_pos q2] at hA ⊢
      rw [if_pos trivial, if_pos trivial]
      by_cases q3 : d < b
      · rw [if_pos q3, if_pos (hA.mpr (by omega))]
      · rw [if_neg q3, if_neg (fun w => hA.mp w (by omega))]
    · simp only [if_neg q2] at hA ⊢
      rw [if_neg (by decide), if_neg (fun w => hA.mp w (by omega)), zr_0]
  · simp only [if_neg q1] at hA ⊢
    by_cases q2 : d < c
    · simp only [if_pos q2] at hA ⊢
      rw [if_neg (by decide), if_pos (hA.mpr (by omega)), zr_1]
    · simp only [if_neg q2] at hA ⊢
      rw [if_pos trivial, if_neg (by decide)]
      by_cases q3 : a < c
      · rw [if_pos q3, if_pos (hA.mpr (by omega))]
      · rw [if_neg q3, if_neg (fun w => hA.mp w (by omega))]
