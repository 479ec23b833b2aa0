variable {wq : Prop}
theorem sub_toInt {x y : Int32} (h1 : -2147483648 ≤ x.toInt - y.toInt) (h2 : x.toInt - y.toInt < 2147483648) : (x - y).toInt = x.toInt - y.toInt := by
  rw [Int32.toInt_sub]
  exact Int.bmod_eq_of_le (by omega) (by omega)
theorem add_toInt {x y : Int32} (h1 : -2147483648 ≤ x.toInt + y.toInt) (h2 : x.toInt + y.toInt < 2147483648) : (x + y).toInt = x.toInt + y.toInt := by
  rw [Int32.toInt_add]
  exact Int.bmod_eq_of_le (by omega) (by omega)
theorem i32_lo (x : Int32) : -2147483648 ≤ x.toInt ∧ x.toInt < 2147483648 := ⟨Int32.le_toInt x, Int32.toInt_lt x⟩
theorem toInt_0 : (0 : Int32).toInt = 0 := rfl
theorem toInt_1 : (1 : Int32).toInt = 1 := rfl
theorem toInt_m1 : (-1 : Int32).toInt = -1 := rfl
theorem of_toInt {x : Int32} {n : Nat} (h : x.toInt = n) (hn : n < 2 ^ 31) : x = nI n := Int32.toInt_inj.mp (by rw [h, nI_toInt hn])
/-- an index that a row has, or not -/
theorem ix (x : Int32) (z : Nat) (hz : z < 2 ^ 31) : (∃ i, i < z ∧ x = nI i) ∨ (x.toInt < 0 ∨ (z : Int) ≤ x.toInt) := by
  rcases pk_ix x hz with h | h | h
  · right; left; rw [Int32.lt_iff_toInt_lt, toInt_0] at h; exact h
  · right; right; rw [Int32.le_iff_toInt_le, nI_toInt hz] at h; exact h
  · exact Or.inl h
theorem c_has_yes {F s z i n : Nat} {μ : Mem} (hs : s < 4) (hz : z ≤ 40) (h3 : μ 3 s = nI z) (h : i + n ≤ z) : fX7_hasItems F (nI s) (nI i) (nI n) μ = some (1, μ) := by
  unfold fX7_hasItems
  rw [if_neg (nI_pos (by omega)), if_neg (nI_pos (by omega)), rd_n (by exact hs), h3, nI_sub (by omega), if_neg (nI_nlt (by omega) (by omega)), zr_1]
theorem c_has_no {F s z : Nat} {x n : Int32} {μ : Mem} (hs : s < 4) (hz : z ≤ 40) (h3 : μ 3 s = nI z) (h : x.toInt < 0 ∨ n.toInt < 0 ∨ (z : Int) < x.toInt + n.toInt) : fX7_hasItems F (nI s) x n μ = some (0, μ) := by
  unfold fX7_hasItems
  by_cases h1 : x < 0
  · rw [if_pos h1, zr_0]
  by_cases h2 : n < 0
  · rw [if_neg h1, if_pos h2, zr_0]
  rw [Int32.lt_iff_toInt_lt, toInt_0] at h1 h2
  rw [if_neg (by rw [Int32.lt_iff_toInt_lt, toInt_0]; exact h1), if_neg (by rw [Int32.lt_iff_toInt_lt, toInt_0]; exact h2), rd_n (by exact hs), h3, if_pos, zr_0]
  have h4 := i32_lo n
  have h5 : (nI z).toInt = z := nI_toInt (by omega)
  rw [Int32.lt_iff_toInt_lt, sub_toInt (by omega) (by omega), h5]
  omega
theorem c_look_lost {F s : Nat} {f x : Int32} {μ : Mem} (hs : s < 4) (h : μ 2 s = -1) : fX7_lookAt F (nI s) f x μ = some (1, μ) := by
  unfold fX7_lookAt fX7_isLost
  rw [rd_n (by exact hs), if_pos h, zr_1, cal_n, if_neg one_ne]
theorem c_look_cast {F s : Nat} {f x : Int32} {μ : Mem} (hs : s < 4) (h : ¬ μ 2 s = -1) (hf : ¬ μ 2 s = f) : fX7_lookAt F (nI s) f x μ = some (3, μ) := by
  unfold fX7_lookAt fX7_isLost
  rw [rd_n (by exact hs), if_neg h, zr_0, cal_n, if_pos rfl, rd_n (by exact hs), if_neg hf]
theorem c_look_no {F s z : Nat} {f x : Int32} {μ : Mem} (hs : s < 4) (hz : z ≤ 40) (h3 : μ 3 s = nI z) (h : ¬ μ 2 s = -1) (hf : μ 2 s = f) (hx : x.toInt < 0 ∨ (z : Int) ≤ x.toInt) : fX7_lookAt F (nI s) f x μ = some (2, μ) := by
  unfold fX7_lookAt fX7_isLost
  rw [rd_n (by exact hs), if_neg h, zr_0, cal_n, if_pos rfl, rd_n (by exact hs), if_pos hf, c_has_no hs hz h3 (by rw [toInt_1]; omega), cal_n, if_pos rfl]
theorem c_look_yes {F s z i : Nat} {f : Int32} {μ : Mem} (hs : s < 4) (hz : z ≤ 40) (h3 : μ 3 s = nI z) (h : ¬ μ 2 s = -1) (hf : μ 2 s = f) (hi : i < z) : fX7_lookAt F (nI s) f (nI i) μ = some (0, μ) := by
  unfold fX7_lookAt fX7_isLost
  rw [rd_n (by exact hs), if_neg h, zr_0, cal_n, if_pos rfl, rd_n (by exact hs), if_pos hf, show (1 : Int32) = nI 1 from rfl, c_has_yes hs hz h3 (by omega), cal_n, if_neg (by decide)]
theorem neg_lost : ¬ (0 : Int32) ≤ -1 := by decide
theorem m_lack_lost {F s : Nat} {f x : Int32} {μ : Mem} (hs : s < 4) (h : μ 90 s = -1) : fX9_lacks F (nI s) f x μ = fX9_met F 1 μ := by
  unfold fX9_lacks
  rw [rd_n (by exact hs), h, if_neg neg_lost]
  rfl
theorem m_lack_cast {F s : Nat} {f x : Int32} {μ : Mem} (hs : s < 4) (h : 0 ≤ μ 90 s) (hf : ¬ μ 90 s = f) : fX9_lacks F (nI s) f x μ = fX9_met F 3 μ := by
  unfold fX9_lacks
  rw [rd_n (by exact hs), if_pos h, rd_n (by exact hs), if_neg hf]
  rfl
theorem m_in_z {F z : Nat} {x : Int32} {μ : Mem} (hz : z ≤ 40) : fX9_in F x.toInt64 0 ((nI z - 1).toInt64) μ = some (if 0 ≤ x.toInt ∧ x.toInt < z then 1 else 0, μ) := by
  have h5 : (nI z).toInt = z := nI_toInt (by omega)
  have e : (nI z - 1).toInt = (z : Int) - 1 := by rw [sub_toInt (by rw [h5, toInt_1]; omega) (by rw [h5, toInt_1]; omega), h5, toInt_1]
  unfold fX9_in
  simp only [Int64.lt_iff_toInt_lt, Int32.toInt_toInt64, e, show (0 : Int64).toInt = 0 from rfl]
  by_cases h0 : x.toInt < 0
  · rw [if_pos h0, if_neg (by omega), zr_0]
  · rw [if_neg h0]
    by_cases h1 : (z : Int) - 1 < x.toInt
    · rw [if_pos h1, if_neg (by omega), zr_0]
    · rw [if_neg h1, if_pos (by omega), zr_1]
theorem m_lack_no {F s z : Nat} {f x : Int32} {μ : Mem} (hs : s < 4) (hz : z ≤ 40) (h3 : μ 91 s = nI z) (h : 0 ≤ μ 90 s) (hf : μ 90 s = f) (hx : x.toInt < 0 ∨ (z : Int) ≤ x.toInt) : fX9_lacks F (nI s) f x μ = fX9_met F 2 μ := by
  unfold fX9_lacks
  rw [rd_n (by exact hs), if_pos h, rd_n (by exact hs), if_pos hf, rd_n (by exact hs), h3, m_in_z hz, if_neg (by omega), cal_n, if_pos rfl]
  rfl
theorem m_lack_yes {F s z i : Nat} {f : Int32} {μ : Mem} (hs : s < 4) (hz : z ≤ 40) (h3 : μ 91 s = nI z) (h : 0 ≤ μ 90 s) (hf : μ 90 s = f) (hi : i < z) : fX9_lacks F (nI s) f (nI i) μ = some (0, μ) := by
  have e : (nI i).toInt = i := nI_toInt (by omega)
  unfold fX9_lacks
  rw [rd_n (by exact hs), if_pos h, rd_n (by exact hs), if_pos hf, rd_n (by exact hs), h3, m_in_z hz, if_pos (by omega), cal_n, if_neg one_ne]
theorem fo_ok {μ : Mem} {s : Nat} (h : μ 2 s = -1 ∨ ∃ f, f ≤ 2 ∧ μ 2 s = nI f) : (μ 2 s = -1) ∨ (¬ μ 2 s = -1 ∧ (0 : Int32) ≤ μ 2 s ∧ ∃ f, f ≤ 2 ∧ μ 2 s = nI f) := by
  rcases h with h | ⟨f, hf, h⟩
  · exact Or.inl h
  · refine Or.inr ⟨?_, ?_, f, hf, h⟩
    · rw [h]
      intro q
      have := congrArg Int32.toInt q
      rw [nI_toInt (by omega), toInt_m1] at this
      omega
    · rw [h]; exact nI_pos' (by omega)
theorem ag5 {s : Nat} (hs : s < 4) {μ : Mem} {g : Nat → Int32} : Ag [5, 6, 7, 8, 92, 93] [] μ (upM μ (5 + s) g) := by
  have h4 : s = 0 ∨ s = 1 ∨ s = 2 ∨ s = 3 := by omega
  rcases h4 with rfl | rfl | rfl | rfl <;> exact Ag.up (by decide) (by decide)
theorem SH.it {μ μ' : Mem} (h : SH μ) (g : Ag [5, 6, 7, 8, 92, 93] [] μ μ') {t : Nat} (hr : ∀ i, i < 4 → i ≠ t → rowS μ' i = rowS μ i) (hit : ∀ x, (x < 40 * t ∨ 40 * t + 40 ≤ x) → μ' 92 x = μ 92 x) (ht : t < 4) (hs : ∀ z, z ≤ 40 → μ 3 t = nI z → ∀ i, i < z → rowS μ' t i = μ' 92 (40 * t + i)) : SH μ' := by
  refine h.mk1 (s := t) (by rw [g.at 1, g.fi 0]; exact h.1) (fun i _ => ⟨by rw [g.at 2], by rw [g.at 90], by rw [g.at 3], by rw [g.at 91]⟩) hr hit ?_
  rw [g.at 2, g.at 90, g.at 3, g.at 91]
  obtain ⟨a1, a2, a3, z, a4, a5, a6⟩ := h.2 t ht
  exact ⟨a1, a2, a3, z, a4, a5, hs z a4 a5⟩
theorem Inv.it {μ μ' : Mem} (h : Inv wq μ) (g : Ag [5, 6, 7, 8, 92, 93] [] μ μ') (hs : SH μ') : Inv wq μ' := by
  obtain ⟨h1, h2, h3, h4, h5, h6⟩ := h
  exact ⟨hs, h2.ag g, h3.ag g, h4.ag g (by rw [g.at 9]), h5.ag g, h6.ag g⟩
theorem op_lose (a : Int32) : Op wq (fX8_lose FF a) (fX9_lose FF a) := by
  intro μ hI
  unfold fX8_lose fX9_lose
  rcases small a 3 (by decide) with h | ⟨s, hs, rfl⟩
  · exact ⟨_, _, _, by rw [c_sh_no h, cal_n, if_pos rfl], by rw [m_sh_no h, cal_n, if_pos rfl], hI⟩
  have hs4 : s < 4 := by omega
  obtain ⟨a1, a2, a3, z, a4, a5, a6⟩ := hI.1.2 s hs4
  rcases fo_ok a3 with h | ⟨h, h0, f, hf, hff⟩
  · rw [c_sh_yes hs, cal_n, if_neg one_ne]
    simp only [m_sh_yes hs, cal_n, if_neg one_ne]
    unfold fX7_isLost
    rw [rd_n (by exact hs4), if_pos h, zr_1, cal_n, if_neg one_ne]
    refine ⟨_, _, _, rfl, ?_, fnd hI (v := 1)⟩
    rw [rd_n (by exact hs4)]
    show (if 0 ≤ μ 90 s then _ else _) = _
    rw [← a1, h, if_neg neg_lost]
    rfl
  · rw [c_sh_yes hs, cal_n, if_neg one_ne]
    simp only [m_sh_yes hs, cal_n, if_neg one_ne]
    unfold fX7_isLost
    rw [rd_n (by exact hs4), if_neg h, zr_0, cal_n, if_pos rfl, wr_n (by exact hs4), rd_n (by exact hs4)]
    refine ⟨nI z, upM μ 2 (upd (μ 2) s (-1)), upM (upM μ 2 (upd (μ 2) s (-1))) 90 (upd (μ 90) s (-1)), by rw [upM_ne (by decide), a5], ?_, ?_⟩
    · rw [rd_n (by exact hs4)]
      show (if 0 ≤ μ 90 s then _ else _) = _
      rw [← a1, if_pos h0, wr_n (by exact hs4), rd_n (by exact hs4)]
      show some (μ 91 s, _) = _
      rw [← a2, a5]
      rfl
    · have g : Ag [2, 90] [] μ (upM (upM μ 2 (upd (μ 2) s (-1))) 90 (upd (μ 90) s (-1))) := (Ag.up (by decide) (by decide)).tr (Ag.up (by decide) (by decide))
      obtain ⟨h1, h2, h3, h4, h5, h6⟩ := hI
      refine ⟨h1.mk1 (s := s) h1.1 (fun i hi => ⟨?_, ?_, rfl, rfl⟩) (fun i hi hs => ?_) (fun x hx => rfl) ?_, h2.ag g, h3.ag g, h4.ag g (by rw [g.at 9]), h5.ag g, h6.ag g⟩
      · show upd (μ 2) s (-1) i = _; rw [upd_ne hi]
      · show upd (μ 90) s (-1) i = _; rw [upd_ne hi]
      · unfold rowS
        rw [upM_ne (by omega), upM_ne (by omega)]
      · refine ⟨?_, a2, Or.inl ?_, z, a4, a5, fun i hi => ?_⟩
        · show upd (μ 2) s (-1) s = upd (μ 90) s (-1) s; rw [upd_s, upd_s]
        · show upd (μ 2) s (-1) s = _; rw [upd_s]
        · unfold rowS
          rw [upM_ne (by omega), upM_ne (by omega)]
          exact a6 i hi
theorem op_get (a b c : Int32) : Op wq (fX8_get FF a b c) (fX9_get FF a b c) := by
  intro μ hI
  unfold fX8_get fX9_get
  rcases small a 3 (by decide) with h | ⟨s, hs, rfl⟩
  · exact ⟨_, _, _, by rw [c_sh_no h, cal_n, if_pos rfl], by rw [m_sh_no h, cal_n, if_pos rfl], hI⟩
  rcases small b 2 (by decide) with h | ⟨f, hf, rfl⟩
  · exact ⟨_, _, _, by rw [c_sh_yes hs, cal_n, if_neg one_ne, c_fo_no h, cal_n, if_pos rfl], by rw [m_sh_yes hs, cal_n, if_neg one_ne, m_fo_no h, cal_n, if_pos rfl], hI⟩
  have hs4 : s < 4 := by omega
  obtain ⟨a1, a2, a3, z, a4, a5, a6⟩ := hI.1.2 s hs4
  simp only [c_sh_yes hs, m_sh_yes hs, cal_n, if_neg one_ne, c_fo_yes hf, m_fo_yes hf]
  rcases fo_ok a3 with h | ⟨h, h0, f2, hf2, hff⟩
  · rw [c_look_lost hs4 h, cal_n, if_neg one_ne]
    exact ⟨_, _, _, rfl, by rw [m_lack_lost hs4 (by exact a1.symm.trans h)]; rfl, fnd hI⟩
  by_cases hc : μ 2 s = nI f
  · rcases ix c z (by omega) with ⟨i, hi, rfl⟩ | hx
    · rw [c_look_yes hs4 a4 a5 h hc hi, cal_n, if_pos rfl, rr_n (by exact hs4), (gt4 hs4).1, rd_n (by rw [(gt4 hs4).2]; omega)]
      refine ⟨_, _, _, rfl, ?_, hI⟩
      rw [show (40 : Int32) * nI s + nI i = nI (40 * s + i) from by rw [show (40 : Int32) = nI 40 from rfl, pk_mul, nI_add], m_lack_yes hs4 a4 (a2.symm.trans a5) (by rw [← a1]; exact h0) (a1.symm.trans hc) hi, cal_n, if_pos rfl, rd_n (by show _ < 160; omega), ← a6 i hi]
      rfl
    · rw [c_look_no hs4 a4 a5 h hc hx, cal_n, if_neg (by decide)]
      exact ⟨_, _, _, rfl, by rw [m_lack_no (z := z) hs4 a4 (by exact a2.symm.trans a5) (by show 0 ≤ μ 90 s; rw [← a1]; exact h0) (by exact a1.symm.trans hc) hx]; rfl, fnd hI⟩
  · rw [c_look_cast hs4 h hc, cal_n, if_neg (by decide)]
    exact ⟨_, _, _, rfl, by rw [m_lack_cast hs4 (by show 0 ≤ μ 90 s; rw [← a1]; exact h0) (by show ¬ μ 90 s = _; rw [← a1]; exact hc)]; rfl, fnd hI⟩
