variable {wq : Prop}
def LL : List Nat := List.range' 9 45 ++ List.range' 94 6
theorem ag_of {μ μ' : Mem} {js : List Nat} (e : ∀ k, (k < 9 ∨ 54 ≤ k) → (k < 94 ∨ 100 ≤ k) → k ≠ 89 → μ' k = μ k) (ej : ∀ j, j ∉ js → μ' 89 j = μ 89 j) : Ag LL js μ μ' := by
  refine ⟨fun k h9 hk => ?_, ej⟩
  simp only [LL, List.mem_append, List.mem_range'_1, not_or, not_and] at hk
  exact e k (by omega) (by omega) h9
theorem BT.stale {μ μ' : Mem} (h : BT μ) (e54 : μ' 54 = μ 54) (e100 : μ' 100 = μ 100) (e1 : μ' 53 1 = μ 53 1) (e2 : μ' 53 2 = 0) (e12 : μ' 89 12 = μ 89 12) (e14 : μ' 89 14 = μ 89 14) (e15 : μ' 89 15 = 0) : BT μ' := by
  obtain ⟨B, b1, b2, b3, b4, b5, b6, b7, b8, b9⟩ := h
  refine ⟨B, b1, e1.trans b2, e12.trans b3, by rw [e54, e100]; exact b4, by rw [e14]; exact b5, Or.inl e15, by rw [e14]; exact b7, ?_, fun q => ?_⟩
  · rw [e2, e15]
    by_cases h : μ' 89 14 = 0
    · rw [if_pos h]
    · rw [if_neg h]
  · rw [e2] at q
    exact absurd q (by decide)
theorem BT.same {μ μ' : Mem} (h : BT μ) (e54 : μ' 54 = μ 54) (e100 : μ' 100 = μ 100) (e53 : μ' 53 = μ 53) (e12 : μ' 89 12 = μ 89 12) (e14 : μ' 89 14 = μ 89 14) (e15 : μ' 89 15 = μ 89 15) (e9 : μ' 9 6 = μ 9 6) : BT μ' := by
  unfold BT
  rw [e54, e100, e53, e12, e14, e15, e9]
  exact h
theorem MS_mAdd {N n k : Nat} {a b : Nat → Int32} {μ : Mem} (hN : N + n ≤ 40) (hk : 1 ≤ k) : MS k μ (mAdd N n a b μ) := by
  refine ⟨?_, fun i hi => ?_⟩
  · show upd (μ 94) 0 _ k = μ 94 k
    rw [upd_ne (by omega)]
  · refine ⟨?_, ?_, ?_, ?_, ?_⟩
    · show apnd N n a (μ 95) (40 * k + i) = μ 95 (40 * k + i); exact apnd_out (by omega)
    · show apnd N n b (μ 96) (40 * k + i) = μ 96 (40 * k + i); exact apnd_out (by omega)
    · show apnd N n zz (μ 97) (40 * k + i) = μ 97 (40 * k + i); exact apnd_out (by omega)
    · show apnd N n zz (μ 98) (40 * k + i) = μ 98 (40 * k + i); exact apnd_out (by omega)
    · show apnd N n (oo N) (μ 99) (40 * k + i) = μ 99 (40 * k + i); exact apnd_out (by omega)
theorem Eq5.of_MS0 {N n : Nat} {a b : Nat → Int32} {μ μm : Mem} (h : MS 0 μ μm) (hn : N + n ≤ 40) : Eq5 (N + n) (MT (mAdd N n a b μm) 0) (nI (N + n), apnd N n a (MT μ 0).2.1, apnd N n b (MT μ 0).2.2.1, apnd N n zz (MT μ 0).2.2.2.1, apnd N n zz (MT μ 0).2.2.2.2.1, apnd N n (oo N) (MT μ 0).2.2.2.2.2) := by
  have key : ∀ (f : Nat → Int32) (g g' : Nat → Int32) (i : Nat), i < 40 → (∀ x, x < 40 → g (40 * 0 + x) = g' x) → apnd N n f g (40 * 0 + i) = apnd N n f g' i := by
    intro f g g' i hi hg
    unfold apnd
    rw [show 40 * 0 + i = i by omega]
    by_cases h : N ≤ i ∧ i < N + n
    · rw [if_pos h, if_pos h]
    · rw [if_neg h, if_neg h]
      have := hg i hi
      rw [show 40 * 0 + i = i by omega] at this
      exact this
  intro i hi
  refine ⟨?_, ?_, ?_, ?_, ?_⟩
  · exact key a (μm 95) _ i (by omega) (fun x hx => (h.2 x hx).1)
  · exact key b (μm 96) _ i (by omega) (fun x hx => (h.2 x hx).2.1)
  · exact key zz (μm 97) _ i (by omega) (fun x hx => (h.2 x hx).2.2.1)
  · exact key zz (μm 98) _ i (by omega) (fun x hx => (h.2 x hx).2.2.2.1)
  · exact key (oo N) (μm 99) _ i (by omega) (fun x hx => (h.2 x hx).2.2.2.2)
/-- behind n loaves that came on both sides -/
theorem Inv.add {N n : Nat} {a b : Nat → Int32} {μ μc μ1 μm μ2 : Mem} (hI : Inv wq μ) (hL : RelN wq N (CL μ) (MT μ 0)) (hn : N + n ≤ 40) (h1 : 1 ≤ n) (ha : ∀ i, i < n → ∃ x, x ≤ 100000 ∧ a i = nI x) (hb : ∀ i, i < n → ∃ x, x ≤ 100000 ∧ b i = nI x)
    (hc : ∀ k, k ≠ 16 → (k < 18 ∨ 53 ≤ k) → μc k = μ k) (e1 : μ1 = upM (cAdd N n a b μc) 53 (upd (μ 53) 2 0)) (hg : Ag [94, 95, 96, 97, 98, 99] [11] μ1 μm) (hms : MS 0 μ1 μm) (hH : ∀ μ2, (∀ k, (k = 16 ∨ (18 ≤ k ∧ k < 53)) → μ2 k = μm k) → μ2 89 11 = μm 89 11 → (∀ k, 1 ≤ k → k ≤ 5 → MS k μm μ2) → HI wq μ2) (e2 : μ2 = mAdd N n a b μm) : Inv wq μ2 := by
  have k1 : ∀ k, 89 ≤ k → μ1 k = μ k := fun k hk => by rw [e1, upM_ne (by omega), cAdd_o (by omega), hc k (by omega) (by omega)]
  have f89 : ∀ j, j ≠ 11 → j ≠ 15 → μ2 89 j = μ 89 j := fun j h11 h15 => by
    rw [e2]
    show (if n = 0 then μm 89 else upd (μm 89) 15 0) j = _
    rw [if_neg (by omega), upd_ne h15, hg.2 j (by simpa using h11), k1 89 (by omega)]
  have far : ∀ k, k ≠ 89 → (k < 94 ∨ 100 ≤ k) → μ2 k = μ1 k := fun k h9 hk => by
    rw [e2, mAdd_o ⟨h9, hk⟩]
    refine hg.1 k h9 ?_
    simp only [List.mem_cons, List.not_mem_nil, or_false, not_or]
    omega
  have g : Ag LL [11, 15] μ μ2 := by
    refine ag_of (fun k h1 h2 h9 => ?_) (fun j hj => ?_)
    · rw [far k h9 h2, e1, upM_ne (by omega), cAdd_o (by omega), hc k (by omega) (by omega)]
    · simp only [List.mem_cons, List.not_mem_nil, or_false, not_or] at hj
      exact f89 j hj.1 hj.2
  obtain ⟨i1, i2, i3, i4, i5, i6⟩ := hI
  have hcl : CL μ2 = CL (cAdd N n a b μ) := by
    have e : ∀ k, 9 ≤ k → k < 15 → μ2 k = cAdd N n a b μ k := fun k q1 q2 => by
      rw [far k (by omega) (by omega), e1, upM_ne (by omega)]
      have h6 : k = 9 ∨ k = 10 ∨ k = 11 ∨ k = 12 ∨ k = 13 ∨ k = 14 := by omega
      have ec : ∀ j, 9 ≤ j → j < 15 → μc j = μ j := fun j q3 q4 => hc j (by omega) (by omega)
      rcases h6 with rfl | rfl | rfl | rfl | rfl | rfl
      · show upd (μc 9) 6 _ = upd (μ 9) 6 _; rw [ec 9 (by omega) (by omega)]
      · show apnd N n a (μc 10) = apnd N n a (μ 10); rw [ec 10 (by omega) (by omega)]
      · show apnd N n b (μc 11) = apnd N n b (μ 11); rw [ec 11 (by omega) (by omega)]
      · show apnd N n zz (μc 12) = apnd N n zz (μ 12); rw [ec 12 (by omega) (by omega)]
      · show apnd N n zz (μc 13) = apnd N n zz (μ 13); rw [ec 13 (by omega) (by omega)]
      · show apnd N n (oo N) (μc 14) = apnd N n (oo N) (μ 14); rw [ec 14 (by omega) (by omega)]
    unfold CL
    rw [e 9 (by omega) (by omega), e 10 (by omega) (by omega), e 11 (by omega) (by omega), e 12 (by omega) (by omega), e 13 (by omega) (by omega), e 14 (by omega) (by omega)]
  have hm0 : MS 0 μ μm := by
    have : MS 0 μ μ1 := MS.of (by
      unfold MT
      rw [k1 94 (by omega), k1 95 (by omega), k1 96 (by omega), k1 97 (by omega), k1 98 (by omega), k1 99 (by omega)])
    exact this.tr hms
  refine ⟨i1.ag g, ⟨N + n, LV.add hL hn ha hb hcl (by rw [e2]; rfl) (by rw [e2]; exact Eq5.of_MS0 hm0 hn)⟩, hH μ2 (fun k hk => ?_) ?_ (fun k q1 q2 => by rw [e2]; exact MS_mAdd hn q1), ?_, i5.ag g, i6.ag g⟩
  · rw [e2, mAdd_o (by omega)]
  · rw [e2]
    show (if n = 0 then μm 89 else upd (μm 89) 15 0) 11 = _
    rw [if_neg (by omega), upd_ne (by decide)]
  · have e53 : μ2 53 = upd (μ 53) 2 0 := by rw [far 53 (by omega) (by omega), e1, upM_self]
    refine i4.stale (g.at 54) (g.at 100) (by rw [e53, upd_ne (by decide)]) (by rw [e53, upd_s]) (f89 12 (by decide) (by decide)) (f89 14 (by decide) (by decide)) ?_
    rw [e2]
    show (if n = 0 then μm 89 else upd (μm 89) 15 0) 15 = _
    rw [if_neg (by omega), upd_s]
theorem op_loaf (a b : Int32) : Op wq (fX8_loaf FF a b) (fX9_loaf FF a b) := by
  intro μ hI
  unfold fX8_loaf fX9_loaf
  rcases small a 100000 (by decide) with h | ⟨x, hx, rfl⟩
  · exact ⟨_, _, _, by rw [c_sp_no h, cal_n, if_pos rfl], by rw [m_sp_no h, cal_n, if_pos rfl], hI⟩
  rcases small b 100000 (by decide) with h | ⟨y, hy, rfl⟩
  · exact ⟨_, _, _, by rw [c_sp_yes hx, cal_n, if_neg one_ne, c_sp_no h, cal_n, if_pos rfl], by rw [m_sp_yes hx, cal_n, if_neg one_ne, m_sp_no h, cal_n, if_pos rfl], hI⟩
  obtain ⟨N, μc, hL, c1, c2, c3⟩ := keepOp hI
  have h9 : μ 9 6 = nI N := hL.2.1
  have h94 : μ 94 0 = nI N := hL.2.2.1
  have hN := hL.1
  simp only [c_sp_yes hx, m_sp_yes hx, c_sp_yes hy, m_sp_yes hy, cal_n, if_neg one_ne]
  rw [h9, show (40 : Int32) = nI 40 from rfl, iflt (by omega) (by omega)]
  by_cases h40 : N < 40
  · rw [if_pos h40, c1, cav_n]
    have ea : fX3_add FF (nI x) (nI y) μc = some (cAdd N 1 (fun _ => nI x) (fun _ => nI y) μc) := by
      have e := c_add (F := FF) (N := N) (i := 0) (a := fun _ => nI x) (b := fun _ => nI y) (μ := μc) (by omega)
      rw [cAdd_0 (by rw [c2 9 (by omega) (by omega)]; exact h9)] at e
      exact e
    have e53 : cAdd N 1 (fun _ => nI x) (fun _ => nI y) μc 53 = μ 53 := by rw [cAdd_o (by omega), c2 53 (by omega) (by omega)]
    rw [ea, cav_n, st_n, e53]
    obtain ⟨μm, m1, m2, m3, m4⟩ := c3 (upM (cAdd N 1 (fun _ => nI x) (fun _ => nI y) μc) 53 (upd (μ 53) 2 0)) (fun k hk => by rw [upM_ne (by omega), cAdd_o (by omega), c2 k (by omega) (by omega)]) (fun k hk => by rw [upM_ne (by omega), cAdd_o (by omega)])
    refine ⟨nI N, upM (cAdd N 1 (fun _ => nI x) (fun _ => nI y) μc) 53 (upd (μ 53) 2 0), mAdd N 1 (fun _ => nI x) (fun _ => nI y) μm, ?_, ?_, Inv.add hI hL (by omega) (by omega) (fun _ _ => ⟨x, hx, rfl⟩) (fun _ _ => ⟨y, hy, rfl⟩) c2 rfl m2 m3 m4 rfl⟩
    · rw [show upM (cAdd N 1 (fun _ => nI x) (fun _ => nI y) μc) 53 (upd (μ 53) 2 0) 9 6 = nI (N + 1) from rfl, show (1 : Int32) = nI 1 from rfl, nI_sub (by omega), show N + 1 - 1 = N by omega]
    · have h94m : μm 94 0 = nI N := by
        have := m3.1
        rw [show (MT μm 0).1 = μm 94 0 from rfl] at this
        rw [this]
        show upM (cAdd N 1 (fun _ => nI x) (fun _ => nI y) μc) 53 (upd (μ 53) 2 0) 94 0 = _
        rw [upM_ne (by omega), cAdd_o (by omega), c2 94 (by omega) (by omega)]
        exact h94
      have ec : fX9_come FF (nI x) (nI y) μm = some (mAdd N 1 (fun _ => nI x) (fun _ => nI y) μm) := by
        have e := m_come (F := FF) (N := N) (i := 0) (a := fun _ => nI x) (b := fun _ => nI y) (μ := μm) (by omega)
        rw [mAdd_0 h94m] at e
        exact e
      rw [show (0 : Int32) = nI 0 from rfl, rd_n (by decide)]
      rw [show upM (cAdd N 1 (fun _ => nI x) (fun _ => nI y) μc) 53 (upd (μ 53) 2 (nI 0)) 94 0 = nI N from by rw [upM_ne (by omega), cAdd_o (by omega), c2 94 (by omega) (by omega)]; exact h94]
      rw [ifeq (by omega) (by omega), if_neg (by omega)]
      rw [show (nI 0) = (0 : Int32) from rfl, m1, cav_n, ec, cav_n, show (0 : Int32) = nI 0 from rfl, rd_n (by decide), show mAdd N 1 (fun _ => nI x) (fun _ => nI y) μm 94 0 = nI (N + 1) from rfl, show (1 : Int32) = nI 1 from rfl, nI_sub (by omega), show N + 1 - 1 = N by omega]
  · rw [if_neg h40]
    refine ⟨_, _, _, rfl, ?_, hI⟩
    rw [show (0 : Int32) = nI 0 from rfl, rd_n (by decide), h94, ifeq (by omega) (by omega), if_pos (by omega)]
