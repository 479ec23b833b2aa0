/-! ops that keep what was and change what is -/
variable {wq : Prop}
theorem keepOp2 {μ : Mem} (hI : Inv wq μ) : ∃ N μc, RelN wq N (CL μ) (MT μ 0) ∧ fX2_keep FF μ = some μc ∧ (∀ k, k ≠ 16 → (k < 18 ∨ 53 ≤ k) → μc k = μ k) ∧ ∀ μ1, (∀ k, 89 ≤ k → μ1 k = μ k) → (∀ k, (k = 16 ∨ (18 ≤ k ∧ k < 53)) → μ1 k = μc k) →
    ∃ μm, fX9_keep FF μ1 = some μm ∧ (∀ k, k ≠ 89 → (k < 94 ∨ 100 ≤ k) → μm k = μ1 k) ∧ (∀ j, j ≠ 11 → μm 89 j = μ 89 j) ∧ μm 94 0 = nI N ∧ (∀ c, 95 ≤ c → c < 100 → ∀ i, i < 40 → μm c i = μ c i) ∧
      ∀ μ2, (∀ k, (k = 16 ∨ (18 ≤ k ∧ k < 53)) → μ2 k = μm k) → μ2 89 11 = μm 89 11 → μ2 94 = μm 94 → (∀ c, 95 ≤ c → c < 100 → ∀ i, 40 ≤ i → μ2 c i = μm c i) → HI wq μ2 := by
  obtain ⟨N, μc, hL, c1, c2, c3⟩ := keepOp hI
  refine ⟨N, μc, hL, c1, c2, fun μ1 e1 e2 => ?_⟩
  obtain ⟨μm, m1, m2, m3, m4⟩ := c3 μ1 e1 e2
  have hin : ∀ k, (k < 94 ∨ 100 ≤ k) → k ∉ [94, 95, 96, 97, 98, 99] := fun k hk => by
    simp only [List.mem_cons, List.not_mem_nil, or_false, not_or]
    omega
  refine ⟨μm, m1, fun k h9 hk => m2.1 k h9 (hin k hk), fun j hj => by rw [m2.2 j (by simpa using hj), e1 89 (by omega)], ?_, fun c h1 h2 i hi => ?_, fun μ2 g1 g2 g3 g4 => m4 μ2 g1 g2 (fun k k1 k5 => ⟨?_, fun i hi => ?_⟩)⟩
  · have := m3.1
    rw [show (MT μm 0).1 = μm 94 0 from rfl, show (MT μ1 0).1 = μ1 94 0 from rfl, e1 94 (by omega)] at this
    rw [this]
    exact hL.2.2.1
  · have q := m3.2 i hi
    have z : 40 * 0 + i = i := by omega
    have h5 : c = 95 ∨ c = 96 ∨ c = 97 ∨ c = 98 ∨ c = 99 := by omega
    have t : ∀ c, μm c (40 * 0 + i) = μ1 c (40 * 0 + i) → μ1 c = μ c → μm c i = μ c i := fun c h e => by rw [z, e] at h; exact h
    rcases h5 with rfl | rfl | rfl | rfl | rfl
    · exact t 95 q.1 (e1 95 (by omega))
    · exact t 96 q.2.1 (e1 96 (by omega))
    · exact t 97 q.2.2.1 (e1 97 (by omega))
    · exact t 98 q.2.2.2.1 (e1 98 (by omega))
    · exact t 99 q.2.2.2.2 (e1 99 (by omega))
  · show μ2 94 k = μm 94 k
    rw [g3]
  · exact ⟨g4 95 (by omega) (by omega) _ (by omega), g4 96 (by omega) (by omega) _ (by omega), g4 97 (by omega) (by omega) _ (by omega), g4 98 (by omega) (by omega) _ (by omega), g4 99 (by omega) (by omega) _ (by omega)⟩
theorem Inv.alt {N : Nat} {μ μ2 : Mem} (hI : Inv wq μ) (e : ∀ k, (k < 9 ∨ 54 ≤ k) → (k < 94 ∨ 100 ≤ k) → k ≠ 89 → μ2 k = μ k) (ej : ∀ j, j ≠ 11 → j ≠ 15 → μ2 89 j = μ 89 j) (hl : RelN wq N (CL μ2) (MT μ2 0)) (hH : HI wq μ2) (hB : BT μ2) : Inv wq μ2 := by
  have g : Ag LL [11, 15] μ μ2 := ag_of e (fun j hj => by
    simp only [List.mem_cons, List.not_mem_nil, or_false, not_or] at hj
    exact ej j hj.1 hj.2)
  obtain ⟨i1, i2, i3, i4, i5, i6⟩ := hI
  exact ⟨i1.ag g, ⟨N, hl⟩, hH, hB, i5.ag g, i6.ag g⟩
theorem RelN.oks {N : Nat} {μ : Mem} (h : RelN wq N (CL μ) (MT μ 0)) : (∀ i, i < N → (∃ x, x ≤ 100000 ∧ μ 10 i = nI x) ∧ (∃ x, x ≤ 100000 ∧ μ 11 i = nI x) ∧ (∃ x, x ≤ 399 ∧ μ 12 i = nI x) ∧ ∃ x, x ≤ 399 ∧ μ 13 i = nI x) ∧ PermF (μ 14) N := h.2.2.2.2
theorem RelN.mk {N : Nat} {μ : Mem} (hN : N ≤ 40) (h9 : μ 9 6 = nI N) (h94 : μ 94 0 = nI N) (he : ∀ i, i < N → μ 10 i = μ 95 i ∧ μ 11 i = μ 96 i ∧ μ 12 i = μ 97 i ∧ μ 13 i = μ 98 i ∧ (wq → μ 14 i = μ 99 i)) (ok2 : PermF (μ 99) N) (ok : (∀ i, i < N → (∃ x, x ≤ 100000 ∧ μ 10 i = nI x) ∧ (∃ x, x ≤ 100000 ∧ μ 11 i = nI x) ∧ (∃ x, x ≤ 399 ∧ μ 12 i = nI x) ∧ ∃ x, x ≤ 399 ∧ μ 13 i = nI x) ∧ PermF (μ 14) N) : RelN wq N (CL μ) (MT μ 0) := by
  refine ⟨hN, h9, h94, fun i hi => ?_, ok⟩
  have z : 40 * 0 + i = i := by omega
  obtain ⟨a, b, c, d, f⟩ := he i hi
  have t : ∀ k, μ k i = (fun j => μ k (40 * 0 + j)) i := fun k => by show _ = μ k (40 * 0 + i); rw [z]
  exact ⟨a.trans (t 95), b.trans (t 96), c.trans (t 97), d.trans (t 98), fun q => (f q).trans (t 99), ok2.congr (fun i _ => by show μ 99 (40 * 0 + i) = μ 99 i; rw [show 40 * 0 + i = i by omega])⟩
theorem op_heat (a b c : Int32) : Op wq (fX8_heat FF a b c) (fX9_heat FF a b c) := by
  intro μ hI
  obtain ⟨N, μc, hL, c1, c2, c3⟩ := keepOp2 hI
  have h9 : μ 9 6 = nI N := hL.2.1
  have h94 : μ 94 0 = nI N := hL.2.2.1
  have hN := hL.1
  unfold fX8_heat fX9_heat
  rcases (ix a N (by omega)).symm with h | ⟨i, hi, rfl⟩
  · exact ⟨_, _, _, by rw [c_lf_no h9 hN h, cal_n, if_pos rfl], by rw [m_lf_no h94 hN h, cal_n, if_pos rfl], hI⟩
  simp only [c_lf_yes h9 hN hi, m_lf_yes h94 hN hi, cal_n, if_neg one_ne]
  rcases small b 399 (by decide) with h | ⟨x, hx, rfl⟩
  · exact ⟨_, _, _, by rw [c_de_no h, cal_n, if_pos rfl], by rw [m_lf_yes h94 hN hi, cal_n, if_neg one_ne, m_de_no h, cal_n, if_pos rfl], hI⟩
  simp only [c_de_yes hx, m_de_yes hx, cal_n, if_neg one_ne]
  rcases small c 399 (by decide) with h | ⟨y, hy, rfl⟩
  · exact ⟨_, _, _, by rw [c_de_no h, cal_n, if_pos rfl], by rw [m_lf_yes h94 hN hi, cal_n, if_neg one_ne, m_de_no h, cal_n, if_pos rfl], hI⟩
  simp only [c_de_yes hy, m_de_yes hy, cal_n, if_neg one_ne]
  have e12 : μc 12 = μ 12 := c2 12 (by omega) (by omega)
  have e13 : μc 13 = μ 13 := c2 13 (by omega) (by omega)
  obtain ⟨μm, m1, m2, m3, m4, m5, m6⟩ := c3 (upM (upM μc 12 (upd (μ 12) i (nI x))) 13 (upd (μ 13) i (nI y))) (fun k hk => by rw [upM_ne (by omega), upM_ne (by omega), c2 k (by omega) (by omega)]) (fun k hk => by rw [upM_ne (by omega), upM_ne (by omega)])
  have f1 : ∀ k, k ≠ 12 → k ≠ 13 → k ≠ 89 → (k < 94 ∨ 100 ≤ k) → k ≠ 16 → (k < 18 ∨ 53 ≤ k) → μm k = μ k := fun k q1 q2 q3 q4 q5 q6 => by rw [m2 k q3 q4, upM_ne q2, upM_ne q1, c2 k q5 q6]
  have f2 : ∀ k, k ≠ 12 → k ≠ 13 → k ≠ 89 → (k < 94 ∨ 100 ≤ k) → k ≠ 16 → (k < 18 ∨ 53 ≤ k) → upM (upM μm 97 (upd (μm 97) i (nI x))) 98 (upd (μm 98) i (nI y)) k = μ k := fun k q1 q2 q3 q4 q5 q6 => by rw [upM_ne (by omega), upM_ne (by omega), f1 k q1 q2 q3 q4 q5 q6]
  have g12 : upM (upM μm 97 (upd (μm 97) i (nI x))) 98 (upd (μm 98) i (nI y)) 12 = upd (μ 12) i (nI x) := by rw [upM_ne (by omega), upM_ne (by omega), m2 12 (by omega) (by omega), upM_ne (by omega), upM_self]
  have g13 : upM (upM μm 97 (upd (μm 97) i (nI x))) 98 (upd (μm 98) i (nI y)) 13 = upd (μ 13) i (nI y) := by rw [upM_ne (by omega), upM_ne (by omega), m2 13 (by omega) (by omega), upM_self]
  refine ⟨1, upM (upM μc 12 (upd (μ 12) i (nI x))) 13 (upd (μ 13) i (nI y)), upM (upM μm 97 (upd (μm 97) i (nI x))) 98 (upd (μm 98) i (nI y)), ?_, ?_, Inv.alt (N := N) hI (fun k q1 q2 q3 => f2 k (by omega) (by omega) q3 q2 (by omega) (by omega)) (fun j q1 q2 => m3 j q1) ?_ ?_ ?_⟩
  · rw [c1, cav_n, wr_n (by show i < 40; omega), wr_n (by show i < 40; omega), upM_ne (by omega), e12, e13]
  · rw [m_lf_yes (N := N) (by rw [upM_ne (by omega), upM_ne (by omega), c2 94 (by omega) (by omega)]; exact h94) hN hi, cal_n, if_neg one_ne, m1, cav_n, wr_n (by show i < 240; omega), wr_n (by show i < 240; omega), upM_ne (by omega)]
  · refine RelN.mk hN (by rw [f2 9 (by omega) (by omega) (by omega) (by omega) (by omega) (by omega)]; exact h9) m4 (fun j hj => ?_) (hL.oko.congr fun j hj => ?_) ⟨fun j hj => ?_, ?_⟩
    · rw [g12, g13, f2 10 (by omega) (by omega) (by omega) (by omega) (by omega) (by omega), f2 11 (by omega) (by omega) (by omega) (by omega) (by omega) (by omega), f2 14 (by omega) (by omega) (by omega) (by omega) (by omega) (by omega)]
      obtain ⟨e1, e2, e3, e4, e5⟩ := hL.eqs hj
      have q : ∀ c, 95 ≤ c → c < 100 → μm c j = μ c j := fun c h1 h2 => m5 c h1 h2 j (by omega)
      refine ⟨e1.trans (q 95 (by omega) (by omega)).symm, e2.trans (q 96 (by omega) (by omega)).symm, ?_, ?_, fun hq => (e5 hq).trans (q 99 (by omega) (by omega)).symm⟩
      · show _ = upd (μm 97) i (nI x) j
        by_cases h : j = i
        · rw [h, upd_s, upd_s]
        · rw [upd_ne h, upd_ne h, q 97 (by omega) (by omega)]; exact e3
      · show _ = upd (μm 98) i (nI y) j
        by_cases h : j = i
        · rw [h, upd_s, upd_s]
        · rw [upd_ne h, upd_ne h, q 98 (by omega) (by omega)]; exact e4
    · rw [upM_ne (by omega), upM_ne (by omega)]
      exact m5 99 (by omega) (by omega) j (by omega)
    · rw [g12, g13, f2 10 (by omega) (by omega) (by omega) (by omega) (by omega) (by omega), f2 11 (by omega) (by omega) (by omega) (by omega) (by omega) (by omega)]
      obtain ⟨k1, k2, k3, k4⟩ := hL.oks.1 j hj
      refine ⟨k1, k2, ?_, ?_⟩
      · by_cases h : j = i
        · rw [h, upd_s]; exact ⟨x, hx, rfl⟩
        · rw [upd_ne h]; exact k3
      · by_cases h : j = i
        · rw [h, upd_s]; exact ⟨y, hy, rfl⟩
        · rw [upd_ne h]; exact k4
    · rw [f2 14 (by omega) (by omega) (by omega) (by omega) (by omega) (by omega)]
      exact hL.oks.2
  · refine m6 _ (fun k hk => by rw [upM_ne (by omega), upM_ne (by omega)]) (by rw [upM_ne (by omega), upM_ne (by omega)]) (by rw [upM_ne (by omega), upM_ne (by omega)]) (fun c h1 h2 j hj => ?_)
    by_cases h97 : c = 97
    · subst h97
      rw [upM_ne (by omega), upM_self, upd_ne (by omega)]
    by_cases h98 : c = 98
    · subst h98
      rw [upM_self, upd_ne (by omega)]
    rw [upM_ne h98, upM_ne h97]
  · exact hI.2.2.2.1.same (f2 54 (by omega) (by omega) (by omega) (by omega) (by omega) (by omega)) (f2 100 (by omega) (by omega) (by omega) (by omega) (by omega) (by omega)) (f2 53 (by omega) (by omega) (by omega) (by omega) (by omega) (by omega)) (m3 12 (by decide)) (m3 14 (by decide)) (m3 15 (by decide)) (by rw [f2 9 (by omega) (by omega) (by omega) (by omega) (by omega) (by omega)])
