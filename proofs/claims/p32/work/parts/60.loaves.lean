section
/-! ops that keep what was and change what is -/
variable {wq : Prop}
theorem keepOp2 {μ : Mem} (hI : Inv wq μ) : ∃ N μc, RelN wq N (CL μ) (MT μ 0) ∧ fX2_keep FF μ = some μc ∧ (∀ k, k ≠ 16 → (k < 18 ∨ 53 ≤ k) → μc k = μ k) ∧ ∀ μ1, (∀ k, 89 ≤ k → μ1 k = μ k) → (∀ k, (k = 16 ∨ (18 ≤ k ∧ k < 53)) → μ1 k = μc k) →
    ∃ μm, fX9_keep FF μ1 = some μm ∧ (∀ k, k ≠ 89 → (k < 94 ∨ 100 ≤ k) → μm k = μ1 k) ∧ (∀ j, j ≠ 11 → μm 89 j = μ 89 j) ∧ μm 94 0 = nI N ∧ (∀ c, 95 ≤ c → c < 100 → ∀ i, i < 40 → μm c i = μ c i) ∧
      ∀ μ2, (∀ k, (k = 16 ∨ (18 ≤ k ∧ k < 53)) → μ2 k = μm k) → μ2 89 11 = μm 89 11 → μ2 94 = μm 94 → (∀ c, 95 ≤ c → c < 100 → ∀ i, 40 ≤ i → μ2 c i = μm c i) → HI wq μ2 := by
  obtain ⟨N, μc, hL, c1, c2, c3⟩ := keepOp hI
  refine ⟨N, μc, hL, c1, c2, fun μ1 e1 e2 => ?_⟩
  obtain ⟨μm, m1, m2, m3, m4⟩ := c3 μ1 e1 e2
  have hin : ∀ k, (k < 94 ∨ 100 ≤ k) → k ∉ [94, 95, 96, 97, 98, 99] := fun k hk => by
    simp only [List.mem_cons, List.not_mem_nil, or_false, not_or]
    omega
  refine ⟨μm, m1, fun k h9 hk => m2.1 k h9 (hin k hk), fun j hj => by rw [m2.2 j (by simpa using hj), e1 89 (by omega)], ?_, fun c h1 h2 i hi => ?_, fun μ2 g1 g2 g3 g4 => m4 μ2 g1 g2 (fun k k1 k5 => ⟨?_, fun i hi => ?_⟩)⟩
  · have := m3.1
    rw [show (MT μm 0).1 = μm 94 0 from rfl, show (MT μ1 0).1 = μ1 94 0 from rfl, e1 94 (by omega)] at this
    rw [this]
    exact hL.2.2.1
  · have q := m3.2 i hi
    have z : 40 * 0 + i = i := by omega
    have h5 : c = 95 ∨ c = 96 ∨ c = 97 ∨ c = 98 ∨ c = 99 := by omega
    have t : ∀ c, μm c (40 * 0 + i) = μ1 c (40 * 0 + i) → μ1 c = μ c → μm c i = μ c i := fun c h e => by rw [z, e] at h; exact h
    rcases h5 with rfl | rfl | rfl | rfl | rfl
    · exact t 95 q.1 (e1 95 (by omega))
    · exact t 96 q.2.1 (e1 96 (by omega))
    · exact t 97 q.2.2.1 (e1 97 (by omega))
    · exact t 98 q.2.2.2.1 (e1 98 (by omega))
    · exact t 99 q.2.2.2.2 (e1 99 (by omega))
  · show μ2 94 k = μm 94 k
    rw [g3]
  · exact ⟨g4 95 (by omega) (by omega) _ (by omega), g4 96 (by omega) (by omega) _ (by omega), g4 97 (by omega) (by omega) _ (by omega), g4 98 (by omega) (by omega) _ (by omega), g4 99 (by omega) (by omega) _ (by omega)⟩
theorem Inv.alt {N : Nat} {μ μ2 : Mem} (hI : Inv wq μ) (e : ∀ k, (k < 9 ∨ 54 ≤ k) → (k < 94 ∨ 100 ≤ k) → k ≠ 89 → μ2 k = μ k) (ej : ∀ j, j ≠ 11 → j ≠ 15 → μ2 89 j = μ 89 j) (hl : RelN wq N (CL μ2) (MT μ2 0)) (hH : HI wq μ2) (hB : BT μ2) : Inv wq μ2 := by
  have g : Ag LL [11, 15] μ μ2 := ag_of e (fun j hj => by
    simp only [List.mem_cons, List.not_mem_nil, or_false, not_or] at hj
    exact ej j hj.1 hj.2)
  obtain ⟨i1, i2, i3, i4, i5, i6⟩ := hI
  exact ⟨i1.ag g, ⟨N, hl⟩, hH, hB, i5.ag g, i6.ag g⟩
theorem RelN.oks {N : Nat} {μ : Mem} (h : RelN wq N (CL μ) (MT μ 0)) : (∀ i, i < N → (∃ x, x ≤ 100000 ∧ μ 10 i = nI x) ∧ (∃ x, x ≤ 100000 ∧ μ 11 i = nI x) ∧ (∃ x, x ≤ 399 ∧ μ 12 i = nI x) ∧ ∃ x, x ≤ 399 ∧ μ 13 i = nI x) ∧ PermF (μ 14) N := h.2.2.2.2
theorem RelN.mk {N : Nat} {μ : Mem} (hN : N ≤ 40) (h9 : μ 9 6 = nI N) (h94 : μ 94 0 = nI N) (he : ∀ i, i < N → μ 10 i = μ 95 i ∧ μ 11 i = μ 96 i ∧ μ 12 i = μ 97 i ∧ μ 13 i = μ 98 i ∧ (wq → μ 14 i = μ 99 i)) (ok2 : PermF (μ 99) N) (ok : (∀ i, i < N → (∃ x, x ≤ 100000 ∧ μ 10 i = nI x) ∧ (∃ x, x ≤ 100000 ∧ μ 11 i = nI x) ∧ (∃ x, x ≤ 399 ∧ μ 12 i = nI x) ∧ ∃ x, x ≤ 399 ∧ μ 13 i = nI x) ∧ PermF (μ 14) N) : RelN wq N (CL μ) (MT μ 0) := by
  refine ⟨hN, h9, h94, fun i hi => ?_, ok⟩
  have z : 40 * 0 + i = i := by omega
  obtain ⟨a, b, c, d, f⟩ := he i hi
  have t : ∀ k, μ k i = (fun j => μ k (40 * 0 + j)) i := fun k => by show _ = μ k (40 * 0 + i); rw [z]
  exact ⟨a.trans (t 95), b.trans (t 96), c.trans (t 97), d.trans (t 98), fun q => (f q).trans (t 99), ok2.congr (fun i _ => by show μ 99 (40 * 0 + i) = μ 99 i; rw [show 40 * 0 + i = i by omega])⟩
theorem op_heat (a b c : Int32) : Op wq (fX8_heat FF a b c) (fX9_heat FF a b c) := by
  intro μ hI
  obtain ⟨N, μc, hL, c1, c2, c3⟩ := keepOp2 hI
  have h9 : μ 9 6 = nI N := hL.2.1
  have h94 : μ 94 0 = nI N := hL.2.2.1
  have hN := hL.1
  unfold fX8_heat fX9_heat
  rcases (ix a N (by omega)).symm with h | ⟨i, hi, rfl⟩
  · exact ⟨_, _, _, by rw [c_lf_no h9 hN h, cal_n, if_pos rfl], by rw [m_lf_no h94 hN h, cal_n, if_pos rfl], hI⟩
  simp only [c_lf_yes h9 hN hi, m_lf_yes h94 hN hi, cal_n, if_neg one_ne]
  rcases small b 399 (by decide) with h | ⟨x, hx, rfl⟩
  · exact ⟨_, _, _, by rw [c_de_no h, cal_n, if_pos rfl], by rw [m_lf_yes h94 hN hi, cal_n, if_neg one_ne, m_de_no h, cal_n, if_pos rfl], hI⟩
  simp only [c_de_yes hx, m_de_yes hx, cal_n, if_neg one_ne]
  rcases small c 399 (by decide) with h | ⟨y, hy, rfl⟩
  · exact ⟨_, _, _, by rw [c_de_no h, cal_n, if_pos rfl], by rw [m_lf_yes h94 hN hi, cal_n, if_neg one_ne, m_de_no h, cal_n, if_pos rfl], hI⟩
  simp only [c_de_yes hy, m_de_yes hy, cal_n, if_neg one_ne]
  have e12 : μc 12 = μ 12 := c2 12 (by omega) (by omega)
  have e13 : μc 13 = μ 13 := c2 13 (by omega) (by omega)
  obtain ⟨μm, m1, m2, m3, m4, m5, m6⟩ := c3 (upM (upM μc 12 (upd (μ 12) i (nI x))) 13 (upd (μ 13) i (nI y))) (fun k hk => by rw [upM_ne (by omega), upM_ne (by omega), c2 k (by omega) (by omega)]) (fun k hk => by rw [upM_ne (by omega), upM_ne (by omega)])
  have f1 : ∀ k, k ≠ 12 → k ≠ 13 → k ≠ 89 → (k < 94 ∨ 100 ≤ k) → k ≠ 16 → (k < 18 ∨ 53 ≤ k) → μm k = μ k := fun k q1 q2 q3 q4 q5 q6 => by rw [m2 k q3 q4, upM_ne q2, upM_ne q1, c2 k q5 q6]
  have f2 : ∀ k, k ≠ 12 → k ≠ 13 → k ≠ 89 → (k < 94 ∨ 100 ≤ k) → k ≠ 16 → (k < 18 ∨ 53 ≤ k) → upM (upM μm 97 (upd (μm 97) i (nI x))) 98 (upd (μm 98) i (nI y)) k = μ k := fun k q1 q2 q3 q4 q5 q6 => by rw [upM_ne (by omega), upM_ne (by omega), f1 k q1 q2 q3 q4 q5 q6]
  have g12 : upM (upM μm 97 (upd (μm 97) i (nI x))) 98 (upd (μm 98) i (nI y)) 12 = upd (μ 12) i (nI x) := by rw [upM_ne (by omega), upM_ne (by omega), m2 12 (by omega) (by omega), upM_ne (by omega), upM_self]
  have g13 : upM (upM μm 97 (upd (μm 97) i (nI x))) 98 (upd (μm 98) i (nI y)) 13 = upd (μ 13) i (nI y) := by rw [upM_ne (by omega), upM_ne (by omega), m2 13 (by omega) (by omega), upM_self]
  refine ⟨1, upM (upM μc 12 (upd (μ 12) i (nI x))) 13 (upd (μ 13) i (nI y)), upM (upM μm 97 (upd (μm 97) i (nI x))) 98 (upd (μm 98) i (nI y)), ?_, ?_, Inv.alt (N := N) hI (fun k q1 q2 q3 => f2 k (by omega) (by omega) q3 q2 (by omega) (by omega)) (fun j q1 q2 => m3 j q1) ?_ ?_ ?_⟩
  · rw [c1, cav_n, wr_n (by show i < 40; omega), wr_n (by show i < 40; omega), upM_ne (by omega), e12, e13]
  · rw [m_lf_yes (N := N) (by rw [upM_ne (by omega), upM_ne (by omega), c2 94 (by omega) (by omega)]; exact h94) hN hi, cal_n, if_neg one_ne, m1, cav_n, wr_n (by show i < 240; omega), wr_n (by show i < 240; omega), upM_ne (by omega)]
  · refine RelN.mk hN (by rw [f2 9 (by omega) (by omega) (by omega) (by omega) (by omega) (by omega)]; exact h9) m4 (fun j hj => ?_) (hL.oko.congr fun j hj => ?_) ⟨fun j hj => ?_, ?_⟩
    · rw [g12, g13, f2 10 (by omega) (by omega) (by omega) (by omega) (by omega) (by omega), f2 11 (by omega) (by omega) (by omega) (by omega) (by omega) (by omega), f2 14 (by omega) (by omega) (by omega) (by omega) (by omega) (by omega)]
      obtain ⟨e1, e2, e3, e4, e5⟩ := hL.eqs hj
      have q : ∀ c, 95 ≤ c → c < 100 → μm c j = μ c j := fun c h1 h2 => m5 c h1 h2 j (by omega)
      refine ⟨e1.trans (q 95 (by omega) (by omega)).symm, e2.trans (q 96 (by omega) (by omega)).symm, ?_, ?_, fun hq => (e5 hq).trans (q 99 (by omega) (by omega)).symm⟩
      · show _ = upd (μm 97) i (nI x) j
        by_cases h : j = i
        · rw [h, upd_s, upd_s]
        · rw [upd_ne h, upd_ne h, q 97 (by omega) (by omega)]; exact e3
      · show _ = upd (μm 98) i (nI y) j
        by_cases h : j = i
        · rw [h, upd_s, upd_s]
        · rw [upd_ne h, upd_ne h, q 98 (by omega) (by omega)]; exact e4
    · rw [upM_ne (by omega), upM_ne (by omega)]
      exact m5 99 (by omega) (by omega) j (by omega)
    · rw [g12, g13, f2 10 (by omega) (by omega) (by omega) (by omega) (by omega) (by omega), f2 11 (by omega) (by omega) (by omega) (by omega) (by omega) (by omega)]
      obtain ⟨k1, k2, k3, k4⟩ := hL.oks.1 j hj
      refine ⟨k1, k2, ?_, ?_⟩
      · by_cases h : j = i
        · rw [h, upd_s]; exact ⟨x, hx, rfl⟩
        · rw [upd_ne h]; exact k3
      · by_cases h : j = i
        · rw [h, upd_s]; exact ⟨y, hy, rfl⟩
        · rw [upd_ne h]; exact k4
    · rw [f2 14 (by omega) (by omega) (by omega) (by omega) (by omega) (by omega)]
      exact hL.oks.2
  · refine m6 _ (fun k hk => by rw [upM_ne (by omega), upM_ne (by omega)]) (by rw [upM_ne (by omega), upM_ne (by omega)]) (by rw [upM_ne (by omega), upM_ne (by omega)]) (fun c h1 h2 j hj => ?_)
    by_cases h97 : c = 97
    · subst h97
      rw [upM_ne (by omega), upM_self, upd_ne (by omega)]
    by_cases h98 : c = 98
    · subst h98
      rw [upM_self, upd_ne (by omega)]
    rw [upM_ne h98, upM_ne h97]
  · exact hI.2.2.2.1.same (f2 54 (by omega) (by omega) (by omega) (by omega) (by omega) (by omega)) (f2 100 (by omega) (by omega) (by omega) (by omega) (by omega) (by omega)) (f2 53 (by omega) (by omega) (by omega) (by omega) (by omega) (by omega)) (m3 12 (by decide)) (m3 14 (by decide)) (m3 15 (by decide)) (by rw [f2 9 (by omega) (by omega) (by omega) (by omega) (by omega) (by omega)])
end
section
/-! the row's exchanges -/
variable {wq : Prop}
def swp (f : Nat → Int32) (i j : Nat) : Nat → Int32 := upd (upd f i (f j)) j (f i)
theorem swp_e {f : Nat → Int32} {i j k : Nat} : swp f i j k = f (if k = j then i else if k = i then j else k) := by
  unfold swp
  by_cases h : k = j
  · rw [h, upd_s, if_pos rfl]
  · rw [upd_ne h, if_neg h]
    by_cases h2 : k = i
    · rw [h2, upd_s, if_pos rfl]
    · rw [upd_ne h2, if_neg h2]
theorem swp_congr {f g : Nat → Int32} {i j N : Nat} (h : ∀ k, k < N → f k = g k) (hi : i < N) (hj : j < N) : ∀ k, k < N → swp f i j k = swp g i j k := by
  intro k hk
  rw [swp_e, swp_e]
  refine h _ ?_
  by_cases h1 : k = j
  · rw [if_pos h1]; exact hi
  · rw [if_neg h1]
    by_cases h2 : k = i
    · rw [if_pos h2]; exact hj
    · rw [if_neg h2]; exact hk
theorem PermF.swp {f : Nat → Int32} {N i j : Nat} (h : PermF f N) (hi : i < N) (hj : j < N) : PermF (swp f i j) N := by
  obtain ⟨σ, τ, h1, h2⟩ := h
  have st : ∀ a b, a < N → b < N → σ a = σ b → a = b := fun a b ha hb e => by rw [← (h1 a ha).2.2, ← (h1 b hb).2.2, e]
  have pl : ∀ k, k < N → (if k = j then i else if k = i then j else k) < N := fun k hk => by
    by_cases h1 : k = j
    · rw [if_pos h1]; exact hi
    · rw [if_neg h1]
      by_cases h2 : k = i
      · rw [if_pos h2]; exact hj
      · rw [if_neg h2]; exact hk
  have pp : ∀ k, (if (if k = j then i else if k = i then j else k) = j then i else if (if k = j then i else if k = i then j else k) = i then j else (if k = j then i else if k = i then j else k)) = k := fun k => by
    by_cases h1 : k = j
    · subst h1
      rw [if_pos rfl]
      by_cases h2 : i = k
      · rw [if_pos h2, h2]
      · rw [if_neg h2, if_pos rfl]
    · rw [if_neg h1]
      by_cases h2 : k = i
      · rw [if_pos h2, if_pos rfl, h2]
      · rw [if_neg h2, if_neg h1, if_neg h2]
  refine ⟨fun k => σ (if k = j then i else if k = i then j else k), fun v => if τ v = j then i else if τ v = i then j else τ v, fun k hk => ⟨(h1 _ (pl k hk)).1, ?_, ?_⟩, fun v hv => ⟨pl _ (h2 v hv).1, ?_⟩⟩
  · rw [swp_e]
    exact (h1 _ (pl k hk)).2.1
  · show (if τ (σ (if k = j then i else if k = i then j else k)) = j then i else if τ (σ (if k = j then i else if k = i then j else k)) = i then j else τ (σ (if k = j then i else if k = i then j else k))) = k
    rw [(h1 _ (pl k hk)).2.2]
    exact pp k
  · show σ (if (if τ v = j then i else if τ v = i then j else τ v) = j then i else if (if τ v = j then i else if τ v = i then j else τ v) = i then j else (if τ v = j then i else if τ v = i then j else τ v)) = v
    rw [pp]
    exact (h2 v hv).2
theorem c_exch {F k i j : Nat} {μ : Mem} (hi : i < ln k) (hj : j < ln k) : fX8_exchange F k (nI i) (nI j) μ = some (upM μ k (swp (μ k) i j)) := by
  unfold fX8_exchange
  rw [rd_n hi, rd_n hj, wr_n hi, wr_n hj, upM_upM, upM_self]
  rfl
theorem op_swap (a b : Int32) : Op wq (fX8_swap FF a b) (fX9_swap FF a b) := by
  intro μ hI
  obtain ⟨N, μc, hL, c1, c2, c3⟩ := keepOp2 hI
  have h9 : μ 9 6 = nI N := hL.2.1
  have h94 : μ 94 0 = nI N := hL.2.2.1
  have hN := hL.1
  unfold fX8_swap fX9_swap
  rcases (ix a N (by omega)).symm with h | ⟨i, hi, rfl⟩
  · exact ⟨_, _, _, by rw [c_lf_no h9 hN h, cal_n, if_pos rfl], by rw [m_lf_no h94 hN h, cal_n, if_pos rfl], hI⟩
  rcases (ix b N (by omega)).symm with h | ⟨j, hj, rfl⟩
  · exact ⟨_, _, _, by rw [c_lf_yes h9 hN hi, cal_n, if_neg one_ne, c_lf_no h9 hN h, cal_n, if_pos rfl], by rw [m_lf_yes h94 hN hi, cal_n, if_neg one_ne, m_lf_no h94 hN h, cal_n, if_pos rfl], hI⟩
  have e14 : μc 14 = μ 14 := c2 14 (by omega) (by omega)
  obtain ⟨μm, m1, m2, m3, m4, m5, m6⟩ := c3 (upM μc 14 (swp (μ 14) i j)) (fun k hk => by rw [upM_ne (by omega), c2 k (by omega) (by omega)]) (fun k hk => by rw [upM_ne (by omega)])
  have f2 : ∀ k, k ≠ 14 → k ≠ 89 → (k < 94 ∨ 100 ≤ k) → k ≠ 16 → (k < 18 ∨ 53 ≤ k) → upM μm 99 (swp (μm 99) i j) k = μ k := fun k q1 q3 q4 q5 q6 => by rw [upM_ne (by omega), m2 k q3 q4, upM_ne q1, c2 k q5 q6]
  have g14 : upM μm 99 (swp (μm 99) i j) 14 = swp (μ 14) i j := by rw [upM_ne (by omega), m2 14 (by omega) (by omega), upM_self]
  refine ⟨1, upM μc 14 (swp (μ 14) i j), upM μm 99 (swp (μm 99) i j), ?_, ?_, Inv.alt (N := N) hI (fun k q1 q2 q3 => f2 k (by omega) q3 q2 (by omega) (by omega)) (fun j q1 q2 => m3 j q1) ?_ ?_ ?_⟩
  · rw [c_lf_yes h9 hN hi, cal_n, if_neg one_ne, c_lf_yes h9 hN hj, cal_n, if_neg one_ne, c1, cav_n, c_exch (by show i < 40; omega) (by show j < 40; omega), e14, cav_n]
  · have h94' : upM μc 14 (swp (μ 14) i j) 94 0 = nI N := by rw [upM_ne (by omega), c2 94 (by omega) (by omega)]; exact h94
    rw [m_lf_yes h94' hN hi, cal_n, if_neg one_ne, m_lf_yes h94' hN hj, cal_n, if_neg one_ne, m1, cav_n, rd_n (by show i < 240; omega), rd_n (by show j < 240; omega), wr_n (by show i < 240; omega), wr_n (by show j < 240; omega), upM_upM, upM_self]
    rfl
  · refine RelN.mk hN (by rw [f2 9 (by omega) (by omega) (by omega) (by omega) (by omega)]; exact h9) m4 (fun k hk => ?_) ?_ ⟨fun k hk => ?_, ?_⟩
    · rw [g14, f2 10 (by omega) (by omega) (by omega) (by omega) (by omega), f2 11 (by omega) (by omega) (by omega) (by omega) (by omega), f2 12 (by omega) (by omega) (by omega) (by omega) (by omega), f2 13 (by omega) (by omega) (by omega) (by omega) (by omega)]
      obtain ⟨e1, e2, e3, e4, e5⟩ := hL.eqs hk
      have q : ∀ c, 95 ≤ c → c < 100 → μm c k = μ c k := fun c h1 h2 => m5 c h1 h2 k (by omega)
      refine ⟨e1.trans (q 95 (by omega) (by omega)).symm, e2.trans (q 96 (by omega) (by omega)).symm, e3.trans (q 97 (by omega) (by omega)).symm, e4.trans (q 98 (by omega) (by omega)).symm, fun hq => ?_⟩
      show _ = swp (μm 99) i j k
      exact swp_congr (fun k hk => ((hL.eqs hk).2.2.2.2 hq).trans (m5 99 (by omega) (by omega) k (by omega)).symm) hi hj k hk
    · rw [upM_self]
      exact (hL.oko.congr (fun k hk => m5 99 (by omega) (by omega) k (by omega))).swp hi hj
    · rw [f2 10 (by omega) (by omega) (by omega) (by omega) (by omega), f2 11 (by omega) (by omega) (by omega) (by omega) (by omega), f2 12 (by omega) (by omega) (by omega) (by omega) (by omega), f2 13 (by omega) (by omega) (by omega) (by omega) (by omega)]
      exact hL.oks.1 k hk
    · rw [g14]
      exact hL.oks.2.swp hi hj
  · refine m6 _ (fun k hk => by rw [upM_ne (by omega)]) (by rw [upM_ne (by omega)]) (by rw [upM_ne (by omega)]) (fun c h1 h2 k hk => ?_)
    by_cases h99 : c = 99
    · subst h99
      rw [upM_self]
      unfold swp
      rw [upd_ne (by omega), upd_ne (by omega)]
    rw [upM_ne h99]
  · exact hI.2.2.2.1.same (f2 54 (by omega) (by omega) (by omega) (by omega) (by omega)) (f2 100 (by omega) (by omega) (by omega) (by omega) (by omega)) (f2 53 (by omega) (by omega) (by omega) (by omega) (by omega)) (m3 12 (by decide)) (m3 14 (by decide)) (m3 15 (by decide)) (by rw [f2 9 (by omega) (by omega) (by omega) (by omega) (by omega)])
/-- the row found is used -/
theorem m_use_loop {F N : Nat} {μ : Mem} (hN : N ≤ 40) (h : μ 94 0 = nI N) : ∀ (d n i : Nat), i + d = N → d < n → fX9_use_23 F n (nI i) (upM μ 99 (fun x => if x < i then μ 100 x else μ 99 x)) = some (1, upM μ 99 (fun x => if x < N then μ 100 x else μ 99 x)) := by
  intro d
  induction d with
  | zero =>
    intro n i hi hn
    obtain ⟨n, rfl⟩ : ∃ n', n = n' + 1 := ⟨n - 1, by omega⟩
    show fX9_use_23_b F _ _ _ = _
    unfold fX9_use_23_b
    rw [show (0 : Int32) = nI 0 from rfl, rd_n (by decide), upM_ne (by omega), h, if_pos (nI_le (by omega) (by omega)), show i = N by omega]
  | succ d ih =>
    intro n i hi hn
    obtain ⟨n, rfl⟩ : ∃ n', n = n' + 1 := ⟨n - 1, by omega⟩
    show fX9_use_23_b F _ _ _ = _
    unfold fX9_use_23_b
    rw [show (0 : Int32) = nI 0 from rfl, rd_n (by decide), upM_ne (by omega), h, if_neg (nI_ge (by omega) (by omega)), rd_n (by show i < 40; omega), wr_n (by show i < 240; omega), nI_add1, upM_upM, upM_self, upM_ne (by omega)]
    have e : upd (fun x => if x < i then μ 100 x else μ 99 x) i (μ 100 i) = fun x => if x < i + 1 then μ 100 x else μ 99 x := by
      funext x
      unfold upd
      by_cases h1 : x = i
      · rw [if_pos h1, if_pos (by omega), h1]
      · rw [if_neg h1]
        show (if x < i then μ 100 x else μ 99 x) = _
        by_cases h2 : x < i
        · rw [if_pos h2, if_pos (by omega)]
        · rw [if_neg h2, if_neg (by omega)]
    rw [e]
    exact ih n (i + 1) (by omega) (by omega)
theorem op_use : Op wq (fX8_use FF) (fX9_use FF) := by
  intro μ hI
  obtain ⟨N, μc, hL, c1, c2, c3⟩ := keepOp2 hI
  have h9 : μ 9 6 = nI N := hL.2.1
  have h94 : μ 94 0 = nI N := hL.2.2.1
  have hN := hL.1
  obtain ⟨B, b1, b2, b3, b4, b5, b6, b7, b8, b9⟩ := hI.2.2.2.1
  unfold fX8_use fX9_use
  by_cases h53 : μ 53 2 = 0
  · rw [h53] at b8
    by_cases h14 : μ 89 14 = 0
    · exact ⟨_, _, _, by rw [if_pos h53], by rw [if_pos h14], hI⟩
    · rw [if_neg h14] at b8
      exact ⟨_, _, _, by rw [if_pos h53], by rw [if_neg h14, if_pos b8.symm], hI⟩
  · have h14 : ¬ μ 89 14 = 0 := fun q => by rw [if_pos q] at b8; exact h53 b8
    rw [if_neg h14] at b8
    have h15 : ¬ μ 89 15 = 0 := fun q => h53 (b8.trans q)
    have h1 : μ 53 2 = 1 := by rcases b6 with q | q; exact absurd q h15; rw [b8, q]
    obtain ⟨hB, hP⟩ := b9 h1
    have eB : N = B := nI_inj (by omega) (by omega) (h9.symm.trans hB)
    subst eB
    have e54 : μc 54 = μ 54 := c2 54 (by omega) (by omega)
    have e53 : μc 53 = μ 53 := c2 53 (by omega) (by omega)
    have e14 : μc 14 = μ 14 := c2 14 (by omega) (by omega)
    obtain ⟨μm, m1, m2, m3, m4, m5, m6⟩ := c3 (upM μc 14 (va_cpy (μ 54) (μ 14) 0 0 N)) (fun k hk => by rw [upM_ne (by omega), c2 k (by omega) (by omega)]) (fun k hk => by rw [upM_ne (by omega)])
    have f2 : ∀ k, k ≠ 14 → k ≠ 89 → (k < 94 ∨ 100 ≤ k) → k ≠ 16 → (k < 18 ∨ 53 ≤ k) → upM μm 99 (fun x => if x < N then μm 100 x else μm 99 x) k = μ k := fun k q1 q3 q4 q5 q6 => by rw [upM_ne (by omega), m2 k q3 q4, upM_ne q1, c2 k q5 q6]
    have g14 : ∀ i, i < N → upM μm 99 (fun x => if x < N then μm 100 x else μm 99 x) 14 i = μ 54 i := fun i hi => by
      rw [upM_ne (by omega), m2 14 (by omega) (by omega), upM_self]
      unfold va_cpy
      rw [if_pos (by omega)]
      congr 1
      omega
    have e100 : μm 100 = μ 100 := by rw [m2 100 (by omega) (by omega), upM_ne (by omega), c2 100 (by omega) (by omega)]
    have k89 : upM μc 14 (va_cpy (μ 54) (μ 14) 0 0 N) 89 = μ 89 := by rw [upM_ne (by omega), c2 89 (by omega) (by omega)]
    refine ⟨1, upM μc 14 (va_cpy (μ 54) (μ 14) 0 0 N), upM μm 99 (fun x => if x < N then μm 100 x else μm 99 x), ?_, ?_, Inv.alt (N := N) hI (fun k q1 q2 q3 => f2 k (by omega) q3 q2 (by omega) (by omega)) (fun j q1 q2 => m3 j q1) ?_ ?_ ?_⟩
    · rw [if_neg h53, c1, cav_n, e53, b2, show (0 : Int32) = nI 0 from rfl, cpy_n (by show 0 + N ≤ 40; omega) (by show 0 + N ≤ 40; omega), e54, e14]
    · rw [if_neg (by rw [k89]; exact h14), if_neg (by rw [k89]; exact h15), m1, cav_n]
      have hl := m_use_loop (F := FF) (μ := μm) hN m4 N FF 0 (by omega) (by rw [FF_e]; omega)
      have e0 : upM μm 99 (fun x => if x < 0 then μm 100 x else μm 99 x) = μm := by
        have : (fun x => if x < 0 then μm 100 x else μm 99 x) = μm 99 := funext fun x => if_neg (by omega)
        rw [this, upM_id]
      rw [e0] at hl
      exact hl
    · refine RelN.mk hN (by rw [f2 9 (by omega) (by omega) (by omega) (by omega) (by omega)]; exact h9) m4 (fun k hk => ?_) (hP.congr (fun k hk => by rw [upM_self, if_pos hk, e100]; exact (b4 k hk).symm)) ⟨fun k hk => ?_, ?_⟩
      · rw [g14 k hk, f2 10 (by omega) (by omega) (by omega) (by omega) (by omega), f2 11 (by omega) (by omega) (by omega) (by omega) (by omega), f2 12 (by omega) (by omega) (by omega) (by omega) (by omega), f2 13 (by omega) (by omega) (by omega) (by omega) (by omega)]
        obtain ⟨e1, e2, e3, e4, e5⟩ := hL.eqs hk
        have q : ∀ c, 95 ≤ c → c < 100 → μm c k = μ c k := fun c h1 h2 => m5 c h1 h2 k (by omega)
        refine ⟨e1.trans (q 95 (by omega) (by omega)).symm, e2.trans (q 96 (by omega) (by omega)).symm, e3.trans (q 97 (by omega) (by omega)).symm, e4.trans (q 98 (by omega) (by omega)).symm, fun _ => ?_⟩
        rw [upM_self, if_pos hk, e100]
        exact b4 k hk
      · rw [f2 10 (by omega) (by omega) (by omega) (by omega) (by omega), f2 11 (by omega) (by omega) (by omega) (by omega) (by omega), f2 12 (by omega) (by omega) (by omega) (by omega) (by omega), f2 13 (by omega) (by omega) (by omega) (by omega) (by omega)]
        exact hL.oks.1 k hk
      · exact hP.congr g14
    · refine m6 _ (fun k hk => by rw [upM_ne (by omega)]) (by rw [upM_ne (by omega)]) (by rw [upM_ne (by omega)]) (fun c h1 h2 k hk => ?_)
      by_cases h99 : c = 99
      · subst h99
        rw [upM_self, if_neg (by omega)]
      rw [upM_ne h99]
    · exact hI.2.2.2.1.same (f2 54 (by omega) (by omega) (by omega) (by omega) (by omega)) (f2 100 (by omega) (by omega) (by omega) (by omega) (by omega)) (f2 53 (by omega) (by omega) (by omega) (by omega) (by omega)) (m3 12 (by decide)) (m3 14 (by decide)) (m3 15 (by decide)) (by rw [f2 9 (by omega) (by omega) (by omega) (by omega) (by omega)])
end
section
/-! what was kept comes back -/
variable {wq : Prop}
theorem op_undo : Op wq (fX8_undo FF) (fX9_undo FF) := by
  intro μ hI
  obtain ⟨nx, K, h1, h2, h3, h4, h5, h6⟩ := hI.2.2.1
  unfold fX8_undo fX9_undo
  by_cases hK : K = 0
  · subst hK
    exact ⟨_, _, _, by rw [h4, if_pos (show nI 0 = 0 from rfl)], by rw [h5, if_pos (show nI 0 = 0 from rfl)], hI⟩
  have hK0 : ¬ nI K = 0 := fun q => hK (nI_inj (b := 0) (by omega) (by omega) q)
  obtain ⟨N, hR⟩ := h6 0 (by omega)
  rw [Nat.sub_zero, Nat.sub_zero] at hR
  obtain ⟨p, hp⟩ : ∃ p, p = (nx + 4) % 5 := ⟨_, rfl⟩
  rw [← hp] at hR
  have hp5 : p < 5 := by omega
  obtain ⟨q1, q2⟩ := slotLv hp5
  obtain ⟨m0, hm0⟩ : ∃ m0, m0 = upM μ 16 (upd (upd (μ 16) 1 (nI p)) 2 (nI (K - 1))) := ⟨_, rfl⟩
  have hs : m0 (18 + 7 * p) 6 = nI N := by rw [hm0, upM_ne (by omega)]; exact hR.2.1
  obtain ⟨mc, f1, f2, f3, f4⟩ := c_become (μ := m0) isLv_9 q1 (by omega) hs hR.1
  have e0 : ∀ k, k ≠ 16 → m0 k = μ k := fun k hk => by rw [hm0, upM_ne hk]
  have gb : fX2_giveBack FF μ = some mc := by
    have step : fX2_giveBack_18 FF (nI p) μ = some mc := by
      unfold fX2_giveBack_18
      rw [st_n, st_n, upM_upM]
      simp only [upM_self]
      rw [show upd (μ 16) 1 (nI p) 2 - 1 = nI (K - 1) from by rw [upd_ne (by decide), h4, show (1 : Int32) = nI 1 from rfl, nI_sub (by omega)], show upd (upd (μ 16) 1 (nI p)) 2 (nI (K - 1)) 1 = nI p from by rw [upd_ne (by decide), upd_s], rr_n (by show p < 5; omega), q2, ← hm0, f1, cav_n]
    unfold fX2_giveBack
    rw [h3, show (0 : Int32) = nI 0 from rfl, ifle (by omega) (by omega)]
    by_cases hz : nx ≤ 0
    · rw [if_pos hz, show (4 : Int32) = nI 4 from rfl, show 4 = p by omega]
      exact step
    · rw [if_neg hz, show (1 : Int32) = nI 1 from rfl, nI_sub (by omega), show nx - 1 = p by omega]
      exact step
  have k1 : ∀ k, k ≠ 16 → (k < 9 ∨ 15 ≤ k) → mc k = μ k := fun k q3 q4 => by rw [f2 k (by omega), e0 k q3]
  obtain ⟨μ1, hμ1⟩ : ∃ μ1, μ1 = upM mc 53 (upd (mc 53) 2 0) := ⟨_, rfl⟩
  have k2 : ∀ k, k ≠ 53 → μ1 k = mc k := fun k hk => by rw [hμ1, upM_ne hk]
  have k3 : ∀ k, 54 ≤ k → μ1 k = μ k := fun k hk => by rw [k2 k (by omega), k1 k (by omega) (by omega)]
  obtain ⟨mm, g1, g2, g3, g4, g5⟩ := m_copyAll (a := K) (b := 0) (N := N) (μ := μ1) (by omega) (by omega) hK hR.1 (by rw [k3 94 (by omega)]; exact hR.2.2.1)
  obtain ⟨μ2, hμ2⟩ : ∃ μ2, μ2 = upM mm 89 (upd (upd (mm 89) 11 (nI (K - 1))) 15 0) := ⟨_, rfl⟩
  have hin : ∀ k, (k < 94 ∨ 100 ≤ k) → k ∉ [94, 95, 96, 97, 98, 99] := fun k hk => by
    simp only [List.mem_cons, List.not_mem_nil, or_false, not_or]
    omega
  have k4 : ∀ k, k ≠ 89 → (k < 94 ∨ 100 ≤ k) → μ2 k = μ1 k := fun k q3 q4 => by rw [hμ2, upM_ne q3, g2.1 k q3 (hin k q4)]
  have k5 : ∀ j, mm 89 j = μ 89 j := fun j => by rw [g2.2 j (by simp), k3 89 (by omega)]
  have em : ∀ k, MT μ2 k = MT mm k := fun k => by rw [hμ2]; rfl
  have e1 : ∀ k, MT μ1 k = MT μ k := fun k => by
    unfold MT
    rw [k3 94 (by omega), k3 95 (by omega), k3 96 (by omega), k3 97 (by omega), k3 98 (by omega), k3 99 (by omega)]
  have cs : ∀ j, CS μ2 (j % 5) = CS μ (j % 5) := fun j => by
    have hj : j % 5 < 5 := Nat.mod_lt _ (by decide)
    have t : ∀ k, 18 ≤ k → k < 53 → μ2 k = μ k := fun k q3 q4 => by rw [k4 k (by omega) (by omega), k2 k (by omega), k1 k (by omega) (by omega)]
    unfold CS
    rw [t _ (by omega) (by omega), t _ (by omega) (by omega), t _ (by omega) (by omega), t _ (by omega) (by omega), t _ (by omega) (by omega), t _ (by omega) (by omega)]
  have r16 : ∀ j, μ2 16 j = m0 16 j := fun j => by rw [k4 16 (by omega) (by omega), k2 16 (by omega), f2 16 (by omega)]
  refine ⟨nI (K - 1), μ1, μ2, ?_, ?_, Inv.alt (N := N) hI (fun k q3 q4 q5 => ?_) (fun j q3 q4 => ?_) ?_ ?_ ?_⟩
  · rw [h4, if_neg hK0, gb, cav_n, st_n, ← hμ1]
    rw [k2 16 (by omega), f2 16 (by omega), hm0, upM_self, upd_s]
  · rw [show μ1 89 11 = nI K from by rw [k3 89 (by omega)]; exact h5, if_neg hK0, show (0 : Int32) = nI 0 from rfl, g1, cav_n, st_n, st_n, upM_upM]
    simp only [upM_self]
    rw [show mm 89 11 - 1 = nI (K - 1) from by rw [k5, h5, show (1 : Int32) = nI 1 from rfl, nI_sub (by omega)], show nI 0 = (0 : Int32) from rfl, ← hμ2, upd_ne (by decide), upd_s]
  · rw [k4 k q5 q4]
    rw [k2 k (by omega), k1 k (by omega) (by omega)]
  · rw [hμ2, upM_self, upd_ne q4, upd_ne q3, k5]
  · refine hR.congr ?_ ?_ (fun i hi => ?_) ?_
    · show μ2 9 6 = _
      rw [k4 9 (by omega) (by omega), k2 9 (by omega), f3]
      exact hR.2.1.symm
    · rw [em]; exact g3.trans hR.2.2.1.symm
    · have t : ∀ c, c < 5 → μ2 (10 + c) i = μ (19 + c + 7 * p) i := fun c hc => by
        rw [k4 _ (by omega) (by omega), k2 _ (by omega), show 10 + c = 9 + 1 + c by omega, f4 c hc i hi, e0 _ (by omega), show 18 + 7 * p + 1 + c = 19 + c + 7 * p by omega]
      exact ⟨t 0 (by omega), t 1 (by omega), t 2 (by omega), t 3 (by omega), t 4 (by omega)⟩
    · rw [em, ← e1]; exact g4
  · refine ⟨p, K - 1, hp5, by omega, ?_, ?_, ?_, fun j hj => ?_⟩
    · rw [r16, hm0, upM_self, upd_ne (by decide), upd_s]
    · rw [r16, hm0, upM_self, upd_s]
    · rw [hμ2, upM_self, upd_ne (by decide), upd_s]
    · rw [cs, em, show (p + 4 - j) % 5 = (nx + 4 - (j + 1)) % 5 by omega, show K - 1 - j = K - (j + 1) by omega]
      obtain ⟨n, hn⟩ := h6 (j + 1) (by omega)
      have w := g5 (K - (j + 1)) (by omega)
      refine ⟨n, hn.congr rfl ?_ (fun _ _ => ⟨rfl, rfl, rfl, rfl, rfl⟩) ?_⟩
      · rw [w.1, e1]
      · rw [← e1]; exact w.2.less hn.1
  · have w : ∀ k, 54 ≤ k → k ≠ 89 → (k < 94 ∨ 100 ≤ k) → μ2 k = μ k := fun k q3 q4 q5 => by rw [k4 k q4 q5, k3 k q3]
    have e53 : μ2 53 = upd (μ 53) 2 0 := by rw [k4 53 (by omega) (by omega), hμ1, upM_self, k1 53 (by omega) (by omega)]
    refine hI.2.2.2.1.stale (w 54 (by omega) (by omega) (by omega)) (w 100 (by omega) (by omega) (by omega)) (by rw [e53, upd_ne (by decide)]) (by rw [e53, upd_s]) ?_ ?_ ?_
    · rw [hμ2, upM_self, upd_ne (by decide), upd_ne (by decide), k5]
    · rw [hμ2, upM_self, upd_ne (by decide), upd_ne (by decide), k5]
    · rw [hμ2, upM_self, upd_s]
end
section
/-! the place of a loaf -/
variable {wq : Prop}
theorem c_pl_loop {F N t : Nat} {σ : Nat → Nat} {x : Nat} {μ : Mem} (h : μ 9 6 = nI N) (hN : N ≤ 40) (ho : ∀ i, i < N → μ 14 i = nI (σ i)) (hσ : ∀ i, i < N → σ i < N) (ht : t < N) (hx : σ t = x) (hf : ∀ i, i < t → σ i ≠ x) : ∀ (d n i : Nat), i + d = t → d < n → fX3_placeOf_2 F n (nI x) (nI i) μ = some (nI t, μ) := by
  have hxN : x < N := by rw [← hx]; exact hσ t ht
  intro d
  induction d with
  | zero =>
    intro n i hi hn
    obtain ⟨n, rfl⟩ : ∃ n', n = n' + 1 := ⟨n - 1, by omega⟩
    obtain rfl : i = t := by omega
    show fX3_placeOf_2_b F _ _ _ _ = _
    unfold fX3_placeOf_2_b
    rw [h, if_neg (nI_ge (by omega) (by omega)), rd_n (by show i < 40; omega), ho i ht, hx, if_pos rfl]
  | succ d ih =>
    intro n i hi hn
    obtain ⟨n, rfl⟩ : ∃ n', n = n' + 1 := ⟨n - 1, by omega⟩
    show fX3_placeOf_2_b F _ _ _ _ = _
    unfold fX3_placeOf_2_b
    rw [h, if_neg (nI_ge (by omega) (by omega)), rd_n (by show i < 40; omega), ho i (by omega), ifeq (by have := hσ i (by omega); omega) (by omega), if_neg (hf i (by omega)), nI_add1]
    exact ih n (i + 1) (by omega) (by omega)
theorem m_pl_loop {F N t : Nat} {σ : Nat → Nat} {x : Nat} {μ : Mem} (hN : N ≤ 40) (ho : ∀ i, i < N → μ 99 i = nI (σ i)) (hσ : ∀ i, i < N → σ i < N) (ht : t < N) (hx : σ t = x) (hf : ∀ i, i < t → σ i ≠ x) : ∀ (d n i : Nat), i + d = t → d < n → fX9_placeOf_2 F n (nI x) (nI i) μ = some (nI t, μ) := by
  have hxN : x < N := by rw [← hx]; exact hσ t ht
  intro d
  induction d with
  | zero =>
    intro n i hi hn
    obtain ⟨n, rfl⟩ : ∃ n', n = n' + 1 := ⟨n - 1, by omega⟩
    obtain rfl : i = t := by omega
    show fX9_placeOf_2_b F _ _ _ _ = _
    unfold fX9_placeOf_2_b
    rw [rd_n (by show i < 240; omega), ho i ht, hx, if_pos rfl]
  | succ d ih =>
    intro n i hi hn
    obtain ⟨n, rfl⟩ : ∃ n', n = n' + 1 := ⟨n - 1, by omega⟩
    show fX9_placeOf_2_b F _ _ _ _ = _
    unfold fX9_placeOf_2_b
    rw [rd_n (by show i < 240; omega), ho i (by omega), ifeq (by have := hσ i (by omega); omega) (by omega), if_neg (hf i (by omega)), nI_add1]
    exact ih n (i + 1) (by omega) (by omega)
theorem places {N x : Nat} {μ : Mem} (hL : RelN wq N (CL μ) (MT μ 0)) (hx : x < N) : ∃ t t', fX3_placeOf FF (nI x) μ = some (nI t, μ) ∧ fX9_placeOf FF (nI x) μ = some (nI t', μ) ∧ t < N ∧ t' < N ∧ (wq → t = t') := by
  have hN := hL.1
  have ft : ∀ {f : Nat → Int32} {σ τ : Nat → Nat}, (∀ i, i < N → σ i < N ∧ f i = nI (σ i) ∧ τ (σ i) = i) → (∀ i, i < N → τ i < N ∧ σ (τ i) = i) → ∀ i, i < τ x → σ i ≠ x := fun h1 h2 i hi q => by
    have := (h1 i (by have := (h2 x hx).1; omega)).2.2
    rw [q] at this
    omega
  obtain ⟨σ, τ, h1, h2⟩ := hL.oks.2
  obtain ⟨σ', τ', g1, g2⟩ := hL.oko
  have ho : ∀ i, i < N → μ 14 i = nI (σ i) := fun i hi => (h1 i hi).2.1
  have hf : ∀ i, i < τ x → σ i ≠ x := ft h1 h2
  have hf' : ∀ i, i < τ' x → σ' i ≠ x := ft g1 g2
  refine ⟨τ x, τ' x, ?_, ?_, (h2 x hx).1, (g2 x hx).1, fun hq => ?_⟩
  rotate_left
  rotate_left
  · have e : ∀ i, i < N → σ i = σ' i := fun i hi => nI_inj (by have := (h1 i hi).1; omega) (by have := (g1 i hi).1; omega) (by rw [← (h1 i hi).2.1, ← (g1 i hi).2.1]; exact (hL.eqs hi).2.2.2.2 hq)
    have a := (h1 (τ' x) (g2 x hx).1).2.2
    rw [e _ (g2 x hx).1, (g2 x hx).2] at a
    exact a
  · exact c_pl_loop (σ := σ) hL.2.1 hN ho (fun i hi => (h1 i hi).1) (h2 x hx).1 (h2 x hx).2 hf (τ x) FF 0 (by omega) (by have := (h2 x hx).1; rw [FF_e]; omega)
  · exact m_pl_loop (σ := σ') hN (fun i hi => (g1 i hi).2.1) (fun i hi => (g1 i hi).1) (g2 x hx).1 (g2 x hx).2 hf' (τ' x) FF 0 (by omega) (by have := (g2 x hx).1; rw [FF_e]; omega)
/-- what is asked of a loaf, on the class's side, and on the reference's -/
theorem of_both {μ : Mem} (hI : Inv wq μ) (a b : Int32) : ∃ r r', fX8_of FF a b μ = some (r, μ) ∧ fX9_of FF a b μ = some (r', μ) ∧ (wq → r = r') := by
  obtain ⟨N, hL⟩ := hI.2.1
  have h9 : μ 9 6 = nI N := hL.2.1
  have h94 : μ 94 0 = nI N := hL.2.2.1
  have hN := hL.1
  unfold fX8_of fX9_of
  rcases (ix a N (by omega)).symm with h | ⟨i, hi, rfl⟩
  · exact ⟨_, _, by rw [c_lf_no h9 hN h, cal_n, if_pos rfl], by rw [m_lf_no h94 hN h, cal_n, if_pos rfl], fun _ => rfl⟩
  simp only [c_lf_yes h9 hN hi, m_lf_yes h94 hN hi, cal_n, if_neg one_ne]
  obtain ⟨e1, e2, e3, e4, e5⟩ := hL.eqs hi
  have l40 : ∀ k, ln k = 40 → i < ln k := fun k hk => by omega
  have l240 : ∀ k, ln k = 240 → i < ln k := fun k hk => by omega
  by_cases c0 : b = 0
  · exact ⟨_, _, by rw [if_pos c0, rd_n (l40 10 rfl)], by rw [if_pos c0, rd_n (l240 95 rfl), e1], fun _ => rfl⟩
  by_cases c1 : b = 1
  · exact ⟨_, _, by rw [if_neg c0, if_pos c1, rd_n (l40 11 rfl)], by rw [if_neg c0, if_pos c1, rd_n (l240 96 rfl), e2], fun _ => rfl⟩
  by_cases c2 : b = 2
  · exact ⟨_, _, by rw [if_neg c0, if_neg c1, if_pos c2, rd_n (l40 12 rfl)], by rw [if_neg c0, if_neg c1, if_pos c2, rd_n (l240 97 rfl), e3], fun _ => rfl⟩
  by_cases c3 : b = 3
  · exact ⟨_, _, by rw [if_neg c0, if_neg c1, if_neg c2, if_pos c3, rd_n (l40 13 rfl)], by rw [if_neg c0, if_neg c1, if_neg c2, if_pos c3, rd_n (l240 98 rfl), e4], fun _ => rfl⟩
  by_cases c4 : b = 4
  · have ek : fX9_kindOf FF (nI i) μ = fX3_kindOf FF (nI i) μ := by
      unfold fX9_kindOf fX3_kindOf
      rw [rd_n (l240 95 rfl), rd_n (l240 96 rfl), rd_n (l40 10 rfl), rd_n (l40 11 rfl), rd_n (l240 95 rfl), rd_n (l240 96 rfl), rd_n (l40 10 rfl), rd_n (l40 11 rfl), e1, e2]
    have er : ∃ r, fX3_kindOf FF (nI i) μ = some (r, μ) := by
      unfold fX3_kindOf
      rw [rd_n (l40 10 rfl), rd_n (l40 11 rfl), rd_n (l40 10 rfl), rd_n (l40 11 rfl)]
      by_cases d1 : μ 10 i = 0
      · exact ⟨3, by rw [if_pos d1]⟩
      by_cases d2 : μ 11 i = 0
      · exact ⟨4, by rw [if_neg d1, if_pos d2]⟩
      by_cases d3 : μ 11 i < μ 10 i
      · exact ⟨2, by rw [if_neg d1, if_neg d2, if_pos d3]⟩
      · exact ⟨1, by rw [if_neg d1, if_neg d2, if_neg d3]⟩
    obtain ⟨r, hr⟩ := er
    exact ⟨r, r, by rw [if_neg c0, if_neg c1, if_neg c2, if_neg c3, if_pos c4, hr, cal_n], by rw [if_neg c0, if_neg c1, if_neg c2, if_neg c3, if_pos c4, ek, hr, cal_n], fun _ => rfl⟩
  by_cases c5 : b = 5
  · obtain ⟨t, t', p1, p2, -, -, p3⟩ := places hL hi
    exact ⟨_, _, by rw [if_neg c0, if_neg c1, if_neg c2, if_neg c3, if_neg c4, if_pos c5, p1, cal_n], by rw [if_neg c0, if_neg c1, if_neg c2, if_neg c3, if_neg c4, if_pos c5, p2, cal_n], fun hq => by rw [p3 hq]⟩
  exact ⟨_, _, by rw [if_neg c0, if_neg c1, if_neg c2, if_neg c3, if_neg c4, if_neg c5], by rw [if_neg c0, if_neg c1, if_neg c2, if_neg c3, if_neg c4, if_neg c5], fun _ => rfl⟩
theorem op_of (a b : Int32) : OpW wq (fX8_of FF a b) (fX9_of FF a b) := by
  intro μ hI
  obtain ⟨r, r', h1, h2, h3⟩ := of_both hI a b
  exact ⟨r, r', μ, μ, h1, h2, hI, h3⟩
end
section
/-! turning about -/
variable {wq : Prop}
def swi (i : Nat) (a b : Nat → Int32) : Nat → Int32 := fun x => if x < i then b x else a x
theorem swi_s {i : Nat} {a b : Nat → Int32} : upd (swi i a b) i (swi i b a i) = swi (i + 1) a b := by
  funext x
  have e : swi i b a i = b i := if_neg (by omega)
  rw [e]
  unfold upd swi
  by_cases h1 : x = i
  · rw [if_pos h1, if_pos (by omega), h1]
  · rw [if_neg h1]
    by_cases h2 : x < i
    · rw [if_pos h2, if_pos (by omega)]
    · rw [if_neg h2, if_neg (by omega)]
theorem swi_0 {a b : Nat → Int32} : swi 0 a b = a := funext fun x => if_neg (by omega)
theorem swi_lo {i x : Nat} {a b : Nat → Int32} (h : x < i) : swi i a b x = b x := if_pos h
theorem swi_hi {i x : Nat} {a b : Nat → Int32} (h : i ≤ x) : swi i a b x = a x := if_neg (by omega)
def T4 (k i : Nat) (μ : Mem) : Mem := upM (upM (upM (upM μ k (swi i (μ k) (μ (k + 1)))) (k + 1) (swi i (μ (k + 1)) (μ k))) (k + 2) (swi i (μ (k + 2)) (μ (k + 3)))) (k + 3) (swi i (μ (k + 3)) (μ (k + 2)))
theorem T4_a {k i : Nat} {μ : Mem} : T4 k i μ k = swi i (μ k) (μ (k + 1)) := by
  unfold T4
  rw [upM_ne (by omega), upM_ne (by omega), upM_ne (by omega), upM_self]
theorem T4_b {k i : Nat} {μ : Mem} : T4 k i μ (k + 1) = swi i (μ (k + 1)) (μ k) := by
  unfold T4
  rw [upM_ne (by omega), upM_ne (by omega), upM_self]
theorem T4_c {k i : Nat} {μ : Mem} : T4 k i μ (k + 2) = swi i (μ (k + 2)) (μ (k + 3)) := by
  unfold T4
  rw [upM_ne (by omega), upM_self]
theorem T4_d {k i : Nat} {μ : Mem} : T4 k i μ (k + 3) = swi i (μ (k + 3)) (μ (k + 2)) := by
  unfold T4
  rw [upM_self]
theorem T4_o {k i a : Nat} {μ : Mem} (h : a < k ∨ k + 4 ≤ a) : T4 k i μ a = μ a := by
  unfold T4
  rw [upM_ne (by omega), upM_ne (by omega), upM_ne (by omega), upM_ne (by omega)]
theorem T4_0 {k : Nat} {μ : Mem} : T4 k 0 μ = μ := by
  apply upM_ext
  intro a
  by_cases h : a < k ∨ k + 4 ≤ a
  · exact T4_o h
  · have h4 : a = k ∨ a = k + 1 ∨ a = k + 2 ∨ a = k + 3 := by omega
    rcases h4 with rfl | rfl | rfl | rfl
    · rw [T4_a, swi_0]
    · rw [T4_b, swi_0]
    · rw [T4_c, swi_0]
    · rw [T4_d, swi_0]
theorem T4_s {k i : Nat} {μ : Mem} : upM (upM (upM (upM (T4 k i μ) k (upd (T4 k i μ k) i (T4 k i μ (k + 1) i))) (k + 1) (upd (T4 k i μ (k + 1)) i (T4 k i μ k i))) (k + 2) (upd (T4 k i μ (k + 2)) i (T4 k i μ (k + 3) i))) (k + 3) (upd (T4 k i μ (k + 3)) i (T4 k i μ (k + 2) i)) = T4 k (i + 1) μ := by
  apply upM_ext
  intro a
  by_cases h : a < k ∨ k + 4 ≤ a
  · rw [upM_ne (by omega), upM_ne (by omega), upM_ne (by omega), upM_ne (by omega), T4_o h, T4_o h]
  · have h4 : a = k ∨ a = k + 1 ∨ a = k + 2 ∨ a = k + 3 := by omega
    rcases h4 with rfl | rfl | rfl | rfl
    · rw [upM_ne (by omega), upM_ne (by omega), upM_ne (by omega), upM_self, T4_a, T4_a, T4_b, swi_s]
    · rw [upM_ne (by omega), upM_ne (by omega), upM_self, T4_a, T4_b, T4_b, swi_s]
    · rw [upM_ne (by omega), upM_self, T4_c, T4_c, T4_d, swi_s]
    · rw [upM_self, T4_d, T4_c, T4_d, swi_s]
def rv (N : Nat) : Nat → (Nat → Int32) → Nat → Int32
  | 0, f => f
  | i + 1, f => swp (rv N i f) i (N - 1 - i)
theorem PermF.rv {N : Nat} {f : Nat → Int32} (h : PermF f N) : ∀ {i : Nat}, i ≤ N / 2 → PermF (rv N i f) N
  | 0, _ => h
  | i + 1, hi => (PermF.rv h (i := i) (by omega)).swp (by omega) (by omega)
theorem rv_congr {N : Nat} {f g : Nat → Int32} (h : ∀ k, k < N → f k = g k) : ∀ {i : Nat}, i ≤ N / 2 → ∀ k, k < N → rv N i f k = rv N i g k
  | 0, _ => h
  | i + 1, hi => swp_congr (rv_congr h (i := i) (by omega)) (by omega) (by omega)
theorem rv_out {N : Nat} {f : Nat → Int32} : ∀ {i : Nat}, i ≤ N / 2 → ∀ k, N ≤ k → rv N i f k = f k
  | 0, _, _, _ => rfl
  | i + 1, hi, k, hk => by
    show swp (rv N i f) i (N - 1 - i) k = _
    rw [swp_e, if_neg (by omega), if_neg (by omega)]
    exact rv_out (i := i) (by omega) k hk
theorem c_rv_loop {F N : Nat} {m : Mem} (hN : N ≤ 40) (h : m 9 6 = nI N) : ∀ (d n i : Nat), i + d = N / 2 → d < n → fX3_turnAbout_70 F n (nI i) (upM m 14 (rv N i (m 14))) = some (upM m 14 (rv N (N / 2) (m 14))) := by
  have hc : ∀ i, i ≤ N / 2 → ((nI N - 1) - nI i ≤ nI i ↔ i = N / 2) := fun i hi => by
    by_cases h0 : N = 0
    · subst h0
      obtain rfl : i = 0 := by omega
      exact ⟨fun _ => rfl, fun _ => by decide⟩
    · rw [show (1 : Int32) = nI 1 from rfl, nI_sub (by omega), nI_sub (by omega), nI_leI (by omega) (by omega)]
      omega
  intro d
  induction d with
  | zero =>
    intro n i hi hn
    obtain ⟨n, rfl⟩ : ∃ n', n = n' + 1 := ⟨n - 1, by omega⟩
    show fX3_turnAbout_70_b F _ _ _ = _
    unfold fX3_turnAbout_70_b
    rw [upM_ne (by omega), h, if_pos ((hc i (by omega)).mpr (by omega)), show i = N / 2 by omega]
  | succ d ih =>
    intro n i hi hn
    obtain ⟨n, rfl⟩ : ∃ n', n = n' + 1 := ⟨n - 1, by omega⟩
    show fX3_turnAbout_70_b F _ _ _ = _
    unfold fX3_turnAbout_70_b
    rw [upM_ne (by omega), h, if_neg (fun q => by have := (hc i (by omega)).mp q; omega), show (1 : Int32) = nI 1 from rfl, nI_sub (by omega), nI_sub (by omega), c_exch (by show i < 40; omega) (by show N - 1 - i < 40; omega), cav_n, upM_upM, upM_self, show nI i + nI 1 = nI (i + 1) from nI_add1 i]
    exact ih n (i + 1) (by omega) (by omega)
theorem m_rv_loop {F N : Nat} {m : Mem} (hN : N ≤ 40) : ∀ (d n i : Nat), i + d = N / 2 → d < n → fX9_turn_80 F n (nI N) (nI i) (upM m 99 (rv N i (m 99))) = some (1, upM (upM m 99 (rv N (N / 2) (m 99))) 89 (upd (m 89) 15 0)) := by
  have hc : ∀ i, i ≤ N / 2 → (nI N - 1 ≤ 2 * nI i ↔ i = N / 2) := fun i hi => by
    by_cases h0 : N = 0
    · subst h0
      obtain rfl : i = 0 := by omega
      exact ⟨fun _ => rfl, fun _ => by decide⟩
    · rw [show (1 : Int32) = nI 1 from rfl, nI_sub (by omega), show (2 : Int32) = nI 2 from rfl, pk_mul, nI_leI (by omega) (by omega)]
      omega
  intro d
  induction d with
  | zero =>
    intro n i hi hn
    obtain ⟨n, rfl⟩ : ∃ n', n = n' + 1 := ⟨n - 1, by omega⟩
    show fX9_turn_80_b F _ _ _ _ = _
    unfold fX9_turn_80_b
    rw [if_pos ((hc i (by omega)).mpr (by omega)), st_n, show i = N / 2 by omega]
    rfl
  | succ d ih =>
    intro n i hi hn
    obtain ⟨n, rfl⟩ : ∃ n', n = n' + 1 := ⟨n - 1, by omega⟩
    show fX9_turn_80_b F _ _ _ _ = _
    unfold fX9_turn_80_b
    rw [if_neg (fun q => by have := (hc i (by omega)).mp q; omega), show (1 : Int32) = nI 1 from rfl, nI_sub (by omega), nI_sub (by omega), rd_n (by show i < 240; omega), rd_n (by show N - 1 - i < 240; omega), wr_n (by show i < 240; omega), wr_n (by show N - 1 - i < 240; omega), show nI i + nI 1 = nI (i + 1) from nI_add1 i, upM_upM, upM_upM]
    simp only [upM_self]
    exact ih n (i + 1) (by omega) (by omega)
theorem c_turn_loop {F N : Nat} {m : Mem} (hN : N ≤ 40) (h : m 9 6 = nI N) : ∀ (d n i : Nat), i + d = N → d < n → fX3_turnAbout_2 F n (nI i) (T4 10 i m) = fX3_turnAbout_70 F F 0 (T4 10 N m) := by
  intro d
  induction d with
  | zero =>
    intro n i hi hn
    obtain ⟨n, rfl⟩ : ∃ n', n = n' + 1 := ⟨n - 1, by omega⟩
    show fX3_turnAbout_2_b F _ _ _ = _
    unfold fX3_turnAbout_2_b
    rw [T4_o (by omega), h, if_pos (nI_le (by omega) (by omega)), show i = N by omega]
  | succ d ih =>
    intro n i hi hn
    obtain ⟨n, rfl⟩ : ∃ n', n = n' + 1 := ⟨n - 1, by omega⟩
    show fX3_turnAbout_2_b F _ _ _ = _
    unfold fX3_turnAbout_2_b
    have l : i < 40 := by omega
    rw [T4_o (by omega), h, if_neg (nI_ge (by omega) (by omega)), rd_n l, rd_n l, wr_n l, wr_n l, rd_n l, rd_n l, wr_n l, wr_n l, nI_add1]
    exact (congrArg (fun q => fX3_turnAbout_2 F n (nI (i + 1)) q) (T4_s (k := 10) (i := i) (μ := m))).trans (ih n (i + 1) (by omega) (by omega))
theorem m_turn_loop {F N : Nat} {m : Mem} (hN : N ≤ 40) : ∀ (d n i : Nat), i + d = N → d < n → fX9_turn_13 F n (nI N) (nI i) (T4 95 i m) = fX9_turn_80 F F (nI N) 0 (T4 95 N m) := by
  intro d
  induction d with
  | zero =>
    intro n i hi hn
    obtain ⟨n, rfl⟩ : ∃ n', n = n' + 1 := ⟨n - 1, by omega⟩
    show fX9_turn_13_b F _ _ _ _ = _
    unfold fX9_turn_13_b
    rw [if_pos (nI_le (by omega) (by omega)), show i = N by omega]
  | succ d ih =>
    intro n i hi hn
    obtain ⟨n, rfl⟩ : ∃ n', n = n' + 1 := ⟨n - 1, by omega⟩
    show fX9_turn_13_b F _ _ _ _ = _
    unfold fX9_turn_13_b
    have l : i < 240 := by omega
    rw [if_neg (nI_ge (by omega) (by omega)), rd_n l, rd_n l, wr_n l, wr_n l, rd_n l, rd_n l, wr_n l, wr_n l, nI_add1]
    exact (congrArg (fun q => fX9_turn_13 F n (nI N) (nI (i + 1)) q) (T4_s (k := 95) (i := i) (μ := m))).trans (ih n (i + 1) (by omega) (by omega))
theorem op_turn : Op wq (fX8_turn FF) (fX9_turn FF) := by
  intro μ hI
  obtain ⟨N, μc, hL, c1, c2, c3⟩ := keepOp2 hI
  have h9 : μ 9 6 = nI N := hL.2.1
  have hN := hL.1
  obtain ⟨t, ht⟩ : ∃ t, t = upM (T4 10 N μc) 14 (rv N (N / 2) (μ 14)) := ⟨_, rfl⟩
  have e14 : T4 10 N μc 14 = μ 14 := by rw [T4_o (by omega), c2 14 (by omega) (by omega)]
  have ct : fX3_turnAbout FF μc = some t := by
    have a := c_turn_loop (F := FF) (m := μc) hN (by rw [c2 9 (by omega) (by omega)]; exact h9) N FF 0 (by omega) (by rw [FF_e]; omega)
    rw [T4_0] at a
    have b := c_rv_loop (F := FF) (m := T4 10 N μc) hN (by rw [T4_o (by omega), c2 9 (by omega) (by omega)]; exact h9) (N / 2) FF 0 (by omega) (by rw [FF_e]; omega)
    rw [show rv N 0 (T4 10 N μc 14) = T4 10 N μc 14 from rfl, upM_id, e14, ← ht] at b
    exact a.trans b
  have t2 : ∀ k, (k < 10 ∨ 15 ≤ k) → t k = μc k := fun k hk => by rw [ht, upM_ne (by omega), T4_o (by omega)]
  obtain ⟨μ1, hμ1⟩ : ∃ μ1, μ1 = upM t 53 (upd (μ 53) 2 0) := ⟨_, rfl⟩
  have u1 : ∀ k, k ≠ 53 → μ1 k = t k := fun k hk => by rw [hμ1, upM_ne hk]
  obtain ⟨μm, m1, m2, m3, m4, m5, m6⟩ := c3 μ1 (fun k hk => by rw [u1 k (by omega), t2 k (by omega), c2 k (by omega) (by omega)]) (fun k hk => by rw [u1 k (by omega), t2 k (by omega)])
  obtain ⟨μ2, hμ2⟩ : ∃ μ2, μ2 = upM (upM (T4 95 N μm) 99 (rv N (N / 2) (μm 99))) 89 (upd (μm 89) 15 0) := ⟨_, rfl⟩
  have mt : fX9_turn_13 FF FF (nI N) 0 μm = some (1, μ2) := by
    have a := m_turn_loop (F := FF) (m := μm) hN N FF 0 (by omega) (by rw [FF_e]; omega)
    rw [T4_0] at a
    have b := m_rv_loop (F := FF) (m := T4 95 N μm) hN (N / 2) FF 0 (by omega) (by rw [FF_e]; omega)
    rw [show rv N 0 (T4 95 N μm 99) = T4 95 N μm 99 from rfl, upM_id, T4_o (a := 99) (by omega), T4_o (a := 89) (by omega), ← hμ2] at b
    exact a.trans b
  have v1 : ∀ k, k ≠ 89 → (k < 95 ∨ 100 ≤ k) → μ2 k = μm k := fun k q1 q2 => by rw [hμ2, upM_ne q1, upM_ne (by omega), T4_o (by omega)]
  have f2 : ∀ k, (k < 10 ∨ 15 ≤ k) → k ≠ 53 → k ≠ 89 → (k < 94 ∨ 100 ≤ k) → k ≠ 16 → (k < 18 ∨ 53 ≤ k) → μ2 k = μ k := fun k q1 q2 q3 q4 q5 q6 => by rw [v1 k q3 (by omega), m2 k q3 q4, u1 k q2, t2 k q1, c2 k q5 q6]
  have g : ∀ k, 10 ≤ k → k < 15 → μ2 k = t k := fun k q1 q2 => by rw [v1 k (by omega) (by omega), m2 k (by omega) (by omega), u1 k (by omega)]
  have g4 : ∀ k, 10 ≤ k → k < 14 → μ2 k = T4 10 N μc k := fun k q1 q2 => by rw [g k q1 (by omega), ht, upM_ne (by omega)]
  have s10 : ∀ i, i < N → μ2 10 i = μ 11 i := fun i hi => by rw [g4 10 (by omega) (by omega), T4_a (k := 10), swi_lo hi, c2 11 (by omega) (by omega)]
  have s11 : ∀ i, i < N → μ2 11 i = μ 10 i := fun i hi => by rw [g4 11 (by omega) (by omega), T4_b (k := 10), swi_lo hi, c2 10 (by omega) (by omega)]
  have s12 : ∀ i, i < N → μ2 12 i = μ 13 i := fun i hi => by rw [g4 12 (by omega) (by omega), T4_c (k := 10), swi_lo hi, c2 13 (by omega) (by omega)]
  have s13 : ∀ i, i < N → μ2 13 i = μ 12 i := fun i hi => by rw [g4 13 (by omega) (by omega), T4_d (k := 10), swi_lo hi, c2 12 (by omega) (by omega)]
  have s14 : μ2 14 = rv N (N / 2) (μ 14) := by rw [g 14 (by omega) (by omega), ht, upM_self]
  have h4 : ∀ k, 95 ≤ k → k < 99 → μ2 k = T4 95 N μm k := fun k q1 q2 => by rw [hμ2, upM_ne (by omega), upM_ne (by omega)]
  have q : ∀ c, 95 ≤ c → c < 100 → ∀ k, k < N → μm c k = μ c k := fun c q1 q2 k hk => m5 c q1 q2 k (by omega)
  have f89 : ∀ j, j ≠ 15 → μ2 89 j = μm 89 j := fun j hj => by rw [hμ2, upM_self, upd_ne hj]
  have e99 : μ2 99 = rv N (N / 2) (μm 99) := by rw [hμ2, upM_ne (by omega), upM_self]
  refine ⟨1, μ1, μ2, ?_, ?_, Inv.alt (N := N) hI (fun k q1 q2 q3 => f2 k (by omega) (by omega) q3 q2 (by omega) (by omega)) (fun j q1 q2 => by rw [f89 j q2, m3 j q1]) ?_ ?_ ?_⟩
  · unfold fX8_turn
    rw [c1, cav_n, ct, cav_n, st_n, t2 53 (by omega), c2 53 (by omega) (by omega), ← hμ1]
  · unfold fX9_turn
    rw [m1, cav_n, show (0 : Int32) = nI 0 from rfl, rd_n (by decide), m4]
    exact mt
  · refine RelN.mk hN ?_ (by rw [v1 94 (by omega) (by omega)]; exact m4) (fun k hk => ?_) (by rw [e99]; exact (hL.oko.congr (fun k hk => q 99 (by omega) (by omega) k hk)).rv (by omega)) ⟨fun k hk => ?_, ?_⟩
    · rw [v1 9 (by omega) (by omega), m2 9 (by omega) (by omega), u1 9 (by omega), t2 9 (by omega), c2 9 (by omega) (by omega)]
      exact h9
    · obtain ⟨e1, e2, e3, e4, e5⟩ := hL.eqs hk
      refine ⟨?_, ?_, ?_, ?_, fun hq => ?_⟩
      · rw [s10 k hk, h4 95 (by omega) (by omega), T4_a (k := 95), swi_lo hk, q 96 (by omega) (by omega) k hk]; exact e2
      · rw [s11 k hk, h4 96 (by omega) (by omega), T4_b (k := 95), swi_lo hk, q 95 (by omega) (by omega) k hk]; exact e1
      · rw [s12 k hk, h4 97 (by omega) (by omega), T4_c (k := 95), swi_lo hk, q 98 (by omega) (by omega) k hk]; exact e4
      · rw [s13 k hk, h4 98 (by omega) (by omega), T4_d (k := 95), swi_lo hk, q 97 (by omega) (by omega) k hk]; exact e3
      · rw [s14, e99]
        exact rv_congr (fun k hk => ((hL.eqs hk).2.2.2.2 hq).trans (q 99 (by omega) (by omega) k hk).symm) (by omega) k hk
    · rw [s10 k hk, s11 k hk, s12 k hk, s13 k hk]
      obtain ⟨k1, k2, k3, k4⟩ := hL.oks.1 k hk
      exact ⟨k2, k1, k4, k3⟩
    · rw [s14]
      exact hL.oks.2.rv (by omega)
  · refine m6 _ (fun k hk => v1 k (by omega) (by omega)) (f89 11 (by decide)) (v1 94 (by omega) (by omega)) (fun c h1 h2 k hk => ?_)
    have h5 : c = 95 ∨ c = 96 ∨ c = 97 ∨ c = 98 ∨ c = 99 := by omega
    rcases h5 with rfl | rfl | rfl | rfl | rfl
    · rw [h4 95 (by omega) (by omega), T4_a (k := 95), swi_hi (by omega)]
    · rw [h4 96 (by omega) (by omega), T4_b (k := 95), swi_hi (by omega)]
    · rw [h4 97 (by omega) (by omega), T4_c (k := 95), swi_hi (by omega)]
    · rw [h4 98 (by omega) (by omega), T4_d (k := 95), swi_hi (by omega)]
    · rw [e99]
      exact rv_out (by omega) k (by omega)
  · have e53 : μ2 53 = upd (μ 53) 2 0 := by rw [v1 53 (by omega) (by omega), m2 53 (by omega) (by omega), hμ1, upM_self]
    refine hI.2.2.2.1.stale (f2 54 (by omega) (by omega) (by omega) (by omega) (by omega) (by omega)) (f2 100 (by omega) (by omega) (by omega) (by omega) (by omega) (by omega)) (by rw [e53, upd_ne (by decide)]) (by rw [e53, upd_s]) (by rw [f89 12 (by decide), m3 12 (by decide)]) (by rw [f89 14 (by decide), m3 14 (by decide)]) ?_
    rw [hμ2, upM_self, upd_s]
end
section
/-! loaves taken from two sheets -/
variable {wq : Prop}
theorem m_in_g {F : Nat} {x : Int32} {a b : Int64} {la lb : Int} {μ : Mem} (ha : a.toInt = la) (hb : b.toInt = lb) : fX9_in F x.toInt64 a b μ = some (if la ≤ x.toInt ∧ x.toInt ≤ lb then 1 else 0, μ) := by
  unfold fX9_in
  rw [if_m (q := x.toInt < la) (by rw [Int64.lt_iff_toInt_lt, Int32.toInt_toInt64, ha])]
  by_cases h : x.toInt < la
  · rw [if_pos h, if_neg (by omega), zr_0]
  · rw [if_neg h, if_m (q := lb < x.toInt) (by rw [Int64.lt_iff_toInt_lt, Int32.toInt_toInt64, hb])]
    by_cases h2 : lb < x.toInt
    · rw [if_pos h2, if_neg (by omega), zr_0]
    · rw [if_neg h2, if_pos (by omega), zr_1]
theorem fnd_take {μ : Mem} {f g : Mem → Option (Int32 × Mem)} (v : Int32) (hI : Inv wq μ) (hf : f μ = fX7_finding FF v μ) (hg : ∀ μ', (∀ k, k ≠ 1 → μ' k = μ k) → g μ' = fX9_met FF v μ') : ∃ r μ1 μ2, f μ = some (r, μ1) ∧ g μ1 = some (r, μ2) ∧ Inv wq μ2 := ⟨_, upM μ 1 (upd (μ 1) 3 v), _, hf.trans rfl, (hg _ (fun k hk => upM_ne hk)).trans rfl, fnd hI⟩
def Sp (x : Int32) : Prop := ∃ j, j ≤ 100000 ∧ x = nI j
theorem sp_no {x : Int32} (h : x < 0 ∨ nI 100000 < x) : ¬ Sp x := by
  rintro ⟨j, hj, rfl⟩
  refine small_no (n := 100000) (by decide) h ⟨?_, (nI_leI (by omega) (by omega)).mpr hj⟩
  exact (nI_leI (a := 0) (by omega) (by omega)).mpr (by omega)
theorem m_take_n {s t n N : Nat} {μ : Mem} (hs : s ≤ 3) (ht : t ≤ 3) (h1 : 1 ≤ n) (hn : N + n ≤ 40) (h94 : μ 94 0 = nI N) : fX9_take FF (nI s) (nI t) (nI n) μ = if μ 90 s < 0 then fX9_met FF 1 μ else if 0 ≤ μ 90 t then (if μ 91 s < nI n then fX9_met FF 2 μ else if nI n ≤ μ 91 t then fX9_take_98 FF FF (nI s) (nI t) (nI n) 0 μ else fX9_met FF 2 μ) else fX9_met FF 1 μ := by
  have en : (nI n).toInt = n := nI_toInt (by omega)
  unfold fX9_take
  rw [m_sh_yes hs, cal_n, if_neg one_ne, m_sh_yes ht, cal_n, if_neg one_ne, m_in_g (la := 1) (lb := 40) rfl rfl, if_pos (by omega), cal_n, if_neg one_ne, show (0 : Int32) = nI 0 from rfl, rd_n (by decide), h94, nI_add, show (40 : Int32) = nI 40 from rfl, ifle (by omega) (by omega), if_pos hn, rd_n (by show s < 4; omega), rd_n (by show t < 4; omega), rd_n (by show s < 4; omega), rd_n (by show t < 4; omega)]
  rfl
theorem c_take_n {s t n N zs zt : Nat} {μ : Mem} (hs : s ≤ 3) (ht : t ≤ 3) (h1 : 1 ≤ n) (hn : N + n ≤ 40) (h9 : μ 9 6 = nI N) (es : μ 3 s = nI zs) (et : μ 3 t = nI zt) (ls : zs ≤ 40) (lt : zt ≤ 40) : fX8_take FF (nI s) (nI t) (nI n) μ = if μ 2 s = -1 then fX7_finding FF 1 μ else if μ 2 t = -1 then fX7_finding FF 1 μ else if zs < n then fX7_finding FF 2 μ else if zt < n then fX7_finding FF 2 μ else cal (fX8_areSpans FF (5 + s) (nI n) μ) (fun r15 m14 => if r15 = 0 then some (-2, m14) else cal (fX8_areSpans FF (5 + t) (nI n) m14) (fun r18 m17 => if r18 = 0 then some (-2, m17) else cav (fX2_keep FF m17) (fun m19 => fX8_take_160 FF FF (nI s) (nI t) (nI n) 0 m19))) := by
  have en : (nI n).toInt = n := nI_toInt (by omega)
  have z0 : (0 : Int32) = nI 0 := rfl
  unfold fX8_take
  rw [c_sh_yes hs, cal_n, if_neg one_ne, c_sh_yes ht, cal_n, if_neg one_ne, if_neg (show ¬ nI n < (1 : Int32) from fun q => absurd ((nI_ltI (a := n) (b := 1) (by omega) (by omega)).mp q) (by omega)), show (40 : Int32) = nI 40 from rfl, if_pos (nI_le (by omega) (by omega)), h9, nI_add, ifle (by omega) (by omega), if_pos hn]
  unfold fX7_isLost
  rw [rd_n (by show s < 4; omega)]
  by_cases q1 : μ 2 s = -1
  · rw [if_pos q1, if_pos q1, zr_1, cal_n, if_neg one_ne]; rfl
  rw [if_neg q1, if_neg q1, zr_0, cal_n, if_pos rfl, rd_n (by show t < 4; omega)]
  by_cases q2 : μ 2 t = -1
  · rw [if_pos q2, if_pos q2, zr_1, cal_n, if_neg one_ne]; rfl
  rw [if_neg q2, if_neg q2, zr_0, cal_n, if_pos rfl]
  have e0 : (0 : Int32).toInt = 0 := rfl
  by_cases q3 : zs < n
  · rw [if_pos q3, c_has_no (by omega) ls es (by omega), cal_n, if_pos rfl]; rfl
  rw [if_neg q3, show fX7_hasItems FF (nI s) 0 (nI n) μ = some (1, μ) from c_has_yes (i := 0) (by omega) ls es (by omega), cal_n, if_neg one_ne]
  by_cases q4 : zt < n
  · rw [if_pos q4, c_has_no (by omega) lt et (by omega), cal_n, if_pos rfl]; rfl
  rw [if_neg q4, show fX7_hasItems FF (nI t) 0 (nI n) μ = some (1, μ) from c_has_yes (i := 0) (by omega) lt et (by omega), cal_n, if_neg one_ne]
  simp only [rr_n (show s < ln 4 by show s < 4; omega), rr_n (show t < ln 4 by show t < 4; omega), (gt4 (show s < 4 by omega)).1, (gt4 (show t < 4 by omega)).1]
theorem c_spans {F k N : Nat} {μ : Mem} (hN : N ≤ 40) (hk : ln k = 40) : ∀ (d n i : Nat), i + d = N → d < n → ((∀ j, i ≤ j → j < N → Sp (μ k j)) ∧ fX8_areSpans_2 F k n (nI N) (nI i) μ = some (1, μ)) ∨ ((∃ j, i ≤ j ∧ j < N ∧ ¬ Sp (μ k j)) ∧ fX8_areSpans_2 F k n (nI N) (nI i) μ = some (0, μ)) := by
  intro d
  induction d with
  | zero =>
    intro n i hi hn
    obtain ⟨n, rfl⟩ : ∃ n', n = n' + 1 := ⟨n - 1, by omega⟩
    left
    refine ⟨fun j h1 h2 => by omega, ?_⟩
    show fX8_areSpans_2_b F k _ _ _ _ = _
    unfold fX8_areSpans_2_b
    rw [if_pos (nI_le (by omega) (by omega)), zr_1]
  | succ d ih =>
    intro n i hi hn
    obtain ⟨n, rfl⟩ : ∃ n', n = n' + 1 := ⟨n - 1, by omega⟩
    have e : fX8_areSpans_2 F k (n + 1) (nI N) (nI i) μ = cal (fX8_isSpan F (μ k i) μ) (fun r3 m2 => (if r3 = 0 then zr 0 m2 else fX8_areSpans_2 F k n (nI N) (nI (i + 1)) m2)) := by
      show fX8_areSpans_2_b F k _ _ _ _ = _
      unfold fX8_areSpans_2_b
      rw [if_neg (nI_ge (by omega) (by omega)), rd_n (by omega), nI_add1]
    rw [e]
    rcases small (μ k i) 100000 (by decide) with h | ⟨x, hx, h⟩
    · right
      rw [c_sp_no h, cal_n, if_pos rfl, zr_0]
      exact ⟨⟨i, by omega, by omega, sp_no h⟩, rfl⟩
    · rw [h, c_sp_yes hx, cal_n, if_neg one_ne]
      rcases ih n (i + 1) (by omega) (by omega) with ⟨h1, h2⟩ | ⟨⟨j, j1, j2, j3⟩, h2⟩
      · left
        refine ⟨fun j j1 j2 => ?_, h2⟩
        by_cases hj : j = i
        · rw [hj]; exact ⟨x, hx, h⟩
        · exact h1 j (by omega) j2
      · right
        exact ⟨⟨j, by omega, j2, j3⟩, h2⟩
theorem m_spans {F s t N : Nat} {μ : Mem} (hN : N ≤ 40) (hs : s < 4) (ht : t < 4) : ∀ (d n i : Nat), i + d = N → d < n → ((∀ j, i ≤ j → j < N → Sp (μ 92 (40 * s + j)) ∧ Sp (μ 92 (40 * t + j))) ∧ fX9_take_98 F n (nI s) (nI t) (nI N) (nI i) μ = cav (fX9_keep F μ) (fun m20 => fX9_take_166 F F (nI s) (nI t) (nI N) 0 m20)) ∨ ((∃ j, i ≤ j ∧ j < N ∧ ¬ (Sp (μ 92 (40 * s + j)) ∧ Sp (μ 92 (40 * t + j)))) ∧ fX9_take_98 F n (nI s) (nI t) (nI N) (nI i) μ = some (-2, μ)) := by
  intro d
  induction d with
  | zero =>
    intro n i hi hn
    obtain ⟨n, rfl⟩ : ∃ n', n = n' + 1 := ⟨n - 1, by omega⟩
    left
    refine ⟨fun j h1 h2 => by omega, ?_⟩
    show fX9_take_98_b F _ _ _ _ _ _ = _
    unfold fX9_take_98_b
    rw [if_pos (nI_le (by omega) (by omega))]
  | succ d ih =>
    intro n i hi hn
    obtain ⟨n, rfl⟩ : ∃ n', n = n' + 1 := ⟨n - 1, by omega⟩
    have e : fX9_take_98 F (n + 1) (nI s) (nI t) (nI N) (nI i) μ = cal (fX9_in F (μ 92 (40 * s + i)).toInt64 0 100000 μ) (fun r23 m22 => (if r23 = 0 then some (-2, m22) else rd m22 92 (nI (40 * t + i)) (fun v24 => cal (fX9_in F v24.toInt64 0 100000 m22) (fun r26 m25 => (if r26 = 0 then some (-2, m25) else fX9_take_98 F n (nI s) (nI t) (nI N) (nI (i + 1)) m25))))) := by
      show fX9_take_98_b F _ _ _ _ _ _ = _
      unfold fX9_take_98_b
      rw [if_neg (nI_ge (by omega) (by omega)), mul40, mul40, rd_n (by show _ < 160; omega), nI_add1]
    rw [e]
    rcases small (μ 92 (40 * s + i)) 100000 (by decide) with h | ⟨x, hx, h⟩
    · right
      rw [m_sp_no h, cal_n, if_pos rfl]
      exact ⟨⟨i, by omega, by omega, fun q => sp_no h q.1⟩, rfl⟩
    rw [h, m_sp_yes hx, cal_n, if_neg one_ne, rd_n (by show _ < 160; omega)]
    rcases small (μ 92 (40 * t + i)) 100000 (by decide) with h' | ⟨y, hy, h'⟩
    · right
      rw [m_sp_no h', cal_n, if_pos rfl]
      exact ⟨⟨i, by omega, by omega, fun q => sp_no h' q.2⟩, rfl⟩
    rw [h', m_sp_yes hy, cal_n, if_neg one_ne]
    rcases ih n (i + 1) (by omega) (by omega) with ⟨h1, h2⟩ | ⟨⟨j, j1, j2, j3⟩, h2⟩
    · left
      refine ⟨fun j j1 j2 => ?_, h2⟩
      by_cases hj : j = i
      · rw [hj]; exact ⟨⟨x, hx, h⟩, ⟨y, hy, h'⟩⟩
      · exact h1 j (by omega) j2
    · right
      exact ⟨⟨j, by omega, j2, j3⟩, h2⟩
theorem c_take_loop {F s t N n : Nat} {μ : Mem} (hs : s < 4) (ht : t < 4) (hN : N + n ≤ 40) : ∀ (d w i : Nat), i + d = n → d < w → fX8_take_160 F w (nI s) (nI t) (nI n) (nI i) (cAdd N i (μ (5 + s)) (μ (5 + t)) μ) = some (nI (N + n), upM (cAdd N n (μ (5 + s)) (μ (5 + t)) μ) 53 (upd (μ 53) 2 0)) := by
  intro d
  induction d with
  | zero =>
    intro w i hi hw
    obtain ⟨w, rfl⟩ : ∃ n', w = n' + 1 := ⟨w - 1, by omega⟩
    obtain rfl : i = n := by omega
    show fX8_take_160_b F _ _ _ _ _ _ = _
    unfold fX8_take_160_b
    rw [if_pos (nI_le (by omega) (by omega)), st_n, cAdd_o (k := 53) (by omega)]
    rfl
  | succ d ih =>
    intro w i hi hw
    obtain ⟨w, rfl⟩ : ∃ n', w = n' + 1 := ⟨w - 1, by omega⟩
    show fX8_take_160_b F _ _ _ _ _ _ = _
    unfold fX8_take_160_b
    rw [if_neg (nI_ge (by omega) (by omega)), rr_n (by show s < 4; omega), (gt4 hs).1, rd_n (by rw [(gt4 hs).2]; omega), rr_n (by show t < 4; omega), (gt4 ht).1, rd_n (by rw [(gt4 ht).2]; omega), cAdd_o (k := 5 + s) (by omega), cAdd_o (k := 5 + t) (by omega), c_add (by omega), cav_n, nI_add1]
    exact ih w (i + 1) (by omega) (by omega)
theorem m_take_loop {F s t N n : Nat} {a b : Nat → Int32} {μ : Mem} (hs : s < 4) (ht : t < 4) (hN : N + n ≤ 40) (ha : ∀ i, i < n → μ 92 (40 * s + i) = a i) (hb : ∀ i, i < n → μ 92 (40 * t + i) = b i) : ∀ (d w i : Nat), i + d = n → d < w → fX9_take_166 F w (nI s) (nI t) (nI n) (nI i) (mAdd N i a b μ) = some (nI (N + n), mAdd N n a b μ) := by
  intro d
  induction d with
  | zero =>
    intro w i hi hw
    obtain ⟨w, rfl⟩ : ∃ n', w = n' + 1 := ⟨w - 1, by omega⟩
    obtain rfl : i = n := by omega
    show fX9_take_166_b F _ _ _ _ _ _ = _
    unfold fX9_take_166_b
    rw [if_pos (nI_le (by omega) (by omega)), show (0 : Int32) = nI 0 from rfl, rd_n (by decide)]
    rfl
  | succ d ih =>
    intro w i hi hw
    obtain ⟨w, rfl⟩ : ∃ n', w = n' + 1 := ⟨w - 1, by omega⟩
    show fX9_take_166_b F _ _ _ _ _ _ = _
    unfold fX9_take_166_b
    rw [if_neg (nI_ge (by omega) (by omega)), mul40, mul40, rd_n (by show _ < 160; omega), rd_n (by show _ < 160; omega), mAdd_o (k := 92) (by omega), ha i (by omega), hb i (by omega), m_come (by omega), cav_n, nI_add1]
    exact ih w (i + 1) (by omega) (by omega)
end
section
variable {wq : Prop}
theorem lost_lt2 {x : Int32} (h : x = -1) : x < 0 := by rw [h]; decide
theorem op_take (a b c : Int32) : Op wq (fX8_take FF a b c) (fX9_take FF a b c) := by
  intro μ hI
  rcases small a 3 (by decide) with h | ⟨s, hs, rfl⟩
  · unfold fX8_take fX9_take
    exact ⟨_, _, _, by rw [c_sh_no h, cal_n, if_pos rfl], by rw [m_sh_no h, cal_n, if_pos rfl], hI⟩
  rcases small b 3 (by decide) with h | ⟨t, ht, rfl⟩
  · unfold fX8_take fX9_take
    exact ⟨_, _, _, by rw [c_sh_yes hs, cal_n, if_neg one_ne, c_sh_no h, cal_n, if_pos rfl], by rw [m_sh_yes hs, cal_n, if_neg one_ne, m_sh_no h, cal_n, if_pos rfl], hI⟩
  obtain ⟨N, μc, hL, c1, c2, c3⟩ := keepOp hI
  have h9 : μ 9 6 = nI N := hL.2.1
  have h94 : μ 94 0 = nI N := hL.2.2.1
  have hN := hL.1
  by_cases hc : 1 ≤ c.toInt ∧ c.toInt ≤ 40
  rotate_left
  · unfold fX8_take fX9_take
    have em : (if 1 ≤ c.toInt ∧ c.toInt ≤ 40 then (1 : Int32) else 0) = 0 := if_neg hc
    refine ⟨-2, μ, μ, ?_, ?_, hI⟩
    · rw [c_sh_yes hs, cal_n, if_neg one_ne, c_sh_yes ht, cal_n, if_neg one_ne]
      by_cases q : c < 1
      · rw [if_pos q]
      · rw [if_neg q, if_neg]
        rw [Int32.lt_iff_toInt_lt, toInt_1] at q
        rw [Int32.le_iff_toInt_le, show (40 : Int32).toInt = 40 from rfl]
        omega
    · rw [m_sh_yes hs, cal_n, if_neg one_ne, m_sh_yes ht, cal_n, if_neg one_ne, m_in_g (la := 1) (lb := 40) rfl rfl, em, cal_n, if_pos rfl]
  obtain ⟨n, hn⟩ : ∃ n : Nat, c.toInt = n := ⟨c.toInt.toNat, by omega⟩
  obtain rfl : c = nI n := of_toInt hn (by omega)
  have n1 : 1 ≤ n := by omega
  have n40 : n ≤ 40 := by omega
  by_cases hS : N + n ≤ 40
  rotate_left
  · unfold fX8_take fX9_take
    refine ⟨-3, μ, μ, ?_, ?_, hI⟩
    · rw [c_sh_yes hs, cal_n, if_neg one_ne, c_sh_yes ht, cal_n, if_neg one_ne, if_neg (show ¬ nI n < (1 : Int32) from fun q => absurd ((nI_ltI (a := n) (b := 1) (by omega) (by omega)).mp q) (by omega)), show (40 : Int32) = nI 40 from rfl, if_pos (nI_le (by omega) (by omega)), h9, nI_add, ifle (by omega) (by omega), if_neg hS]
    · rw [m_sh_yes hs, cal_n, if_neg one_ne, m_sh_yes ht, cal_n, if_neg one_ne, m_in_g (la := 1) (lb := 40) rfl rfl, if_pos hc, cal_n, if_neg one_ne, show (0 : Int32) = nI 0 from rfl, rd_n (by decide), h94, nI_add, show (40 : Int32) = nI 40 from rfl, ifle (by omega) (by omega), if_neg hS]
  have hs4 : s < 4 := by omega
  have ht4 : t < 4 := by omega
  obtain ⟨a1, a2, a3, zs, a4, a5, a6⟩ := hI.1.2 s hs4
  obtain ⟨b1, b2, b3, zt, b4, b5, b6⟩ := hI.1.2 t ht4
  have hC := c_take_n (μ := μ) (N := N) hs ht n1 hS h9 a5 b5 a4 b4
  have hM : ∀ μ', (∀ k, k ≠ 1 → μ' k = μ k) → fX9_take FF (nI s) (nI t) (nI n) μ' = if μ 90 s < 0 then fX9_met FF 1 μ' else if 0 ≤ μ 90 t then (if μ 91 s < nI n then fX9_met FF 2 μ' else if nI n ≤ μ 91 t then fX9_take_98 FF FF (nI s) (nI t) (nI n) 0 μ' else fX9_met FF 2 μ') else fX9_met FF 1 μ' := fun μ' e => by
    have := m_take_n (μ := μ') (N := N) hs ht n1 hS (by rw [e 94 (by omega)]; exact h94)
    rw [e 90 (by omega), e 91 (by omega)] at this
    exact this
  rcases fo_ok a3 with q1 | ⟨q1, q1', -⟩
  · refine fnd_take (v := 1) hI (by rw [hC, if_pos q1]) (fun μ' e => ?_)
    rw [hM μ' e, if_pos (lost_lt2 (a1.symm.trans q1))]
  have r1 : ¬ μ 90 s < 0 := by rw [← a1]; exact fun w => absurd q1' (by rw [Int32.le_iff_toInt_le]; rw [Int32.lt_iff_toInt_lt] at w; omega)
  rcases fo_ok b3 with q2 | ⟨q2, q2', -⟩
  · refine fnd_take (v := 1) hI (by rw [hC, if_neg q1, if_pos q2]) (fun μ' e => ?_)
    rw [hM μ' e, if_neg r1, if_neg]
    rw [← b1, q2]
    exact neg_lost
  have r2 : 0 ≤ μ 90 t := by rw [← b1]; exact q2'
  by_cases q3 : zs < n
  · refine fnd_take (v := 2) hI (by rw [hC, if_neg q1, if_neg q2, if_pos q3]) (fun μ' e => ?_)
    rw [hM μ' e, if_neg r1, if_pos r2, ← a2, a5, iflt (by omega) (by omega), if_pos q3]
  by_cases q4 : zt < n
  · refine fnd_take (v := 2) hI (by rw [hC, if_neg q1, if_neg q2, if_neg q3, if_pos q4]) (fun μ' e => ?_)
    rw [hM μ' e, if_neg r1, if_pos r2, ← a2, a5, iflt (by omega) (by omega), if_neg q3, ← b2, b5, ifle (by omega) (by omega), if_neg (by omega)]
  have es : ∀ j, j < n → μ (5 + s) j = μ 92 (40 * s + j) := fun j hj => a6 j (by omega)
  have et : ∀ j, j < n → μ (5 + t) j = μ 92 (40 * t + j) := fun j hj => b6 j (by omega)
  have hM2 : ∀ μ', (∀ k, k ≠ 1 → μ' k = μ k) → fX9_take FF (nI s) (nI t) (nI n) μ' = fX9_take_98 FF FF (nI s) (nI t) (nI n) 0 μ' := fun μ' e => by
    rw [hM μ' e, if_neg r1, if_pos r2, ← a2, a5, iflt (by omega) (by omega), if_neg q3, ← b2, b5, ifle (by omega) (by omega), if_pos (by omega)]
  have hC2 : fX8_take FF (nI s) (nI t) (nI n) μ = cal (fX8_areSpans FF (5 + s) (nI n) μ) (fun r15 m14 => if r15 = 0 then some (-2, m14) else cal (fX8_areSpans FF (5 + t) (nI n) m14) (fun r18 m17 => if r18 = 0 then some (-2, m17) else cav (fX2_keep FF m17) (fun m19 => fX8_take_160 FF FF (nI s) (nI t) (nI n) 0 m19))) := by
    rw [hC, if_neg q1, if_neg q2, if_neg q3, if_neg q4]
  have hS1 := c_spans (F := FF) (k := 5 + s) (N := n) (μ := μ) n40 (gt4 hs4).2 n FF 0 (by omega) (by rw [FF_e]; omega)
  have hS2 := c_spans (F := FF) (k := 5 + t) (N := n) (μ := μ) n40 (gt4 ht4).2 n FF 0 (by omega) (by rw [FF_e]; omega)
  have hS3 := fun (μ' : Mem) => m_spans (F := FF) (s := s) (t := t) (N := n) (μ := μ') n40 hs4 ht4 n FF 0 (by omega) (by rw [FF_e]; omega)
  have u1 : fX8_areSpans FF (5 + s) (nI n) μ = fX8_areSpans_2 FF (5 + s) FF (nI n) (nI 0) μ := rfl
  have u2 : fX8_areSpans FF (5 + t) (nI n) μ = fX8_areSpans_2 FF (5 + t) FF (nI n) (nI 0) μ := rfl
  have bad : (∃ j, j < n ∧ ¬ (Sp (μ 92 (40 * s + j)) ∧ Sp (μ 92 (40 * t + j)))) → fX9_take FF (nI s) (nI t) (nI n) μ = some (-2, μ) := by
    rintro ⟨j, hj, hb⟩
    rw [hM2 μ (fun _ _ => rfl)]
    rcases hS3 μ with ⟨w1, w2⟩ | ⟨-, w2⟩
    · exact absurd (w1 j (by omega) hj) hb
    · exact w2
  rcases hS1 with ⟨p1, p2⟩ | ⟨⟨j, -, j2, j3⟩, p2⟩
  rotate_left
  · exact ⟨-2, μ, μ, by rw [hC2, u1, p2, cal_n, if_pos rfl], bad ⟨j, j2, fun w => j3 (by rw [es j j2]; exact w.1)⟩, hI⟩
  rcases hS2 with ⟨p3, p4⟩ | ⟨⟨j, -, j2, j3⟩, p4⟩
  rotate_left
  · exact ⟨-2, μ, μ, by rw [hC2, u1, p2, cal_n, if_neg one_ne, u2, p4, cal_n, if_pos rfl], bad ⟨j, j2, fun w => j3 (by rw [et j j2]; exact w.2)⟩, hI⟩
  have ks : μc (5 + s) = μ (5 + s) := c2 _ (by omega) (by omega)
  have kt : μc (5 + t) = μ (5 + t) := c2 _ (by omega) (by omega)
  have k53 : μc 53 = μ 53 := c2 53 (by omega) (by omega)
  obtain ⟨μ1, hμ1⟩ : ∃ μ1, μ1 = upM (cAdd N n (μ (5 + s)) (μ (5 + t)) μc) 53 (upd (μ 53) 2 0) := ⟨_, rfl⟩
  have lc : fX8_take_160 FF FF (nI s) (nI t) (nI n) 0 μc = some (nI (N + n), μ1) := by
    have := c_take_loop (F := FF) (N := N) (n := n) (μ := μc) hs4 ht4 hS n FF 0 (by omega) (by rw [FF_e]; omega)
    rw [cAdd_0 (by rw [c2 9 (by omega) (by omega)]; exact h9), ks, kt, k53, ← hμ1] at this
    exact this
  have k1 : ∀ k, 54 ≤ k → μ1 k = μ k := fun k hk => by rw [hμ1, upM_ne (by omega), cAdd_o (by omega), c2 k (by omega) (by omega)]
  obtain ⟨μm, m1, m2, m3, m4⟩ := c3 μ1 (fun k hk => k1 k (by omega)) (fun k hk => by rw [hμ1, upM_ne (by omega), cAdd_o (by omega)])
  have m92 : μm 92 = μ 92 := by rw [m2.at 92, k1 92 (by omega)]
  have m94 : μm 94 0 = nI N := by
    have := m3.1
    rw [show (MT μm 0).1 = μm 94 0 from rfl] at this
    rw [this]
    show μ1 94 0 = _
    rw [k1 94 (by omega)]
    exact h94
  have lm : fX9_take_166 FF FF (nI s) (nI t) (nI n) 0 μm = some (nI (N + n), mAdd N n (μ (5 + s)) (μ (5 + t)) μm) := by
    have := m_take_loop (F := FF) (N := N) (n := n) (μ := μm) (a := μ (5 + s)) (b := μ (5 + t)) hs4 ht4 hS (fun i hi => by rw [m92]; exact (es i hi).symm) (fun i hi => by rw [m92]; exact (et i hi).symm) n FF 0 (by omega) (by rw [FF_e]; omega)
    rw [mAdd_0 m94] at this
    exact this
  refine ⟨nI (N + n), μ1, mAdd N n (μ (5 + s)) (μ (5 + t)) μm, ?_, ?_, Inv.add hI hL hS n1 (fun i hi => p1 i (by omega) hi) (fun i hi => p3 i (by omega) hi) c2 hμ1 m2 m3 m4 rfl⟩
  · rw [hC2, u1, p2, cal_n, if_neg one_ne, u2, p4, cal_n, if_neg one_ne, c1, cav_n]
    exact lc
  · have g : fX9_take FF (nI s) (nI t) (nI n) μ1 = fX9_take_98 FF FF (nI s) (nI t) (nI n) 0 μ1 := by
      have := m_take_n (μ := μ1) (N := N) hs ht n1 hS (by rw [k1 94 (by omega)]; exact h94)
      rw [k1 90 (by omega), k1 91 (by omega), if_neg r1, if_pos r2, ← a2, a5, iflt (by omega) (by omega), if_neg q3, ← b2, b5, ifle (by omega) (by omega), if_pos (by omega)] at this
      exact this
    rw [g]
    rcases hS3 μ1 with ⟨-, w2⟩ | ⟨⟨j, -, j2, j3⟩, -⟩
    · rw [show (0 : Int32) = nI 0 from rfl, w2, m1, cav_n]
      exact lm
    · refine absurd ?_ j3
      rw [k1 92 (by omega), ← es j j2, ← et j j2]
      exact ⟨p1 j (by omega) j2, p3 j (by omega) j2⟩
end
section
/-! the bound -/
variable {wq : Prop}
def mnF (f : Nat → Int32) : Nat → Int32
  | 0 => 100000
  | n + 1 => imin (mnF f n) (f n)
theorem mnF_congr {f g : Nat → Int32} : ∀ {n : Nat}, (∀ i, i < n → f i = g i) → mnF f n = mnF g n
  | 0, _ => rfl
  | n + 1, h => by
    show imin (mnF f n) (f n) = imin (mnF g n) (g n)
    rw [mnF_congr (fun i hi => h i (by omega)), h n (by omega)]
theorem imin_le {a b : Int32} : (if a ≤ b then a else b) = imin a b := by
  unfold imin
  by_cases h : a ≤ b
  · rw [if_pos h, if_neg]
    rw [Int32.lt_iff_toInt_lt]
    rw [Int32.le_iff_toInt_le] at h
    omega
  · rw [if_neg h, if_pos]
    rw [Int32.lt_iff_toInt_lt]
    rw [Int32.le_iff_toInt_le] at h
    omega
theorem imax_le {a b : Int32} : (if a ≤ b then b else a) = imax a b := by
  unfold imax
  by_cases h : a < b
  · rw [if_pos h, if_pos]
    rw [Int32.le_iff_toInt_le]
    rw [Int32.lt_iff_toInt_lt] at h
    omega
  · rw [if_neg h]
    by_cases h2 : a ≤ b
    · rw [if_pos h2]
      rw [Int32.lt_iff_toInt_lt] at h
      rw [Int32.le_iff_toInt_le] at h2
      exact Int32.toInt_inj.mp (by omega)
    · rw [if_neg h2]
theorem c_least_loop {F k N : Nat} {μ : Mem} (hN : μ 9 6 = nI N) (hk : N ≤ ln k) : ∀ (d n i : Nat), i + d = N → d < n → fX3_leastOf_5 F k n (mnF (μ k) i) (nI i) μ = some (mnF (μ k) N, μ) := by
  have hl := ln_le k
  intro d
  induction d with
  | zero =>
    intro n i hi hn
    obtain ⟨n, rfl⟩ : ∃ n', n = n' + 1 := ⟨n - 1, by omega⟩
    show fX3_leastOf_5_b F k _ _ _ μ = _
    unfold fX3_leastOf_5_b
    rw [hN, if_pos (nI_le (by omega) (by omega)), show i = N by omega]
  | succ d ih =>
    intro n i hi hn
    obtain ⟨n, rfl⟩ : ∃ n', n = n' + 1 := ⟨n - 1, by omega⟩
    show fX3_leastOf_5_b F k _ _ _ μ = _
    unfold fX3_leastOf_5_b
    rw [hN, if_neg (nI_ge (by omega) (by omega)), rd_n (by omega), nI_add1]
    exact ih n (i + 1) (by omega) (by omega)
theorem c_least {k N : Nat} {μ : Mem} (hN : μ 9 6 = nI N) (hk : N ≤ ln k) : fX3_leastOf FF k μ = some (mnF (μ k) N, μ) := by
  have hl := ln_le k
  exact c_least_loop hN hk N FF 0 (by omega) (by rw [FF_e]; omega)
theorem m_bound_loop {N : Nat} {μ : Mem} (hN : μ 94 0 = nI N) (hk : N ≤ 40) : ∀ (d n i : Nat), i + d = N → d < n → fX9_bound_27 FF n (mnF (μ 95) i) (mnF (μ 96) i) (nI i) μ = some (imax (sumF (μ 95) N + mnF (μ 96) N) (sumF (μ 96) N + mnF (μ 95) N), μ) := by
  intro d
  induction d with
  | zero =>
    intro n i hi hn
    obtain ⟨n, rfl⟩ : ∃ n', n = n' + 1 := ⟨n - 1, by omega⟩
    obtain rfl : i = N := by omega
    show fX9_bound_27_b FF _ _ _ _ μ = _
    unfold fX9_bound_27_b
    rw [show (0 : Int32) = nI 0 from rfl, rd_n (by decide), hN, if_pos (nI_le (by omega) (by omega)), m_mix hN hk, cal_n, m_bake hN hk, cal_n, ← imax_le]
    by_cases h : sumF (μ 95) i + mnF (μ 96) i ≤ sumF (μ 96) i + mnF (μ 95) i
    · rw [if_pos h, if_pos h]
    · rw [if_neg h, if_neg h]
  | succ d ih =>
    intro n i hi hn
    obtain ⟨n, rfl⟩ : ∃ n', n = n' + 1 := ⟨n - 1, by omega⟩
    have i57 : ∀ z, fX9_bound_57 FF (fX9_bound_27 FF n) (mnF (μ 96) i) (nI i) z μ = fX9_bound_27 FF n z (mnF (μ 96) (i + 1)) (nI (i + 1)) μ := fun z => by
      unfold fX9_bound_57
      rw [rd_n (by show i < 240; omega), rd_n (by show i < 240; omega), nI_add1, show mnF (μ 96) (i + 1) = imin (mnF (μ 96) i) (μ 96 i) from rfl, ← imin_le]
      by_cases h : mnF (μ 96) i ≤ μ 96 i
      · rw [if_pos h, if_pos h]
      · rw [if_neg h, if_neg h]
    show fX9_bound_27_b FF _ _ _ _ μ = _
    unfold fX9_bound_27_b
    rw [show (0 : Int32) = nI 0 from rfl, rd_n (by decide), hN, if_neg (nI_ge (by omega) (by omega)), rd_n (by show i < 240; omega), rd_n (by show i < 240; omega), i57, i57]
    have e := ih n (i + 1) (by omega) (by omega)
    rw [show mnF (μ 95) (i + 1) = imin (mnF (μ 95) i) (μ 95 i) from rfl, ← imin_le] at e
    by_cases h : mnF (μ 95) i ≤ μ 95 i
    · rw [if_pos h] at e ⊢
      exact e
    · rw [if_neg h] at e ⊢
      exact e
theorem op_bound : Op wq (fX8_bound FF) (fX9_bound FF) := by
  intro μ hI
  obtain ⟨N, hL⟩ := hI.2.1
  have h9 : μ 9 6 = nI N := hL.2.1
  have h94 : μ 94 0 = nI N := hL.2.2.1
  have hN := hL.1
  unfold fX8_bound fX9_bound
  by_cases h0 : N = 0
  · subst h0
    refine ⟨0, μ, μ, by rw [h9, if_pos (show nI 0 = 0 from rfl)], ?_, hI⟩
    rw [show (0 : Int32) = nI 0 from rfl, rd_n (by decide), h94, if_pos rfl]
  have hn0 : ¬ nI N = 0 := fun q => h0 (nI_inj (b := 0) (by omega) (by omega) q)
  refine ⟨imax (sumF (μ 95) N + mnF (μ 96) N) (sumF (μ 96) N + mnF (μ 95) N), μ, μ, ?_, ?_, hI⟩
  · rw [h9, if_neg hn0, c_sum h9 (by show N ≤ 40; omega), cal_n, c_least h9 (by show N ≤ 40; omega), cal_n, c_sum h9 (by show N ≤ 40; omega), cal_n, c_least h9 (by show N ≤ 40; omega), cal_n]
    rw [sumF_congr (fun i hi => (hL.eqs hi).1), sumF_congr (fun i hi => (hL.eqs hi).2.1), mnF_congr (fun i hi => (hL.eqs hi).1), mnF_congr (fun i hi => (hL.eqs hi).2.1)]
  · have mn1 : ∀ k, (∃ x, x ≤ 100000 ∧ μ k 0 = nI x) → mnF (μ k) 1 = μ k 0 := by
      rintro k ⟨x, hx, e⟩
      show imin 100000 (μ k 0) = μ k 0
      rw [e, show (100000 : Int32) = nI 100000 from rfl, imin_n (by omega) (by omega), Nat.min_eq_right hx]
    have o := hL.oks.1 0 (by omega)
    have e := hL.eqs (i := 0) (by omega)
    have l := m_bound_loop h94 hN (N - 1) FF 1 (by omega) (by rw [FF_e]; omega)
    rw [mn1 95 (by rw [← e.1]; exact o.1), mn1 96 (by rw [← e.2.1]; exact o.2.1)] at l
    rw [show (0 : Int32) = nI 0 from rfl, rd_n (by decide), h94, if_neg (show ¬ nI N = nI 0 from hn0), rd_n (by decide), rd_n (by decide)]
    exact l
end
section
/-! the digest -/
variable {wq : Prop}
theorem dig20 {μ : Mem} (hI : Inv wq μ) {i : Nat} (r8 r9 : Int64 → Int32 → Mem → Option (Int64 × Mem)) : ∀ (d n k : Nat) (y y' : Int64), k + d = 6 → d < n → ∃ Y Y', fX8_digest_20 FF r8 n y (nI i) (nI k) μ = r8 Y (nI (i + 1)) μ ∧ fX9_digest_19 FF r9 n y' (nI i) (nI k) μ = r9 Y' (nI (i + 1)) μ ∧ (wq → y = y' → Y = Y') := by
  intro d
  induction d with
  | zero =>
    intro n k y y' hk hn
    obtain ⟨n, rfl⟩ : ∃ n', n = n' + 1 := ⟨n - 1, by omega⟩
    obtain rfl : k = 6 := by omega
    refine ⟨y, y', ?_, ?_, fun _ h => h⟩
    · show fX8_digest_20_b FF _ _ _ _ _ _ = _
      unfold fX8_digest_20_b
      rw [if_pos (show (5 : Int32) < nI 6 by decide), nI_add1]
    · show fX9_digest_19_b FF _ _ _ _ _ _ = _
      unfold fX9_digest_19_b
      rw [if_pos (show (6 : Int32) ≤ nI 6 by decide), nI_add1]
  | succ d ih =>
    intro n k y y' hk hn
    obtain ⟨n, rfl⟩ : ∃ n', n = n' + 1 := ⟨n - 1, by omega⟩
    obtain ⟨r, r', h1, h2, h3⟩ := of_both hI (nI i) (nI k)
    obtain ⟨Y, Y', e1, e2, e3⟩ := ih n (k + 1) (31 * y + r.toInt64) (31 * y' + r'.toInt64) (by omega) (by omega)
    refine ⟨Y, Y', ?_, ?_, fun q h => e3 q (by rw [h, h3 q])⟩
    · show fX8_digest_20_b FF _ _ _ _ _ _ = _
      unfold fX8_digest_20_b
      rw [show (5 : Int32) = nI 5 from rfl, if_neg (nI_nlt (by omega) (by omega)), h1, cal_n, nI_add1]
      exact e1
    · show fX9_digest_19_b FF _ _ _ _ _ _ = _
      unfold fX9_digest_19_b
      rw [show (6 : Int32) = nI 6 from rfl, if_neg (nI_ge (by omega) (by omega)), h2, cal_n, nI_add1]
      exact e2
theorem dig91 {μ : Mem} (hP : PR μ) : ∀ (d n k : Nat) (y : Int64), k + d = 8 → d < n → ∃ Y, fX8_digest_91 FF n y (nI k) μ = some (Y, μ) ∧ fX9_digest_87 FF n y (nI k) μ = some (Y, μ) := by
  intro d
  induction d with
  | zero =>
    intro n k y hk hn
    obtain ⟨n, rfl⟩ : ∃ n', n = n' + 1 := ⟨n - 1, by omega⟩
    obtain rfl : k = 8 := by omega
    refine ⟨y, ?_, ?_⟩
    · show fX8_digest_91_b FF _ _ _ _ = _
      unfold fX8_digest_91_b
      rw [if_pos (show (8 : Int32) ≤ nI 8 by decide)]
    · show fX9_digest_87_b FF _ _ _ _ = _
      unfold fX9_digest_87_b
      rw [if_pos (show (8 : Int32) ≤ nI 8 by decide)]
  | succ d ih =>
    intro n k y hk hn
    obtain ⟨n, rfl⟩ : ∃ n', n = n' + 1 := ⟨n - 1, by omega⟩
    obtain ⟨p1, p2, -⟩ := hP k (by omega)
    obtain ⟨Y, e1, e2⟩ := ih n (k + 1) (31 * (31 * y + (μ 74 k).toInt64) + (μ 75 k).toInt64) (by omega) (by omega)
    refine ⟨Y, ?_, ?_⟩
    · show fX8_digest_91_b FF _ _ _ _ = _
      unfold fX8_digest_91_b
      rw [show (8 : Int32) = nI 8 from rfl, if_neg (nI_ge (by omega) (by omega)), rd_n (by show k < 8; omega), rd_n (by show k < 8; omega), nI_add1]
      exact e1
    · show fX9_digest_87_b FF _ _ _ _ = _
      unfold fX9_digest_87_b
      rw [show (8 : Int32) = nI 8 from rfl, if_neg (nI_ge (by omega) (by omega)), rd_n (by show k < 8; omega), rd_n (by show k < 8; omega), nI_add1, ← p1, ← p2]
      exact e2
theorem dig55 {N : Nat} {μ : Mem} (hL : RelN wq N (CL μ) (MT μ 0)) : ∀ (d n k : Nat) (y y' : Int64), k + d = N → d < n → ∃ Y Y', fX8_digest_55 FF n y (nI k) μ = fX8_digest_91 FF FF Y 0 μ ∧ fX9_digest_55 FF n y' (nI k) μ = fX9_digest_87 FF FF Y' 0 μ ∧ (wq → y = y' → Y = Y') := by
  have h9 : μ 9 6 = nI N := hL.2.1
  have h94 : μ 94 0 = nI N := hL.2.2.1
  have hN := hL.1
  intro d
  induction d with
  | zero =>
    intro n k y y' hk hn
    obtain ⟨n, rfl⟩ : ∃ n', n = n' + 1 := ⟨n - 1, by omega⟩
    obtain rfl : k = N := by omega
    refine ⟨y, y', ?_, ?_, fun _ h => h⟩
    · show fX8_digest_55_b FF _ _ _ _ = _
      unfold fX8_digest_55_b
      rw [h9, if_pos (nI_le (by omega) (by omega))]
    · show fX9_digest_55_b FF _ _ _ _ = _
      unfold fX9_digest_55_b
      rw [show (0 : Int32) = nI 0 from rfl, rd_n (by decide), h94, if_pos (nI_le (by omega) (by omega))]
  | succ d ih =>
    intro n k y y' hk hn
    obtain ⟨n, rfl⟩ : ∃ n', n = n' + 1 := ⟨n - 1, by omega⟩
    obtain ⟨Y, Y', e1, e2, e3⟩ := ih n (k + 1) (31 * y + (μ 14 k).toInt64) (31 * y' + (μ 99 k).toInt64) (by omega) (by omega)
    refine ⟨Y, Y', ?_, ?_, fun q h => e3 q (by rw [h, (hL.eqs (i := k) (by omega)).2.2.2.2 q])⟩
    · show fX8_digest_55_b FF _ _ _ _ = _
      unfold fX8_digest_55_b
      rw [h9, if_neg (nI_ge (by omega) (by omega)), rd_n (by show k < 40; omega), nI_add1]
      exact e1
    · show fX9_digest_55_b FF _ _ _ _ = _
      unfold fX9_digest_55_b
      rw [show (0 : Int32) = nI 0 from rfl, rd_n (by decide), h94, if_neg (nI_ge (by omega) (by omega)), rd_n (by show k < 240; omega), nI_add1]
      exact e2
theorem dig6 {N : Nat} {μ : Mem} (hI : Inv wq μ) (hL : RelN wq N (CL μ) (MT μ 0)) : ∀ (d n k : Nat) (y y' : Int64), k + d = N → d < n → ∃ Y Y', fX8_digest_6 FF n y (nI k) μ = fX8_digest_55 FF FF Y 0 μ ∧ fX9_digest_6 FF n y' (nI k) μ = fX9_digest_55 FF FF Y' 0 μ ∧ (wq → y = y' → Y = Y') := by
  have h9 : μ 9 6 = nI N := hL.2.1
  have h94 : μ 94 0 = nI N := hL.2.2.1
  have hN := hL.1
  intro d
  induction d with
  | zero =>
    intro n k y y' hk hn
    obtain ⟨n, rfl⟩ : ∃ n', n = n' + 1 := ⟨n - 1, by omega⟩
    obtain rfl : k = N := by omega
    refine ⟨y, y', ?_, ?_, fun _ h => h⟩
    · show fX8_digest_6_b FF _ _ _ _ = _
      unfold fX8_digest_6_b
      rw [h9, if_pos (nI_le (by omega) (by omega))]
    · show fX9_digest_6_b FF _ _ _ _ = _
      unfold fX9_digest_6_b
      rw [show (0 : Int32) = nI 0 from rfl, rd_n (by decide), h94, if_pos (nI_le (by omega) (by omega))]
  | succ d ih =>
    intro n k y y' hk hn
    obtain ⟨n, rfl⟩ : ∃ n', n = n' + 1 := ⟨n - 1, by omega⟩
    obtain ⟨Y, Y', a1, a2, a3⟩ := dig20 hI (i := k) (fX8_digest_6 FF n) (fX9_digest_6 FF n) 6 FF 0 y y' (by omega) (by rw [FF_e]; omega)
    obtain ⟨Z, Z', e1, e2, e3⟩ := ih n (k + 1) Y Y' (by omega) (by omega)
    refine ⟨Z, Z', ?_, ?_, fun q h => e3 q (a3 q h)⟩
    · show fX8_digest_6_b FF _ _ _ _ = _
      unfold fX8_digest_6_b
      rw [h9, if_neg (nI_ge (by omega) (by omega))]
      exact a1.trans e1
    · show fX9_digest_6_b FF _ _ _ _ = _
      unfold fX9_digest_6_b
      rw [show (0 : Int32) = nI 0 from rfl, rd_n (by decide), h94, if_neg (nI_ge (by omega) (by omega))]
      exact a2.trans e2
theorem op_digest : ∀ μ, Inv wq μ → ∃ (r r' : Int64) (μ1 μ2 : Mem), fX8_digest FF μ = some (r, μ1) ∧ fX9_digest FF μ1 = some (r', μ2) ∧ Inv wq μ2 ∧ (wq → r = r') := by
  intro μ hI
  obtain ⟨N, hL⟩ := hI.2.1
  have hN := hL.1
  obtain ⟨X, X', a1, a2, a3⟩ := dig6 hI hL N FF 0 17 17 (by omega) (by rw [FF_e]; omega)
  obtain ⟨Y, Y', b1, b2, b3⟩ := dig55 hL N FF 0 X X' (by omega) (by rw [FF_e]; omega)
  obtain ⟨Z, c1, -⟩ := dig91 hI.2.2.2.2.2 8 FF 0 Y (by omega) (by rw [FF_e]; omega)
  obtain ⟨Z', d1, d2⟩ := dig91 hI.2.2.2.2.2 8 FF 0 Y' (by omega) (by rw [FF_e]; omega)
  refine ⟨Z, Z', μ, μ, (a1.trans b1).trans c1, (a2.trans b2).trans d2, hI, fun q => ?_⟩
  have e : Y = Y' := b3 q (a3 q rfl)
  rw [e] at c1
  have := c1.symm.trans d1
  injection this with h
  injection h
end
