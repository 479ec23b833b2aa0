variable {wq : Prop}
def srcK (K i : Nat) : Nat := if K = 5 then i + 1 else i
def KM (K N : Nat) (μ μ' : Mem) : Prop := μ' 89 11 = nI (min (K + 1) 5) ∧ (MT μ' (min (K + 1) 5)).1 = nI N ∧ Eq5 N (MT μ' (min (K + 1) 5)) (MT μ 0) ∧ ∀ i, 1 ≤ i → i < min (K + 1) 5 → ∀ n, n ≤ 40 → (MT μ (srcK K i)).1 = nI n → (MT μ' i).1 = nI n ∧ Eq5 n (MT μ' i) (MT μ (srcK K i))
theorem MT_fl {k : Nat} {μ : Mem} {g : Nat → Int32} : MT (upM μ 89 g) k = MT μ k := rfl
theorem m_keep_34 {K N : Nat} {μ : Mem} (hK : K < 5) (h : μ 89 11 = nI K) (hN : N ≤ 40) (h0 : μ 94 0 = nI N) : ∃ μ', fX9_keep_34 FF μ = some μ' ∧ Ag [94, 95, 96, 97, 98, 99] [11] μ μ' ∧ μ' 89 11 = nI (K + 1) ∧ (MT μ' (K + 1)).1 = nI N ∧ Eq5 N (MT μ' (K + 1)) (MT μ 0) ∧ ∀ k, k ≠ K + 1 → MS k μ μ' := by
  obtain ⟨m, f1, f2, f3, f4, f5⟩ := m_copyAll (a := 0) (b := K + 1) (N := N) (μ := upM μ 89 (upd (μ 89) 11 (nI (K + 1)))) (by omega) (by omega) (by omega) hN h0
  refine ⟨m, ?_, (Ag.fl (by decide)).tr (f2.mono (fun _ h => h) (fun _ h => by cases h)), ?_, f3, f4, f5⟩
  · unfold fX9_keep_34
    rw [st_n, h, nI_add1, show (upM μ 89 (upd (μ 89) 11 (nI (K + 1))) 89 11) = nI (K + 1) from rfl]
    exact (congrArg (fun o => cav o (fun m2 => some m2)) f1).trans rfl
  · rw [f2.fi 11]
    rfl
theorem m_keep {K N : Nat} {μ : Mem} (hK : K ≤ 5) (h : μ 89 11 = nI K) (hN : N ≤ 40) (h0 : μ 94 0 = nI N) (hs : ∀ i, 1 ≤ i → i ≤ K → ∃ n, n ≤ 40 ∧ μ 94 i = nI n) : ∃ μ', fX9_keep FF μ = some μ' ∧ Ag [94, 95, 96, 97, 98, 99] [11] μ μ' ∧ MS 0 μ μ' ∧ KM K N μ μ' := by
  by_cases h5 : K = 5
  · subst h5
    obtain ⟨n2, l2, s2⟩ := hs 2 (by omega) (by omega)
    obtain ⟨n3, l3, s3⟩ := hs 3 (by omega) (by omega)
    obtain ⟨n4, l4, s4⟩ := hs 4 (by omega) (by omega)
    obtain ⟨n5, l5, s5⟩ := hs 5 (by omega) (by omega)
    obtain ⟨m1, a1, a2, a3, a4, a5⟩ := m_copyAll (a := 2) (b := 1) (μ := μ) (by omega) (by omega) (by omega) l2 s2
    obtain ⟨m2, b1, b2, b3, b4, b5⟩ := m_copyAll (a := 3) (b := 2) (μ := m1) (by omega) (by omega) (by omega) l3 ((a5 3 (by omega)).1.trans s3)
    obtain ⟨m3, c1, c2, c3, c4, c5⟩ := m_copyAll (a := 4) (b := 3) (μ := m2) (by omega) (by omega) (by omega) l4 (((b5 4 (by omega)).1.trans (a5 4 (by omega)).1).trans s4)
    obtain ⟨m4, d1, d2, d3, d4, d5⟩ := m_copyAll (a := 5) (b := 4) (μ := m3) (by omega) (by omega) (by omega) l5 ((((c5 5 (by omega)).1.trans (b5 5 (by omega)).1).trans (a5 5 (by omega)).1).trans s5)
    have t0 : ∀ k, k ≠ 1 → k ≠ 2 → k ≠ 3 → k ≠ 4 → MS k μ m4 := fun k h1 h2 h3 h4 => (((a5 k h1).tr (b5 k h2)).tr (c5 k h3)).tr (d5 k h4)
    obtain ⟨m5, e1, e2, e3, e4, e5, e6⟩ := m_keep_34 (K := 4) (N := N) (μ := upM m4 89 (upd (m4 89) 11 4)) (by omega) rfl hN ((t0 0 (by omega) (by omega) (by omega) (by omega)).1.trans h0)
    have g : Ag [94, 95, 96, 97, 98, 99] [] μ m4 := ((a2.tr b2).tr c2).tr d2
    have e6' : ∀ k, k ≠ 5 → MS k m4 m5 := fun k hk => e6 k hk
    have hi : ∀ n i, 1 ≤ i → i < 5 → n ≤ 40 → (MT μ (i + 1)).1 = nI n → (MT m5 i).1 = nI n ∧ Eq5 n (MT m5 i) (MT μ (i + 1)) := by
      intro n i i1 i5 hn hz
      have q : i = 1 ∨ i = 2 ∨ i = 3 ∨ i = 4 := by omega
      rcases q with rfl | rfl | rfl | rfl
      · have ez : n = n2 := nI_inj (by omega) (by omega) (hz.symm.trans s2)
        subst ez
        have w : MS 1 m1 m5 := (((b5 1 (by omega)).tr (c5 1 (by omega))).tr (d5 1 (by omega))).tr (e6' 1 (by omega))
        exact ⟨w.1.trans a3, (w.2.less hn).tr a4⟩
      · have ez : n = n3 := nI_inj (by omega) (by omega) (hz.symm.trans s3)
        subst ez
        have w : MS 2 m2 m5 := ((c5 2 (by omega)).tr (d5 2 (by omega))).tr (e6' 2 (by omega))
        exact ⟨w.1.trans b3, ((w.2.less hn).tr b4).tr ((a5 3 (by omega)).2.less hn)⟩
      · have ez : n = n4 := nI_inj (by omega) (by omega) (hz.symm.trans s4)
        subst ez
        have w : MS 3 m3 m5 := (d5 3 (by omega)).tr (e6' 3 (by omega))
        exact ⟨w.1.trans c3, ((w.2.less hn).tr c4).tr ((((a5 4 (by omega)).tr (b5 4 (by omega))).2).less hn)⟩
      · have ez : n = n5 := nI_inj (by omega) (by omega) (hz.symm.trans s5)
        subst ez
        have w : MS 4 m4 m5 := e6' 4 (by omega)
        exact ⟨w.1.trans d3, ((w.2.less hn).tr d4).tr (((((a5 5 (by omega)).tr (b5 5 (by omega))).tr (c5 5 (by omega))).2).less hn)⟩
    refine ⟨m5, ?_, (g.mono (fun _ h => h) (fun _ h => by cases h)).tr ((Ag.fl (by decide)).tr e2), (t0 0 (by omega) (by omega) (by omega) (by omega)).tr (e6' 0 (by omega)), e3, e4, ?_, fun i i1 i5 n hn hz => hi n i i1 i5 hn hz⟩
    · have loop : ∀ q, (∃ n, q = n + 1 + 1 + 1 + 1 + 1) → fX9_keep_10 FF q (nI 1) μ = fX9_keep_34 FF (upM m4 89 (upd (m4 89) 11 4)) := by
        rintro q ⟨n, rfl⟩
        show fX9_keep_10_b FF (fX9_keep_10 FF (n + 1 + 1 + 1 + 1)) (nI 1) μ = _
        unfold fX9_keep_10_b
        rw [if_neg (show ¬ (5 : Int32) ≤ nI 1 by decide), nI_add1, a1, cav_n]
        show fX9_keep_10_b FF (fX9_keep_10 FF (n + 1 + 1 + 1)) (nI 2) m1 = _
        unfold fX9_keep_10_b
        rw [if_neg (show ¬ (5 : Int32) ≤ nI 2 by decide), nI_add1, b1, cav_n]
        show fX9_keep_10_b FF (fX9_keep_10 FF (n + 1 + 1)) (nI 3) m2 = _
        unfold fX9_keep_10_b
        rw [if_neg (show ¬ (5 : Int32) ≤ nI 3 by decide), nI_add1, c1, cav_n]
        show fX9_keep_10_b FF (fX9_keep_10 FF (n + 1)) (nI 4) m3 = _
        unfold fX9_keep_10_b
        rw [if_neg (show ¬ (5 : Int32) ≤ nI 4 by decide), nI_add1, d1, cav_n]
        show fX9_keep_10_b FF (fX9_keep_10 FF n) (nI 5) m4 = _
        unfold fX9_keep_10_b
        rw [if_pos (show (5 : Int32) ≤ nI 5 by decide), st_n]
      unfold fX9_keep
      rw [if_pos (by rw [h]; rfl), show (1 : Int32) = nI 1 from rfl, loop FF ⟨FF - 5, by have := FF_e; omega⟩]
      exact e1
    · exact e5.tr ((t0 0 (by omega) (by omega) (by omega) (by omega)).2.less hN)
  · obtain ⟨m, f1, f2, f3, f4, f5, f6⟩ := m_keep_34 (K := K) (N := N) (by omega) h hN h0
    have em : min (K + 1) 5 = K + 1 := by omega
    refine ⟨m, ?_, f2, f6 0 (by omega), by rw [em]; exact f3, by rw [em]; exact f4, by rw [em]; exact f5, fun i i1 i2 n hn hz => ?_⟩
    · unfold fX9_keep
      rw [h, if_neg]
      · exact f1
      · intro q
        exact h5 (nI_inj (by omega) (by omega) q)
    · unfold srcK at hz ⊢
      rw [if_neg h5] at hz ⊢
      exact ⟨(f6 i (by omega)).1.trans hz, (f6 i (by omega)).2.less hn⟩
/-- what is kept stays alike -/
theorem HI.kept {nx K N : Nat} {μ μ' : Mem} (hnx : nx < 5) (hK : K ≤ 5) (hj : ∀ j, j < K → Rel wq (CS μ ((nx + 4 - j) % 5)) (MT μ (K - j))) (hL : RelN wq N (CL μ) (MT μ 0)) (hc : KC nx K N μ μ') (hm : KM K N μ μ') : HI wq μ' := by
  obtain ⟨c1, c2, c3, c4, c5⟩ := hc
  obtain ⟨m1, m2, m3, m4⟩ := hm
  refine ⟨(nx + 1) % 5, min (K + 1) 5, Nat.mod_lt _ (by omega), by omega, c1, c2, m1, fun j hj2 => ?_⟩
  by_cases h0 : j = 0
  · subst h0
    rw [show ((nx + 1) % 5 + 4 - 0) % 5 = nx by omega, Nat.sub_zero]
    exact ⟨N, hL.congr (c3.trans hL.2.1.symm) (m2.trans hL.2.2.1.symm) c4 m3⟩
  · have e : ((nx + 1) % 5 + 4 - j) % 5 = (nx + 4 - (j - 1)) % 5 := by omega
    rw [e, c5 _ (Nat.mod_lt _ (by omega)) (by omega)]
    obtain ⟨n, hn⟩ := hj (j - 1) (by omega)
    have hs : srcK K (min (K + 1) 5 - j) = K - (j - 1) := by
      unfold srcK
      by_cases h5 : K = 5
      · rw [if_pos h5]; omega
      · rw [if_neg h5]; omega
    obtain ⟨q1, q2⟩ := m4 (min (K + 1) 5 - j) (by omega) (by omega) n hn.1 (by rw [hs]; exact hn.2.2.1)
    rw [hs] at q2
    exact ⟨n, hn.congr rfl (q1.trans hn.2.2.1.symm) (fun _ _ => ⟨rfl, rfl, rfl, rfl, rfl⟩) q2⟩
theorem HI.sizes {nx K : Nat} {μ : Mem} (hj : ∀ j, j < K → Rel wq (CS μ ((nx + 4 - j) % 5)) (MT μ (K - j))) : ∀ i, 1 ≤ i → i ≤ K → ∃ n, n ≤ 40 ∧ μ 94 i = nI n := by
  intro i h1 h2
  obtain ⟨n, hn⟩ := hj (K - i) (by omega)
  rw [show K - (K - i) = i by omega] at hn
  exact ⟨n, hn.1, hn.2.2.1⟩
theorem KC.ag {nx K N : Nat} {μ μ1 μ2 : Mem} (hnx : nx < 5) (h : KC nx K N μ μ1) (e : ∀ k, (k = 16 ∨ (18 ≤ k ∧ k < 53)) → μ2 k = μ1 k) : KC nx K N μ μ2 := by
  have ec : ∀ j, j < 5 → CS μ2 j = CS μ1 j := fun j hj => by
    unfold CS
    rw [e _ (by omega), e _ (by omega), e _ (by omega), e _ (by omega), e _ (by omega), e _ (by omega)]
  obtain ⟨c1, c2, c3, c4, c5⟩ := h
  refine ⟨by rw [e 16 (by omega)]; exact c1, by rw [e 16 (by omega)]; exact c2, by rw [ec nx hnx]; exact c3, by rw [ec nx hnx]; exact c4, fun j hj hn => by rw [ec j hj]; exact c5 j hj hn⟩
theorem KM.ag {K N : Nat} {μ μ1 μ2 : Mem} (hN40 : N ≤ 40) (h : KM K N μ μ1) (e11 : μ2 89 11 = μ1 89 11) (e : ∀ k, 1 ≤ k → k ≤ 5 → MS k μ1 μ2) : KM K N μ μ2 := by
  obtain ⟨m1, m2, m3, m4⟩ := h

  refine ⟨e11.trans m1, (e _ (by omega) (by omega)).1.trans m2, ?_, fun i i1 i2 n hn hz => ?_⟩
  · exact ((e (min (K + 1) 5) (by omega) (by omega)).2.less hN40).tr m3
  · obtain ⟨q1, q2⟩ := m4 i i1 i2 n hn hz
    exact ⟨(e i i1 (by omega)).1.trans q1, ((e i i1 (by omega)).2.less hn).tr q2⟩
