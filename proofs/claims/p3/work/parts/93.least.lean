/-! what is found: by the rule, and among all rows -/
variable {wq : Prop}
theorem Inv.fnd {μ μ' : Mem} (hI : Inv wq μ) (h : ∀ k, k ≠ 15 → (k < 53 ∨ 72 < k) → (k < 79 ∨ 88 < k) → k ≠ 100 → (k < 103 ∨ 115 < k) → k ≠ 89 → μ' k = μ k) (hj : ∀ j, j ≠ 12 → j ≠ 14 → j ≠ 15 → j ≠ 21 → j ≠ 22 → j ≠ 33 → μ' 89 j = μ 89 j) (hB : BT μ') (hR : RI μ') : Inv wq μ' := by
  have g : Ag (List.range' 53 20 ++ ([15, 100] ++ (List.range' 79 10 ++ List.range' 103 13))) [12, 14, 15, 21, 22, 33] μ μ' := by
    refine ⟨fun k h9 hk => ?_, fun j q => ?_⟩
    · simp only [List.mem_append, List.mem_range'_1, List.mem_cons, List.not_mem_nil, or_false, not_or, not_and] at hk
      exact h k (by omega) (by omega) (by omega) (by omega) (by omega) h9
    · simp only [List.mem_cons, List.not_mem_nil, or_false, not_or] at q
      exact hj j q.1 q.2.1 q.2.2.1 q.2.2.2.1 q.2.2.2.2.1 q.2.2.2.2.2
  have nm : ∀ k, k ∈ (List.range' 53 20 ++ ([15, 100] ++ (List.range' 79 10 ++ List.range' 103 13))) → k = 15 ∨ 53 ≤ k := fun k hk => by
    simp only [List.mem_append, List.mem_range'_1, List.mem_cons, List.not_mem_nil, or_false] at hk
    omega
  obtain ⟨i1, i2, i3, i4, i5, i6⟩ := hI
  exact ⟨i1.ag g, i2.ag g, i3.ag g ⟨fun k h1 h2 h3 => by have := nm k h3; omega, fun h3 => by have := nm 16 h3; omega⟩, hB, hR, i6.ag g⟩
theorem BT.mk {N : Nat} {μ : Mem} (hN : N ≤ 40) (h1 : μ 53 1 = nI N) (h2 : μ 53 2 = 1) (h12 : μ 89 12 = nI N) (h14 : μ 89 14 = 1) (h15 : μ 89 15 = 1) (he : ∀ i, i < N → μ 54 i = μ 100 i) (h9 : μ 9 6 = nI N) (hP : PermF (μ 54) N) : BT μ :=
  ⟨N, hN, h1, h12, he, Or.inr h14, Or.inr h15, fun q => absurd (h14.symm.trans q) one_ne, by rw [h14, h2, if_neg one_ne, h15], fun _ => ⟨h9, hP⟩⟩
theorem c_become0 {N : Nat} {μ : Mem} (hN : N ≤ 40) : ∃ μ', fX0_become FF 79 (nI N) μ = some μ' ∧ μ' 53 1 = nI N ∧ μ' 53 2 = 1 ∧ (∀ p, p < N → μ' 54 p = μ 79 p) ∧ ∀ k, k ≠ 53 → k ≠ 54 → μ' k = μ k := by
  obtain ⟨m1, f1, a1, b1, c1⟩ := cp_x (μ := μ) (a := 79) (b := 54) (n := N) (by show N ≤ 40; omega) (by show N ≤ 40; omega)
  refine ⟨upM m1 53 (upd (upd (m1 53) 1 (nI N)) 2 1), ?_, ?_, ?_, fun p hp => ?_, fun k h1 h2 => ?_⟩
  · unfold fX0_become
    rw [f1, st_n, st_n, upM_upM, upM_self]
  · rw [upM_self, upd_ne (by decide), upd_s]
  · rw [upM_self, upd_s]
  · rw [upM_ne (by omega)]; exact a1 p hp
  · rw [upM_ne h1, c1 k h2]
theorem scn_perm {N : Nat} {E : (Nat → Int32) → Int32} {S : (Nat → Int32) → Prop} : ∀ (d : Nat) (r b : Nat → Int32) (e : Int32), PermF r N → PermF b N → PermF (scn N E S d r e b).2 N
  | 0, _, _, _, _, h => h
  | d + 1, r, b, e, hP, h => by
    cases hx : nxR N r with
    | none => rw [scn_n hx]; exact h
    | some v =>
      obtain ⟨i, r'⟩ := v
      have hP' := (nxR_perm hP hx).1
      by_cases q : e ≤ E r'
      · rw [scn_le hx q]; exact scn_perm d r' b e hP' h
      · by_cases t : S r'
        · rw [scn_sk hx t]; exact scn_perm d r' b e hP' h
        · rw [scn_gt hx q t]; exact scn_perm d r' r' _ hP' hP'
theorem two_ne : ¬ nI 2 = (0 : Int32) := by decide
theorem least_places {N m : Nat} {μ : Mem} (hI : Inv wq μ) (hL : RelN wq N (CL μ) (MT μ 0)) (h7 : N ≤ 7) (hm : m ≤ 5) (h2 : 1 ≤ m) : ∃ r μ1 μ2, fX8_least_31 FF (nI 2) (nI m) μ = some (r, μ1) ∧ cav (fX9_firstRow FF μ1) (fun m4 => cal (fX9_endOf FF 105 (nI 2) (nI m) m4) (fun r6 m5 => cav (fX9_finds FF 105 m5) (fun m7 => fX9_least_89 FF FF (nI 2) (nI m) r6 m7))) = some (r, μ2) ∧ Inv wq μ2 := by
  have h9 : μ 9 6 = nI N := hL.2.1
  have h94 : μ 94 0 = nI N := hL.2.2.1
  obtain ⟨μs, f1, f2, f3, f4⟩ := follow_n (l := 2) (m := m) (μ := μ)
  obtain ⟨μa, a1, a2, a3⟩ := c_all (l := 2) (m := m) (y1 := 0) (μs := μs) hL h7 (by omega) hm (fun _ => h2) f2 f3 f4
  obtain ⟨μ1, b1, b2, b3, b4, b5⟩ := c_become0 (N := N) (μ := μa) (by omega)
  have nS : ¬ Sk 0 μ N idR := fun w => w.1 rfl
  have es : sca N (eN 2 m μ N) (Sk 0 μ N) (μ 79) = scn N (eN 2 m μ N) (Sk 0 μ N) 5040 idR (eN 2 m μ N idR) idR := if_neg nS
  rw [es] at a1 a2
  have k1 : ∀ k, k ≠ 53 → k ≠ 54 → k ≠ 71 → k ≠ 72 → k ≠ 79 → (k < 55 ∨ 60 < k) → μ1 k = μ k := fun k q1 q2 q3 q4 q5 q6 => by rw [b5 k q1 q2, a3 k q3 q4 q5 q6]
  have e94 : μ1 94 0 = nI N := by rw [k1 94 (by omega) (by omega) (by omega) (by omega) (by omega) (by omega)]; exact h94
  obtain ⟨μb, g1, g2, g3⟩ := m_begin (N := N) (μ := μ1) (by omega) e94
  have hr : ∀ p, p < N → μb 105 p = idR p := fun p hp => g2 p hp
  have hP : PermF (μb 105) N := idR_perm.congr hr
  have kb : ∀ k, 89 ≤ k → k ≠ 105 → μb k = μ k := fun k q1 q2 => by rw [g3 k q2, k1 k (by omega) (by omega) (by omega) (by omega) (by omega) (by omega)]
  obtain ⟨μe, d1, d2⟩ := m_row (l := 2) (m := m) (μ0 := μ) (μ := μb) hL (by omega) hm (fun _ => h2) hP (fun k q1 q2 => kb k (by omega) (by omega)) rfl
  have cE : ∀ r s : Nat → Int32, (∀ p, p < N → r p = s p) → eN 2 m μ N r = eN 2 m μ N s := fun r s h => eN_congr h
  rw [eN_congr hr] at d1
  obtain ⟨μf, j1, j2, j3, j4, j5, j6, j7⟩ := m_finds (N := N) (μ := μe) (by omega) (by rw [d2 94 (by omega), kb 94 (by omega) (by omega)]; exact h94)
  obtain ⟨μ2, n1, n2, n3, n4, n5, n6, n7⟩ := m_scan (l := 2) (m := m) (y1 := 0) (μ0 := μ) (ν := μe) rfl hL h7 (by omega) hm (fun _ => h2) (fun k q1 q2 => by rw [d2 k (by omega)]; exact kb k (by omega) (by omega)) 5040 FF (μb 105) (μb 105) (eN 2 m μ N idR) μf hP (by omega) (by rw [FF_e]; omega) (fun k q1 q2 q3 q4 q5 => j7 k q1 q2) j6 j3 j4 j5 (by rw [j7 105 (by omega) (by omega)]; exact d2 105 (by omega)) (fun p hp => by rw [j2 p hp, d2 105 (by omega)])
  obtain ⟨z1, z2⟩ := scn_congr (S := Sk 0 μ N) cE Sk.congr 5040 (μb 105) idR (eN 2 m μ N idR) (μb 105) idR hr hr
  rw [z1] at n1
  have kk : ∀ k, k ≠ 53 → k ≠ 54 → k ≠ 71 → k ≠ 72 → k ≠ 79 → (k < 55 ∨ 60 < k) → k ≠ 89 → k ≠ 100 → k ≠ 103 → k ≠ 104 → k ≠ 105 → μ2 k = μ k := fun k q1 q2 q3 q4 q5 q6 q7 q8 q9 qa qb => by rw [n3 k q7 q8 q9 qa qb, d2 k (by omega), g3 k qb, k1 k q1 q2 q3 q4 q5 q6]
  have c53 : ∀ k, k = 53 ∨ k = 54 → μ2 k = μ1 k := fun k q => by rw [n3 k (by omega) (by omega) (by omega) (by omega) (by omega), d2 k (by omega), g3 k (by omega)]
  have k89 : ∀ j, j ≠ 12 → j ≠ 14 → j ≠ 15 → μ2 89 j = μ 89 j := fun j q1 q2 q3 => by rw [n4 j q1 q2 q3, d2 89 (by omega), kb 89 (by omega) (by omega)]
  have q9 : μ2 9 6 = nI N := by rw [kk 9 (by omega) (by omega) (by omega) (by omega) (by omega) (by omega) (by omega) (by omega) (by omega) (by omega) (by omega)]; exact h9
  have hRI : RI μ2 := by
    have hR := hI.2.2.2.2.1
    unfold RI at hR ⊢
    rw [kk 61 (by omega) (by omega) (by omega) (by omega) (by omega) (by omega) (by omega) (by omega) (by omega) (by omega) (by omega), kk 115 (by omega) (by omega) (by omega) (by omega) (by omega) (by omega) (by omega) (by omega) (by omega) (by omega) (by omega), k89 33 (by decide) (by decide) (by decide)]
    exact hR
  have t54 : ∀ p, p < N → μ2 54 p = (scn N (eN 2 m μ N) (Sk 0 μ N) 5040 idR (eN 2 m μ N idR) idR).2 p := fun p hp => by rw [c53 54 (Or.inr rfl), b4 p hp]; exact a2 p hp
  refine ⟨(scn N (eN 2 m μ N) (Sk 0 μ N) 5040 idR (eN 2 m μ N idR) idR).1, μ1, μ2, ?_, ?_, hI.fnd (fun k q1 q2 q3 q4 q5 q6 => kk k (by omega) (by omega) (by omega) (by omega) (by omega) (by omega) q6 q4 (by omega) (by omega) (by omega)) (fun j q1 q2 q3 q4 q5 q6 => k89 j q1 q2 q3) (BT.mk (N := N) (by omega) (by rw [c53 53 (Or.inl rfl)]; exact b2) (by rw [c53 53 (Or.inl rfl)]; exact b3) n5 n6 n7 (fun i hi => by rw [t54 i hi, n2 i hi, z2 i hi]) q9 ((scn_perm 5040 idR idR _ idR_perm idR_perm).congr t54)) hRI⟩
  · unfold fX8_least_31 fX8_least_91
    rw [if_neg two_ne, f1, cav_n, if_neg (show ¬ nI 2 = 1 by decide), a1, cal_n, show μa 9 6 = nI N from by rw [a3 9 (by omega) (by omega) (by omega) (by omega)]; exact h9, b1, cav_n]
  · rw [g1, cav_n, d1, cal_n, j1, cav_n]
    exact n1
theorem least_shelf {N : Nat} {μ : Mem} (hI : Inv wq μ) (hL : RelN wq N (CL μ) (MT μ 0)) : ∃ r μ1 μ2, fX8_least_31 FF (nI 1) (nI 0) μ = some (r, μ1) ∧ cav (fX9_byRule FF 105 μ1) (fun m8 => cav (fX9_finds FF 105 m8) (fun m9 => cal (fX9_endOf FF 105 1 0 m9) (fun r11 m10 => some (r11, m10)))) = some (r, μ2) ∧ Inv wq μ2 := by
  have h9 : μ 9 6 = nI N := hL.2.1
  have h94 : μ 94 0 = nI N := hL.2.2.1
  have hN := hL.1
  obtain ⟨μs, f1, f2, f3, f4⟩ := follow_n (l := 1) (m := 0) (μ := μ)
  obtain ⟨μa, a1, a2, a3⟩ := c_byRule (k1 := 79) (μ := μs) hN (show N ≤ 40 from hN) (by omega) (by rw [f2 9 (by omega)]; exact h9)
  rw [f2 10 (by omega), f2 11 (by omega)] at a3
  have hPa : PermF (μa 79) N := by rw [a3]; exact srI_perm N
  obtain ⟨p1, p2⟩ := hPa.inj hN
  have p1' : ∀ i, i < N → tn (μa 79 i) < N := p1.1
  have ak : ∀ k, k ≠ 15 → k ≠ 79 → k ≠ 55 → μa k = μ k := fun k q1 q2 q3 => by rw [a2 k q1 q2, f2 k q3]
  obtain ⟨μe, e1, e2, e3⟩ := c_end_loop (l := 1) (m := 0) (k2 := 79) (X := fun p => μ 10 (tn (μa 79 p))) (B := fun p => μ 11 (tn (μa 79 p))) hN (show N ≤ 40 from hN) (by omega) (by omega) (by omega) (by omega) N FF 0 μa (by omega) (by rw [FF_e]; omega) ⟨by rw [ak 9 (by omega) (by omega) (by omega)]; exact h9, fun p hp => ⟨tn (μa 79 p), by have := p1' p hp; omega, p2 p hp, by rw [ak 10 (by omega) (by omega) (by omega)], by rw [ak 11 (by omega) (by omega) (by omega)]⟩⟩ (by rw [a2 55 (by omega) (by omega)]; exact f3) (by rw [a2 55 (by omega) (by omega)]; exact f4) (fun p hp => by omega)
  obtain ⟨μ1, b1, b2, b3, b4, b5⟩ := c_become0 (N := N) (μ := μe) hN
  have k1 : ∀ k, k ≠ 53 → k ≠ 54 → k ≠ 15 → k ≠ 79 → (k < 55 ∨ 60 < k) → μ1 k = μ k := fun k q1 q2 q3 q4 q5 => by rw [b5 k q1 q2, e2 k (by omega), ak k q3 q4 (by omega)]
  have km : ∀ k, 89 ≤ k → μ1 k = μ k := fun k q => k1 k (by omega) (by omega) (by omega) (by omega) (by omega)
  have q95 : ∀ i, i < N → μ1 95 i = μ 10 i ∧ μ1 96 i = μ 11 i := fun i hi => by
    rw [km 95 (by omega), km 96 (by omega)]
    exact ⟨(hL.eqs hi).1.symm, (hL.eqs hi).2.1.symm⟩
  have d1 := m_byRule (k1 := 105) (μ := μ1) (by omega) hN (show N ≤ 40 from hN) (by rw [km 94 (by omega)]; exact h94) (hL.ld.congr q95)
  obtain ⟨μr, hμr⟩ : ∃ μr, μr = upM μ1 105 (srI (ahd (μ1 95) (μ1 96)) (μ1 105) N) := ⟨_, rfl⟩
  rw [← hμr] at d1
  have rk : ∀ k, k ≠ 105 → μr k = μ1 k := fun k q => by rw [hμr, upM_ne q]
  have r105 : ∀ p, p < N → μr 105 p = μa 79 p := fun p hp => by
    rw [hμr, upM_self, a3]
    exact (rules_eq hN (fun i hi => ⟨(q95 i hi).1.symm, (q95 i hi).2.symm⟩) p hp).symm
  obtain ⟨μf, j1, j2, j3, j4, j5, j6, j7⟩ := m_finds (N := N) (μ := μr) hN (by rw [rk 94 (by omega), km 94 (by omega)]; exact h94)
  have fk : ∀ k, 94 ≤ k → k ≠ 100 → k ≠ 105 → μf k = μ k := fun k q1 q2 q3 => by rw [j7 k (by omega) q2, rk k q3, km k (by omega)]
  obtain ⟨μ2, n1, n2, n3⟩ := m_day (l := 1) (m := 0) (k1 := 105) (X := fun p => μ 10 (tn (μa 79 p))) (B := fun p => μ 11 (tn (μa 79 p))) (μ := μf) hN (show N ≤ 40 from hN) (by omega) (by omega) (by omega) (by omega) ⟨by rw [fk 94 (by omega) (by omega) (by omega)]; exact h94, fun p hp => ⟨tn (μa 79 p), by have := p1' p hp; omega, by rw [j7 105 (by omega) (by omega), r105 p hp]; exact p2 p hp, by rw [fk 95 (by omega) (by omega) (by omega)]; exact (hL.eqs (p1' p hp)).1.symm, by rw [fk 96 (by omega) (by omega) (by omega)]; exact (hL.eqs (p1' p hp)).2.1.symm⟩⟩
  have kk : ∀ k, k ≠ 53 → k ≠ 54 → k ≠ 15 → k ≠ 79 → (k < 55 ∨ 60 < k) → k ≠ 89 → k ≠ 100 → k ≠ 103 → k ≠ 104 → k ≠ 105 → μ2 k = μ k := fun k q1 q2 q3 q4 q5 q6 q7 q8 q9 qa => by rw [n2 k (by omega), j7 k q6 q7, rk k qa, k1 k q1 q2 q3 q4 q5]
  have c53 : ∀ k, k = 53 ∨ k = 54 → μ2 k = μ1 k := fun k q => by rw [n2 k (by omega), j7 k (by omega) (by omega), rk k (by omega)]
  have k89 : ∀ j, j ≠ 12 → j ≠ 14 → j ≠ 15 → μ2 89 j = μ 89 j := fun j q1 q2 q3 => by rw [n2 89 (by omega), j6 j q1 q2 q3, rk 89 (by omega), km 89 (by omega)]
  have hRI : RI μ2 := by
    have hR := hI.2.2.2.2.1
    unfold RI at hR ⊢
    rw [kk 61 (by omega) (by omega) (by omega) (by omega) (by omega) (by omega) (by omega) (by omega) (by omega) (by omega), kk 115 (by omega) (by omega) (by omega) (by omega) (by omega) (by omega) (by omega) (by omega) (by omega) (by omega), k89 33 (by decide) (by decide) (by decide)]
    exact hR
  have t54 : ∀ p, p < N → μ2 54 p = μa 79 p := fun p hp => by rw [c53 54 (Or.inr rfl), b4 p hp, e2 79 (by omega)]
  refine ⟨(dy 1 0 (fun p => μ 10 (tn (μa 79 p))) (fun p => μ 11 (tn (μa 79 p))) N).2.1, μ1, μ2, ?_, ?_, hI.fnd (fun k q1 q2 q3 q4 q5 q6 => kk k (by omega) (by omega) (by omega) (by omega) (by omega) q6 q4 (by omega) (by omega) (by omega)) (fun j q1 q2 q3 q4 q5 q6 => k89 j q1 q2 q3) (BT.mk (N := N) hN (by rw [c53 53 (Or.inl rfl)]; exact b2) (by rw [c53 53 (Or.inl rfl)]; exact b3) (by rw [n2 89 (by omega)]; exact j3) (by rw [n2 89 (by omega)]; exact j4) (by rw [n2 89 (by omega)]; exact j5) (fun i hi => by rw [t54 i hi, n2 100 (by omega), j2 i hi, r105 i hi]) (by rw [kk 9 (by omega) (by omega) (by omega) (by omega) (by omega) (by omega) (by omega) (by omega) (by omega) (by omega)]; exact h9) (hPa.congr t54)) hRI⟩
  · unfold fX8_least_31 fX8_least_91
    rw [if_neg (show ¬ nI 1 = 0 by decide), f1, cav_n, if_pos (show nI 1 = 1 from rfl), a1, cav_n]
    unfold fX1_endOf
    rw [show (0 : Int32) = nI 0 from rfl, e1, cal_n, e2 9 (by omega), ak 9 (by omega) (by omega) (by omega), h9, b1, cav_n]
  · rw [d1, cav_n, j1, cav_n, show (1 : Int32) = nI 1 from rfl, show (0 : Int32) = nI 0 from rfl, n1, cal_n]
